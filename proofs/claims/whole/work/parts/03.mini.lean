/-! a small machine over a heap that is a function: its steps, its calls, and rules for going through it -/
abbrev mj_C : Type := (Nat × vp_A) ⊕ (Nat × List Value)
abbrev mj_H : Type := Nat → mj_C
abbrev mj_L : Type := List (Option Value)
abbrev mj_B : Type := Nat → List Value → mj_H → Option Value → mj_H → Prop
def mj_up (h : mj_H) (a : Nat) (c : mj_C) : mj_H := fun i => if i = a then c else h i
def mj_upL (f : Nat → Int64) (k : Nat) (x : Int64) : Nat → Int64 := fun j => if j = k then x else f j
def mj_at : List mj_E → Nat → Option (Instr × Nat × Nat × Int32)
  | [], _ => none
  | (p, i, nx, aux, cv, _) :: r, pc => match Nat.beq p pc with
    | true => some (i, nx, aux, cv)
    | false => mj_at r pc
def mj_blank (L : mj_L) : Nat → mj_L
  | 0 => L
  | j + 1 => match L[j]? with
    | some (some (.long _)) => L.set j none
    | some (some (.double _)) => L.set j none
    | _ => L
def mj_set1 (L : mj_L) (i : Nat) (v : Value) : mj_L := (mj_blank L i).set i (some v)
def mj_set2 (L : mj_L) (i : Nat) (v : Value) : mj_L := ((mj_blank L i).set i (some v)).set (i + 1) none
def mj_one : Value → Bool
  | .long _ => false
  | .double _ => false
  | _ => true
def mj_ldi (L : mj_L) (i nx : Nat) (st : List Value) : Option (Nat × mj_L × List Value) := match L[i]? with
  | some (some (.int x)) => some (nx, L, .int x :: st)
  | _ => none
def mj_ldl (L : mj_L) (i nx : Nat) (st : List Value) : Option (Nat × mj_L × List Value) := match L[i]? with
  | some (some (.long x)) => some (nx, L, .long x :: st)
  | _ => none
def mj_lda (L : mj_L) (i nx : Nat) (st : List Value) : Option (Nat × mj_L × List Value) := match L[i]? with
  | some (some (.ref x)) => some (nx, L, .ref x :: st)
  | _ => none
def mj_sti (L : mj_L) (i nx : Nat) (st : List Value) : Option (Nat × mj_L × List Value) := match st with
  | .int x :: r => match Nat.ble (i + 1) L.length with
    | true => some (nx, mj_set1 L i (.int x), r)
    | false => none
  | _ => none
def mj_sta (L : mj_L) (i nx : Nat) (st : List Value) : Option (Nat × mj_L × List Value) := match st with
  | .ref x :: r => match Nat.ble (i + 1) L.length with
    | true => some (nx, mj_set1 L i (.ref x), r)
    | false => none
  | _ => none
def mj_stl (L : mj_L) (i nx : Nat) (st : List Value) : Option (Nat × mj_L × List Value) := match st with
  | .long x :: r => match Nat.ble (i + 2) L.length with
    | true => some (nx, mj_set2 L i (.long x), r)
    | false => none
  | _ => none
def mj_inc (L : mj_L) (i nx : Nat) (cv : Int32) (st : List Value) : Option (Nat × mj_L × List Value) := match L[i]? with
  | some (some (.int x)) => match Nat.ble (i + 1) L.length with
    | true => some (nx, mj_set1 L i (.int (x + cv)), st)
    | false => none
  | _ => none
/-- two ints, the upper one second -/
def mj_op2 (f : Int32 → Int32 → Int32) (L : mj_L) (nx : Nat) (st : List Value) : Option (Nat × mj_L × List Value) := match st with
  | .int y :: .int x :: r => some (nx, L, .int (f x y) :: r)
  | _ => none
def mj_op2l (f : Int64 → Int64 → Int64) (L : mj_L) (nx : Nat) (st : List Value) : Option (Nat × mj_L × List Value) := match st with
  | .long y :: .long x :: r => some (nx, L, .long (f x y) :: r)
  | _ => none
def mj_op1 (f : Int32 → Value) (L : mj_L) (nx : Nat) (st : List Value) : Option (Nat × mj_L × List Value) := match st with
  | .int x :: r => some (nx, L, f x :: r)
  | _ => none
def mj_op1l (f : Int64 → Value) (L : mj_L) (nx : Nat) (st : List Value) : Option (Nat × mj_L × List Value) := match st with
  | .long x :: r => some (nx, L, f x :: r)
  | _ => none
def mj_ushr (x y : Int32) : Int32 := (x.toUInt32 >>> (y.toUInt32 &&& Int32.toUInt32 31)).toInt32
/-- what touches no heap and can't fail -/
def mj_pure (i : Instr) (nx aux : Nat) (cv : Int32) (L : mj_L) (st : List Value) : Option (Nat × mj_L × List Value) := match i with
  | .iconst _ => some (nx, L, .int cv :: st)
  | .bipush _ => some (nx, L, .int cv :: st)
  | .sipush _ => some (nx, L, .int cv :: st)
  | .ldc _ => some (nx, L, .int cv :: st)
  | .ldc_w _ => some (nx, L, .int cv :: st)
  | .ldc2_w _ => some (nx, L, .long (Int64.ofNat aux) :: st)
  | .lconst n => match n.val with
    | 0 => some (nx, L, .long 0 :: st)
    | _ => some (nx, L, .long 1 :: st)
  | .iload_n k => mj_ldi L k.val nx st
  | .iload k => mj_ldi L k nx st
  | .lload_n k => mj_ldl L k.val nx st
  | .lload k => mj_ldl L k nx st
  | .aload_n k => mj_lda L k.val nx st
  | .aload k => mj_lda L k nx st
  | .istore_n k => mj_sti L k.val nx st
  | .istore k => mj_sti L k nx st
  | .lstore_n k => mj_stl L k.val nx st
  | .lstore k => mj_stl L k nx st
  | .astore_n k => mj_sta L k.val nx st
  | .astore k => mj_sta L k nx st
  | .iinc k _ => mj_inc L k nx cv st
  | .iadd => match st with
    | .int y :: .int x :: r => some (nx, L, .int (x + y) :: r)
    | _ => none
  | .isub => match st with
    | .int y :: .int x :: r => some (nx, L, .int (x - y) :: r)
    | _ => none
  | .imul => match st with
    | .int y :: .int x :: r => some (nx, L, .int (x * y) :: r)
    | _ => none
  | .iand => match st with
    | .int y :: .int x :: r => some (nx, L, .int (x &&& y) :: r)
    | _ => none
  | .ior => match st with
    | .int y :: .int x :: r => some (nx, L, .int (x ||| y) :: r)
    | _ => none
  | .ixor => match st with
    | .int y :: .int x :: r => some (nx, L, .int (x ^^^ y) :: r)
    | _ => none
  | .ishl => match st with
    | .int y :: .int x :: r => some (nx, L, .int (x <<< (y &&& 31)) :: r)
    | _ => none
  | .ishr => match st with
    | .int y :: .int x :: r => some (nx, L, .int (x >>> (y &&& 31)) :: r)
    | _ => none
  | .iushr => match st with
    | .int y :: .int x :: r => some (nx, L, .int (mj_ushr x y) :: r)
    | _ => none
  | .ladd => match st with
    | .long y :: .long x :: r => some (nx, L, .long (x + y) :: r)
    | _ => none
  | .lsub => match st with
    | .long y :: .long x :: r => some (nx, L, .long (x - y) :: r)
    | _ => none
  | .lmul => match st with
    | .long y :: .long x :: r => some (nx, L, .long (x * y) :: r)
    | _ => none
  | .i2l => match st with
    | .int x :: r => some (nx, L, .long x.toInt64 :: r)
    | _ => none
  | .i2b => match st with
    | .int x :: r => some (nx, L, .int x.toInt8.toInt32 :: r)
    | _ => none
  | .i2s => match st with
    | .int x :: r => some (nx, L, .int x.toInt16.toInt32 :: r)
    | _ => none
  | .i2c => match st with
    | .int x :: r => some (nx, L, .int (x.toUInt32 % 65536).toInt32 :: r)
    | _ => none
  | .l2i => match st with
    | .long x :: r => some (nx, L, .int x.toInt32 :: r)
    | _ => none
  | .lneg => match st with
    | .long x :: r => some (nx, L, .long (-x) :: r)
    | _ => none
  | .lcmp => match st with
    | .long y :: .long x :: r => some (nx, L, .int (lg_cmp x y) :: r)
    | _ => none
  | .dup => match st with
    | v :: r => match mj_one v with
      | true => some (nx, L, v :: v :: r)
      | false => none
    | _ => none
  | .pop => match st with
    | v :: r => match mj_one v with
      | true => some (nx, L, r)
      | false => none
    | _ => none
  | .dup_x1 => match st with
    | v :: w :: r => match mj_one v && mj_one w with
      | true => some (nx, L, v :: w :: v :: r)
      | false => none
    | _ => none
  | .dup2 => match st with
    | v :: w :: r => match mj_one v && mj_one w with
      | true => some (nx, L, v :: w :: v :: w :: r)
      | false => none
    | _ => none
  | .goto _ => some (aux, L, st)
  | _ => none
/-- a branch's question -/
def mj_ask (i : Instr) (st : List Value) : Option (Prop × List Value) := match i with
  | .ifCond q _ => match st with
    | .int x :: r => match q with
      | .eq => some (x = 0, r)
      | .ne => some (¬ x = 0, r)
      | .lt => some (x < 0, r)
      | .ge => some (0 ≤ x, r)
      | .gt => some (0 < x, r)
      | .le => some (x ≤ 0, r)
    | _ => none
  | .if_icmp q _ => match st with
    | .int y :: .int x :: r => match q with
      | .eq => some (x = y, r)
      | .ne => some (¬ x = y, r)
      | .lt => some (x < y, r)
      | .ge => some (y ≤ x, r)
      | .gt => some (y < x, r)
      | .le => some (x ≤ y, r)
    | _ => none
  | _ => none
/-- division, with its condition -/
def mj_dv (i : Instr) (st : List Value) : Option (Prop × List Value) := match i with
  | .idiv => match st with
    | .int y :: .int x :: r => some (¬ y = 0, .int (x / y) :: r)
    | _ => none
  | .irem => match st with
    | .int y :: .int x :: r => some (¬ y = 0, .int (x - x / y * y) :: r)
    | _ => none
  | .ldiv => match st with
    | .long y :: .long x :: r => some (¬ y = 0, .long (x / y) :: r)
    | _ => none
  | .lrem => match st with
    | .long y :: .long x :: r => some (¬ y = 0, .long (x - x / y * y) :: r)
    | _ => none
  | _ => none
/-- a switch's target -/
def mj_sw (i : Instr) (pc : Nat) (st : List Value) : Option (Int × List Value) := match i with
  | .lookupswitch d ps => match st with
    | .int x :: r => some ((pc : Int) + Op.lookupswitch.offset ps.toList d x.toInt, r)
    | _ => none
  | .tableswitch d lo hi offs => match st with
    | .int x :: r => some ((pc : Int) + (if x.toInt < lo ∨ hi < x.toInt then d else offs.toList.getD (x.toInt - lo).toNat 0), r)
    | _ => none
  | _ => none
def mj_fty (ci k : Nat) : FieldType := match ci with
  | 0 => tyX0 k
  | 1 => tyX1 k
  | 3 => tyX3 k
  | 4 => tyX4 k
  | 5 => tyX5 k
  | 6 => tyX6 k
  | 7 => tyX7 k
  | 8 => tyX8 k
  | 9 => tyX9 k
  | 10 => tyX10 k
  | 11 => tyX11 k
  | _ => .int
def mj_fit (ty : FieldType) (v : Value) : Bool := match ty with
  | .int => match v with
    | .int _ => true
    | _ => false
  | .long => match v with
    | .long _ => true
    | _ => false
  | .array _ => match v with
    | .ref _ => true
    | _ => false
  | .object _ => match v with
    | .ref _ => true
    | _ => false
  | _ => false
/-- a step that reads or writes cells: from the stack and the heap to the new ones -/
def mj_mem (i : Instr) (aux : Nat) (st : List Value) (h : mj_H) (st' : List Value) (h' : mj_H) : Prop := match i with
  | .getfield _ => ∃ a fs v r, st = .ref a :: r ∧ h a = .inr (aux / 64, fs) ∧ fs[aux % 64]? = some v ∧ st' = v :: r ∧ h' = h
  | .putfield _ => ∃ a fs v r, st = v :: .ref a :: r ∧ h a = .inr (aux / 64, fs) ∧ aux % 64 < fs.length ∧ mj_fit (mj_fty (aux / 64) (aux % 64)) v = true ∧ st' = r ∧ h' = mj_up h a (.inr (aux / 64, fs.set (aux % 64) v))
  | .iaload => ∃ a j n f r, st = .int j :: .ref a :: r ∧ (h a = .inl (0, n, .inl f) ∨ h a = .inl (6, n, .inl f)) ∧ vp_in j n ∧ st' = .int (f j.toNatClampNeg) :: r ∧ h' = h
  | .laload => ∃ a j n f r, st = .int j :: .ref a :: r ∧ h a = .inl (1, n, .inr (.inl f)) ∧ vp_in j n ∧ st' = .long (f j.toNatClampNeg) :: r ∧ h' = h
  | .baload => ∃ a j n f r, st = .int j :: .ref a :: r ∧ (h a = .inl (2, n, .inl f) ∨ h a = .inl (3, n, .inl f)) ∧ vp_in j n ∧ st' = .int (f j.toNatClampNeg) :: r ∧ h' = h
  | .caload => ∃ a j n f r, st = .int j :: .ref a :: r ∧ h a = .inl (4, n, .inl f) ∧ vp_in j n ∧ st' = .int (f j.toNatClampNeg) :: r ∧ h' = h
  | .aaload => ∃ a j n f b r, st = .int j :: .ref a :: r ∧ h a = .inl (5, n, .inr (.inr (.inr (.inr f)))) ∧ vp_in j n ∧ f j.toNatClampNeg = some b ∧ st' = .ref b :: r ∧ h' = h
  | .iastore => ∃ a j n f x r, st = .int x :: .int j :: .ref a :: r ∧ h a = .inl (0, n, .inl f) ∧ vp_in j n ∧ st' = r ∧ h' = mj_up h a (.inl (0, n, .inl (upd f j.toNatClampNeg x)))
  | .lastore => ∃ a j n f x r, st = .long x :: .int j :: .ref a :: r ∧ h a = .inl (1, n, .inr (.inl f)) ∧ vp_in j n ∧ st' = r ∧ h' = mj_up h a (.inl (1, n, .inr (.inl (vp_updL f j.toNatClampNeg x))))
  | .bastore => ∃ a j n f x r, st = .int x :: .int j :: .ref a :: r ∧ vp_in j n ∧ st' = r ∧ ((h a = .inl (2, n, .inl f) ∧ h' = mj_up h a (.inl (2, n, .inl (upd f j.toNatClampNeg (vp_nar .byte x))))) ∨ (h a = .inl (3, n, .inl f) ∧ h' = mj_up h a (.inl (3, n, .inl (upd f j.toNatClampNeg (vp_nar .boolean x))))))
  | .castore => ∃ a j n f x r, st = .int x :: .int j :: .ref a :: r ∧ h a = .inl (4, n, .inl f) ∧ vp_in j n ∧ st' = r ∧ h' = mj_up h a (.inl (4, n, .inl (upd f j.toNatClampNeg (vp_nar .char x))))
  | .arraylength => ∃ a t n f r, st = .ref a :: r ∧ h a = .inl (t, n, f) ∧ t < 6 ∧ st' = .int (Int32.ofNat n) :: r ∧ h' = h
  | .invokestatic _ => aux = 9999 ∧ ∃ a a0 n n0 f g sp dp k r, st = .int k :: .int dp :: .ref a :: .int sp :: .ref a0 :: r ∧ h a0 = .inl (0, n0, .inl f) ∧ h a = .inl (0, n, .inl g) ∧ (r.map fun v => v.category).sum ≤ 8 ∧ ¬ sp < 0 ∧ ¬ dp < 0 ∧ ¬ k < 0 ∧ sp.toNatClampNeg + k.toNatClampNeg ≤ n0 ∧ dp.toNatClampNeg + k.toNatClampNeg ≤ n ∧ st' = r ∧ h' = mj_up h a (.inl (0, n, .inl (va_cpy f g sp.toNatClampNeg dp.toNatClampNeg k.toNatClampNeg)))
  | .getstatic _ => h' = h ∧ ((aux = 5247 ∧ st' = .ref 247 :: st) ∨ (aux = 5248 ∧ st' = .ref 248 :: st))
  | _ => False
/-- a call: the arguments and what stays on the stack -/
def mj_call (i : Instr) (aux : Nat) (st : List Value) (h : mj_H) (as rest : List Value) : Prop :=
  ∃ sg : mj_S, mj_sigs[aux]? = some sg ∧ st = as.reverse ++ rest ∧ as.length = sg.2.2.2.2.1 ∧ (rest.map fun v => v.category).sum ≤ 8 ∧
    match i with
    | .invokestatic _ => sg.2.2.2.2.2.1 = true
    | .invokevirtual _ => sg.2.2.2.2.2.1 = false ∧ ∃ b bs fs, as = .ref b :: bs ∧ h b = .inr (sg.2.2.2.2.2.2.1, fs)
    | _ => False
def mj_ret (ty : Option FieldType) (i : Instr) (st : List Value) (v : Option Value) : Prop := match i with
  | .ireturn => ∃ x t, st = [.int x] ∧ v = some (.int x) ∧ ty = some t ∧ narrow t (.int x) = .int x
  | .lreturn => ∃ x, st = [.long x] ∧ v = some (.long x) ∧ ty = some .long
  | .return_ => st = [] ∧ v = none ∧ ty = none
  | _ => False
def mj_run (B : mj_B) (ty : Option FieldType) (cs : List mj_E) : Nat → (Option Value → mj_H → Prop) → mj_H → Nat → mj_L → List Value → Prop
  | 0, _, _, _, _, _ => False
  | n + 1, Q, h, pc, L, st => ∃ i nx aux cv, mj_at cs pc = some (i, nx, aux, cv) ∧
      ((∃ pc' L' st', mj_pure i nx aux cv L st = some (pc', L', st') ∧ mj_run B ty cs n Q h pc' L' st')
      ∨ (∃ q st', mj_ask i st = some (q, st') ∧ ((q ∧ mj_run B ty cs n Q h aux L st') ∨ (¬ q ∧ mj_run B ty cs n Q h nx L st')))
      ∨ (∃ q st', mj_dv i st = some (q, st') ∧ q ∧ mj_run B ty cs n Q h nx L st')
      ∨ (∃ (t : Nat) (st' : List Value), mj_sw i pc st = some ((t : Int), st') ∧ mj_run B ty cs n Q h t L st')
      ∨ (∃ st' h', mj_mem i aux st h st' h' ∧ mj_run B ty cs n Q h' nx L st')
      ∨ (∃ as rest r h', mj_call i aux st h as rest ∧ B aux as h r h' ∧ mj_run B ty cs n Q h' nx L (r.toList ++ rest))
      ∨ (∃ v, mj_ret ty i st v ∧ Q v h))
def mj_ents : List Value → mj_L
  | [] => []
  | v :: vs => match mj_one v with
    | true => some v :: mj_ents vs
    | false => some v :: none :: mj_ents vs
def mj_ent (as : List Value) (n : Nat) : mj_L := mj_ents as ++ List.replicate (n - (mj_ents as).length) none
def mj_big : Nat → mj_B
  | 0 => fun _ _ _ _ _ => False
  | d + 1 => fun k as h r h' => ∃ (sg : mj_S) (cs : List mj_E), mj_sigs[k]? = some sg ∧ mj_cods[k]? = some cs ∧ (mj_ents as).length ≤ sg.2.2.1 ∧ ∃ n, mj_run (mj_big d) sg.2.2.2.1 cs n (fun v g => v = r ∧ g = h') h 0 (mj_ent as sg.2.2.1) []
/-- a method's contract: depth, number, arguments, heap, what holds behind it -/
def mj_Mt (d k : Nat) (as : List Value) (h : mj_H) (Q : Option Value → mj_H → Prop) : Prop := ∃ r h', mj_big d k as h r h' ∧ Q r h'
def mj_Rn (d : Nat) (ty : Option FieldType) (cs : List mj_E) (Q : Option Value → mj_H → Prop) (h : mj_H) (pc : Nat) (L : mj_L) (st : List Value) : Prop := ∃ n, mj_run (mj_big d) ty cs n Q h pc L st
theorem mj_run_sp {B : mj_B} {ty : Option FieldType} {cs : List mj_E} : ∀ (n : Nat) {Q : Option Value → mj_H → Prop} {h : mj_H} {pc : Nat} {L : mj_L} {st : List Value}, mj_run B ty cs n Q h pc L st → ∃ r h', Q r h' ∧ mj_run B ty cs n (fun v g => v = r ∧ g = h') h pc L st := by
  intro n
  induction n with
  | zero => intro Q h pc L st hr; exact hr.elim
  | succ n ih =>
    intro Q h pc L st hr
    obtain ⟨i, nx, aux, cv, hat, hr⟩ := hr
    rcases hr with ⟨a, b, c, e, hr⟩ | ⟨q, c, e, hr⟩ | ⟨q, c, e, hq, hr⟩ | ⟨t, c, e, hr⟩ | ⟨c, g, e, hr⟩ | ⟨a, b, r1, g, e, hB, hr⟩ | ⟨v, e, hr⟩
    · obtain ⟨r, h', h1, h2⟩ := ih hr
      exact ⟨r, h', h1, i, nx, aux, cv, hat, Or.inl ⟨a, b, c, e, h2⟩⟩
    · rcases hr with ⟨hq, hr⟩ | ⟨hq, hr⟩
      · obtain ⟨r, h', h1, h2⟩ := ih hr
        exact ⟨r, h', h1, i, nx, aux, cv, hat, Or.inr (Or.inl ⟨q, c, e, Or.inl ⟨hq, h2⟩⟩)⟩
      · obtain ⟨r, h', h1, h2⟩ := ih hr
        exact ⟨r, h', h1, i, nx, aux, cv, hat, Or.inr (Or.inl ⟨q, c, e, Or.inr ⟨hq, h2⟩⟩)⟩
    · obtain ⟨r, h', h1, h2⟩ := ih hr
      exact ⟨r, h', h1, i, nx, aux, cv, hat, Or.inr (Or.inr (Or.inl ⟨q, c, e, hq, h2⟩))⟩
    · obtain ⟨r, h', h1, h2⟩ := ih hr
      exact ⟨r, h', h1, i, nx, aux, cv, hat, Or.inr (Or.inr (Or.inr (Or.inl ⟨t, c, e, h2⟩)))⟩
    · obtain ⟨r, h', h1, h2⟩ := ih hr
      exact ⟨r, h', h1, i, nx, aux, cv, hat, Or.inr (Or.inr (Or.inr (Or.inr (Or.inl ⟨c, g, e, h2⟩))))⟩
    · obtain ⟨r, h', h1, h2⟩ := ih hr
      exact ⟨r, h', h1, i, nx, aux, cv, hat, Or.inr (Or.inr (Or.inr (Or.inr (Or.inr (Or.inl ⟨a, b, r1, g, e, hB, h2⟩)))))⟩
    · exact ⟨v, h, hr, i, nx, aux, cv, hat, Or.inr (Or.inr (Or.inr (Or.inr (Or.inr (Or.inr ⟨v, e, rfl, rfl⟩)))))⟩
/-- more depth does no harm -/
theorem mj_run_mono {B B' : mj_B} (hB : ∀ k as h r h', B k as h r h' → B' k as h r h') {ty : Option FieldType} {cs : List mj_E} : ∀ (n : Nat) {Q : Option Value → mj_H → Prop} {h : mj_H} {pc : Nat} {L : mj_L} {st : List Value}, mj_run B ty cs n Q h pc L st → mj_run B' ty cs n Q h pc L st := by
  intro n
  induction n with
  | zero => intro Q h pc L st hr; exact hr.elim
  | succ n ih =>
    intro Q h pc L st hr
    obtain ⟨i, nx, aux, cv, hat, hr⟩ := hr
    refine ⟨i, nx, aux, cv, hat, ?_⟩
    rcases hr with ⟨a, b, c, e, hr⟩ | ⟨q, c, e, hr⟩ | ⟨q, c, e, hq, hr⟩ | ⟨t, c, e, hr⟩ | ⟨c, g, e, hr⟩ | ⟨a, b, r1, g, e, hB1, hr⟩ | ⟨v, e, hr⟩
    · exact Or.inl ⟨a, b, c, e, ih hr⟩
    · rcases hr with ⟨hq, hr⟩ | ⟨hq, hr⟩
      · exact Or.inr (Or.inl ⟨q, c, e, Or.inl ⟨hq, ih hr⟩⟩)
      · exact Or.inr (Or.inl ⟨q, c, e, Or.inr ⟨hq, ih hr⟩⟩)
    · exact Or.inr (Or.inr (Or.inl ⟨q, c, e, hq, ih hr⟩))
    · exact Or.inr (Or.inr (Or.inr (Or.inl ⟨t, c, e, ih hr⟩)))
    · exact Or.inr (Or.inr (Or.inr (Or.inr (Or.inl ⟨c, g, e, ih hr⟩))))
    · exact Or.inr (Or.inr (Or.inr (Or.inr (Or.inr (Or.inl ⟨a, b, r1, g, e, hB _ _ _ _ _ hB1, ih hr⟩)))))
    · exact Or.inr (Or.inr (Or.inr (Or.inr (Or.inr (Or.inr ⟨v, e, hr⟩)))))
theorem mj_big_succ : ∀ (d k : Nat) (as : List Value) (h : mj_H) (r : Option Value) (h' : mj_H), mj_big d k as h r h' → mj_big (d + 1) k as h r h' := by
  intro d
  induction d with
  | zero => intro k as h r h' q; exact q.elim
  | succ d ih =>
    intro k as h r h' q
    obtain ⟨sg, cs, h1, h2, h3, n, h4⟩ := q
    exact ⟨sg, cs, h1, h2, h3, n, mj_run_mono ih n h4⟩
theorem mj_big_le {d d' : Nat} (hd : d ≤ d') {k : Nat} {as : List Value} {h : mj_H} {r : Option Value} {h' : mj_H} (q : mj_big d k as h r h') : mj_big d' k as h r h' := by
  induction hd with
  | refl => exact q
  | step _ ih => exact mj_big_succ _ _ _ _ _ _ ih
theorem mj_Mt.le {d d' : Nat} (hd : d ≤ d') {k : Nat} {as : List Value} {h : mj_H} {Q : Option Value → mj_H → Prop} (q : mj_Mt d k as h Q) : mj_Mt d' k as h Q := by
  obtain ⟨r, h', h1, h2⟩ := q
  exact ⟨r, h', mj_big_le hd h1, h2⟩
theorem mj_Mt.imp {d : Nat} {k : Nat} {as : List Value} {h : mj_H} {Q Q' : Option Value → mj_H → Prop} (q : mj_Mt d k as h Q) (hq : ∀ r g, Q r g → Q' r g) : mj_Mt d k as h Q' := by
  obtain ⟨r, h', h1, h2⟩ := q
  exact ⟨r, h', h1, hq _ _ h2⟩
/-- a method's body gives its contract -/
theorem mj_of {d k : Nat} {as : List Value} {h : mj_H} {Q : Option Value → mj_H → Prop} (sg : mj_S) (cs : List mj_E) (h1 : mj_sigs[k]? = some sg) (h2 : mj_cods[k]? = some cs) (h3 : Nat.ble (mj_ents as).length sg.2.2.1 = true)
    (q : mj_Rn d sg.2.2.2.1 cs Q h 0 (mj_ent as sg.2.2.1) []) : mj_Mt (d + 1) k as h Q := by
  obtain ⟨n, q⟩ := q
  obtain ⟨r, h', h4, h5⟩ := mj_run_sp n q
  exact ⟨r, h', ⟨sg, cs, h1, h2, Nat.le_of_ble_eq_true h3, n, h5⟩, h4⟩
section mjRules
variable {d : Nat} {ty : Option FieldType} {cs : List mj_E} {Q : Option Value → mj_H → Prop} {h : mj_H} {pc : Nat} {L : mj_L} {st : List Value}
/-- many plain steps -/
def mj_go (cs : List mj_E) : Nat → Nat → mj_L → List Value → Option (Nat × mj_L × List Value)
  | 0, pc, L, st => some (pc, L, st)
  | n + 1, pc, L, st => match mj_at cs pc with
    | some (i, nx, aux, cv) => match mj_pure i nx aux cv L st with
      | some (pc', L', st') => mj_go cs n pc' L' st'
      | none => none
    | none => none
theorem mj_step {i : Instr} {nx aux : Nat} {cv : Int32} {pc' : Nat} {L' : mj_L} {st' : List Value} (h1 : mj_at cs pc = some (i, nx, aux, cv)) (h2 : mj_pure i nx aux cv L st = some (pc', L', st')) (k : mj_Rn d ty cs Q h pc' L' st') : mj_Rn d ty cs Q h pc L st := by
  obtain ⟨n, k⟩ := k
  exact ⟨n + 1, i, nx, aux, cv, h1, Or.inl ⟨_, _, _, h2, k⟩⟩
theorem mj_steps (n : Nat) : ∀ {pc : Nat} {L : mj_L} {st : List Value} {pc' : Nat} {L' : mj_L} {st' : List Value}, mj_go cs n pc L st = some (pc', L', st') → mj_Rn d ty cs Q h pc' L' st' → mj_Rn d ty cs Q h pc L st := by
  induction n with
  | zero =>
    intro pc L st pc' L' st' h1 k
    simp only [mj_go, Option.some.injEq, Prod.mk.injEq] at h1
    obtain ⟨rfl, rfl, rfl⟩ := h1
    exact k
  | succ n ih =>
    intro pc L st pc' L' st' h1 k
    rw [mj_go] at h1
    split at h1
    next i nx aux cv e1 =>
      split at h1
      next p2 L2 s2 e2 => exact mj_step e1 e2 (ih h1 k)
      next => cases h1
    next => cases h1
theorem mj_if {i : Instr} {nx aux : Nat} {cv : Int32} {q : Prop} {st' : List Value} (h1 : mj_at cs pc = some (i, nx, aux, cv)) (h2 : mj_ask i st = some (q, st')) (k1 : q → mj_Rn d ty cs Q h aux L st') (k2 : ¬ q → mj_Rn d ty cs Q h nx L st') : mj_Rn d ty cs Q h pc L st := by
  by_cases hq : q
  · obtain ⟨n, k⟩ := k1 hq
    exact ⟨n + 1, i, nx, aux, cv, h1, Or.inr (Or.inl ⟨_, _, h2, Or.inl ⟨hq, k⟩⟩)⟩
  · obtain ⟨n, k⟩ := k2 hq
    exact ⟨n + 1, i, nx, aux, cv, h1, Or.inr (Or.inl ⟨_, _, h2, Or.inr ⟨hq, k⟩⟩)⟩
theorem mj_div {i : Instr} {nx aux : Nat} {cv : Int32} {q : Prop} {st' : List Value} (h1 : mj_at cs pc = some (i, nx, aux, cv)) (h2 : mj_dv i st = some (q, st')) (hq : q) (k : mj_Rn d ty cs Q h nx L st') : mj_Rn d ty cs Q h pc L st := by
  obtain ⟨n, k⟩ := k
  exact ⟨n + 1, i, nx, aux, cv, h1, Or.inr (Or.inr (Or.inl ⟨_, _, h2, hq, k⟩))⟩
theorem mj_swi {i : Instr} {nx aux : Nat} {cv : Int32} {x : Int} {st' : List Value} (t : Nat) (h1 : mj_at cs pc = some (i, nx, aux, cv)) (h2 : mj_sw i pc st = some (x, st')) (hx : x = (t : Int)) (k : mj_Rn d ty cs Q h t L st') : mj_Rn d ty cs Q h pc L st := by
  obtain ⟨n, k⟩ := k
  subst hx
  exact ⟨n + 1, i, nx, aux, cv, h1, Or.inr (Or.inr (Or.inr (Or.inl ⟨_, _, h2, k⟩)))⟩
theorem mj_me {i : Instr} {nx aux : Nat} {cv : Int32} {st' : List Value} {h' : mj_H} (h1 : mj_at cs pc = some (i, nx, aux, cv)) (h2 : mj_mem i aux st h st' h') (k : mj_Rn d ty cs Q h' nx L st') : mj_Rn d ty cs Q h pc L st := by
  obtain ⟨n, k⟩ := k
  exact ⟨n + 1, i, nx, aux, cv, h1, Or.inr (Or.inr (Or.inr (Or.inr (Or.inl ⟨_, _, h2, k⟩))))⟩
theorem mj_gs1 {ix nx : Nat} {cv : Int32} (h1 : mj_at cs pc = some (.getstatic ix, nx, 5247, cv)) (kk : mj_Rn d ty cs Q h nx L (.ref 247 :: st)) : mj_Rn d ty cs Q h pc L st :=
  mj_me h1 ⟨rfl, Or.inl ⟨rfl, rfl⟩⟩ kk
theorem mj_gs2 {ix nx : Nat} {cv : Int32} (h1 : mj_at cs pc = some (.getstatic ix, nx, 5248, cv)) (kk : mj_Rn d ty cs Q h nx L (.ref 248 :: st)) : mj_Rn d ty cs Q h pc L st :=
  mj_me h1 ⟨rfl, Or.inr ⟨rfl, rfl⟩⟩ kk
theorem mj_get {ix nx aux : Nat} {cv : Int32} {a ci k : Nat} {fs : List Value} {v : Value} {r : List Value} (ha : h a = .inr (ci, fs)) (h1 : mj_at cs pc = some (.getfield ix, nx, aux, cv)) (hc : aux / 64 = ci) (hk : aux % 64 = k) (hv : fs[k]? = some v) (kk : mj_Rn d ty cs Q h nx L (v :: r)) : mj_Rn d ty cs Q h pc L (.ref a :: r) := by
  subst hc; subst hk
  exact mj_me h1 ⟨a, fs, v, r, rfl, ha, hv, rfl, rfl⟩ kk
theorem mj_put {ix nx aux : Nat} {cv : Int32} {a ci k : Nat} {fs : List Value} {v : Value} {r : List Value} (ha : h a = .inr (ci, fs)) (h1 : mj_at cs pc = some (.putfield ix, nx, aux, cv)) (hc : aux / 64 = ci) (hk : aux % 64 = k) (hl : Nat.ble (k + 1) fs.length = true) (hf : mj_fit (mj_fty ci k) v = true) (kk : mj_Rn d ty cs Q (mj_up h a (.inr (ci, fs.set k v))) nx L r) : mj_Rn d ty cs Q h pc L (v :: .ref a :: r) := by
  subst hc; subst hk
  exact mj_me h1 ⟨a, fs, v, r, rfl, ha, Nat.le_of_ble_eq_true hl, hf, rfl, rfl⟩ kk
theorem mj_iald {nx aux : Nat} {cv : Int32} {a n : Nat} {f : Nat → Int32} {j : Int32} {r : List Value} (ha : h a = .inl (0, n, .inl f)) (hj : vp_in j n) (h1 : mj_at cs pc = some (.iaload, nx, aux, cv)) (kk : mj_Rn d ty cs Q h nx L (.int (f j.toNatClampNeg) :: r)) : mj_Rn d ty cs Q h pc L (.int j :: .ref a :: r) :=
  mj_me h1 ⟨a, j, n, f, r, rfl, Or.inl ha, hj, rfl, rfl⟩ kk
/-- a row that is only read -/
theorem mj_iald6 {nx aux : Nat} {cv : Int32} {a n : Nat} {f : Nat → Int32} {j : Int32} {r : List Value} (ha : h a = .inl (6, n, .inl f)) (hj : vp_in j n) (h1 : mj_at cs pc = some (.iaload, nx, aux, cv)) (kk : mj_Rn d ty cs Q h nx L (.int (f j.toNatClampNeg) :: r)) : mj_Rn d ty cs Q h pc L (.int j :: .ref a :: r) :=
  mj_me h1 ⟨a, j, n, f, r, rfl, Or.inr ha, hj, rfl, rfl⟩ kk
theorem mj_lald {nx aux : Nat} {cv : Int32} {a n : Nat} {f : Nat → Int64} {j : Int32} {r : List Value} (ha : h a = .inl (1, n, .inr (.inl f))) (hj : vp_in j n) (h1 : mj_at cs pc = some (.laload, nx, aux, cv)) (kk : mj_Rn d ty cs Q h nx L (.long (f j.toNatClampNeg) :: r)) : mj_Rn d ty cs Q h pc L (.int j :: .ref a :: r) :=
  mj_me h1 ⟨a, j, n, f, r, rfl, ha, hj, rfl, rfl⟩ kk
theorem mj_bald {nx aux : Nat} {cv : Int32} {a n : Nat} {f : Nat → Int32} {j : Int32} {r : List Value} (ha : h a = .inl (2, n, .inl f) ∨ h a = .inl (3, n, .inl f)) (hj : vp_in j n) (h1 : mj_at cs pc = some (.baload, nx, aux, cv)) (kk : mj_Rn d ty cs Q h nx L (.int (f j.toNatClampNeg) :: r)) : mj_Rn d ty cs Q h pc L (.int j :: .ref a :: r) :=
  mj_me h1 ⟨a, j, n, f, r, rfl, ha, hj, rfl, rfl⟩ kk
theorem mj_cald {nx aux : Nat} {cv : Int32} {a n : Nat} {f : Nat → Int32} {j : Int32} {r : List Value} (ha : h a = .inl (4, n, .inl f)) (hj : vp_in j n) (h1 : mj_at cs pc = some (.caload, nx, aux, cv)) (kk : mj_Rn d ty cs Q h nx L (.int (f j.toNatClampNeg) :: r)) : mj_Rn d ty cs Q h pc L (.int j :: .ref a :: r) :=
  mj_me h1 ⟨a, j, n, f, r, rfl, ha, hj, rfl, rfl⟩ kk
theorem mj_aald {nx aux : Nat} {cv : Int32} {a n b : Nat} {f : Nat → Option Nat} {j : Int32} {r : List Value} (ha : h a = .inl (5, n, .inr (.inr (.inr (.inr f))))) (hj : vp_in j n) (hb : f j.toNatClampNeg = some b) (h1 : mj_at cs pc = some (.aaload, nx, aux, cv)) (kk : mj_Rn d ty cs Q h nx L (.ref b :: r)) : mj_Rn d ty cs Q h pc L (.int j :: .ref a :: r) :=
  mj_me h1 ⟨a, j, n, f, b, r, rfl, ha, hj, hb, rfl, rfl⟩ kk
theorem mj_iast {nx aux : Nat} {cv : Int32} {a n : Nat} {f : Nat → Int32} {j x : Int32} {r : List Value} (ha : h a = .inl (0, n, .inl f)) (hj : vp_in j n) (h1 : mj_at cs pc = some (.iastore, nx, aux, cv)) (kk : mj_Rn d ty cs Q (mj_up h a (.inl (0, n, .inl (upd f j.toNatClampNeg x)))) nx L r) : mj_Rn d ty cs Q h pc L (.int x :: .int j :: .ref a :: r) :=
  mj_me h1 ⟨a, j, n, f, x, r, rfl, ha, hj, rfl, rfl⟩ kk
theorem mj_last {nx aux : Nat} {cv : Int32} {a n : Nat} {f : Nat → Int64} {j : Int32} {x : Int64} {r : List Value} (ha : h a = .inl (1, n, .inr (.inl f))) (hj : vp_in j n) (h1 : mj_at cs pc = some (.lastore, nx, aux, cv)) (kk : mj_Rn d ty cs Q (mj_up h a (.inl (1, n, .inr (.inl (vp_updL f j.toNatClampNeg x))))) nx L r) : mj_Rn d ty cs Q h pc L (.long x :: .int j :: .ref a :: r) :=
  mj_me h1 ⟨a, j, n, f, x, r, rfl, ha, hj, rfl, rfl⟩ kk
theorem mj_bast {nx aux : Nat} {cv : Int32} {a n : Nat} {f : Nat → Int32} {j x : Int32} {r : List Value} (ha : h a = .inl (2, n, .inl f)) (hj : vp_in j n) (h1 : mj_at cs pc = some (.bastore, nx, aux, cv)) (kk : mj_Rn d ty cs Q (mj_up h a (.inl (2, n, .inl (upd f j.toNatClampNeg (vp_nar .byte x))))) nx L r) : mj_Rn d ty cs Q h pc L (.int x :: .int j :: .ref a :: r) :=
  mj_me h1 ⟨a, j, n, f, x, r, rfl, hj, rfl, Or.inl ⟨ha, rfl⟩⟩ kk
theorem mj_zast {nx aux : Nat} {cv : Int32} {a n : Nat} {f : Nat → Int32} {j x : Int32} {r : List Value} (ha : h a = .inl (3, n, .inl f)) (hj : vp_in j n) (h1 : mj_at cs pc = some (.bastore, nx, aux, cv)) (kk : mj_Rn d ty cs Q (mj_up h a (.inl (3, n, .inl (upd f j.toNatClampNeg (vp_nar .boolean x))))) nx L r) : mj_Rn d ty cs Q h pc L (.int x :: .int j :: .ref a :: r) :=
  mj_me h1 ⟨a, j, n, f, x, r, rfl, hj, rfl, Or.inr ⟨ha, rfl⟩⟩ kk
theorem mj_cast {nx aux : Nat} {cv : Int32} {a n : Nat} {f : Nat → Int32} {j x : Int32} {r : List Value} (ha : h a = .inl (4, n, .inl f)) (hj : vp_in j n) (h1 : mj_at cs pc = some (.castore, nx, aux, cv)) (kk : mj_Rn d ty cs Q (mj_up h a (.inl (4, n, .inl (upd f j.toNatClampNeg (vp_nar .char x))))) nx L r) : mj_Rn d ty cs Q h pc L (.int x :: .int j :: .ref a :: r) :=
  mj_me h1 ⟨a, j, n, f, x, r, rfl, ha, hj, rfl, rfl⟩ kk
theorem mj_alen {nx aux : Nat} {cv : Int32} {a n t : Nat} {f : (Nat → Int32) ⊕ (Nat → Int64) ⊕ (Nat → UInt32) ⊕ (Nat → UInt64) ⊕ (Nat → Option Nat)} {r : List Value} (ha : h a = .inl (t, n, f)) (ht : Nat.ble (t + 1) 6 = true) (h1 : mj_at cs pc = some (.arraylength, nx, aux, cv)) (kk : mj_Rn d ty cs Q h nx L (.int (Int32.ofNat n) :: r)) : mj_Rn d ty cs Q h pc L (.ref a :: r) :=
  mj_me h1 ⟨a, t, n, f, r, rfl, ha, Nat.le_of_ble_eq_true ht, rfl, rfl⟩ kk
/-- System.arraycopy of ints, from 0 to 0 -/
theorem mj_copy {ix nx : Nat} {cv : Int32} {a a0 n n0 : Nat} {f g : Nat → Int32} {k : Int32} {r : List Value} (h0 : h a0 = .inl (0, n0, .inl f)) (ha : h a = .inl (0, n, .inl g)) (hr : Nat.ble (r.map fun v => v.category).sum 8 = true) (hk : ¬ k < 0) (hk0 : Nat.ble k.toNatClampNeg n0 = true) (hk1 : Nat.ble k.toNatClampNeg n = true) (h1 : mj_at cs pc = some (.invokestatic ix, nx, 9999, cv)) (kk : mj_Rn d ty cs Q (mj_up h a (.inl (0, n, .inl (va_cpy f g 0 0 k.toNatClampNeg)))) nx L r) : mj_Rn d ty cs Q h pc L (.int k :: .int 0 :: .ref a :: .int 0 :: .ref a0 :: r) :=
  mj_me h1 ⟨rfl, a, a0, n, n0, f, g, 0, 0, k, r, rfl, h0, ha, Nat.le_of_ble_eq_true hr, by decide, by decide, hk, by rw [show (0 : Int32).toNatClampNeg = 0 from rfl, Nat.zero_add]; exact Nat.le_of_ble_eq_true hk0, by rw [show (0 : Int32).toNatClampNeg = 0 from rfl, Nat.zero_add]; exact Nat.le_of_ble_eq_true hk1, rfl, rfl⟩ kk
theorem mj_rt {nx aux : Nat} {cv : Int32} {x : Int32} {t : FieldType} (h1 : mj_at cs pc = some (.ireturn, nx, aux, cv)) (ht : ty = some t) (hn : narrow t (.int x) = .int x) (hq : Q (some (.int x)) h) : mj_Rn d ty cs Q h pc L [.int x] :=
  ⟨1, _, nx, aux, cv, h1, Or.inr (Or.inr (Or.inr (Or.inr (Or.inr (Or.inr ⟨_, ⟨x, t, rfl, rfl, ht, hn⟩, hq⟩)))))⟩
theorem mj_rtl {nx aux : Nat} {cv : Int32} {x : Int64} (h1 : mj_at cs pc = some (.lreturn, nx, aux, cv)) (ht : ty = some .long) (hq : Q (some (.long x)) h) : mj_Rn d ty cs Q h pc L [.long x] :=
  ⟨1, _, nx, aux, cv, h1, Or.inr (Or.inr (Or.inr (Or.inr (Or.inr (Or.inr ⟨_, ⟨x, rfl, rfl, ht⟩, hq⟩)))))⟩
theorem mj_rtv {nx aux : Nat} {cv : Int32} (h1 : mj_at cs pc = some (.return_, nx, aux, cv)) (ht : ty = none) (hq : Q none h) : mj_Rn d ty cs Q h pc L [] :=
  ⟨1, _, nx, aux, cv, h1, Or.inr (Or.inr (Or.inr (Or.inr (Or.inr (Or.inr ⟨_, ⟨rfl, rfl, ht⟩, hq⟩)))))⟩
theorem mj_cs {ix nx aux : Nat} {cv : Int32} {sg : mj_S} {as rest : List Value} {P : Option Value → mj_H → Prop} (h1 : mj_at cs pc = some (.invokestatic ix, nx, aux, cv)) (hsg : mj_sigs[aux]? = some sg) (hst : st = as.reverse ++ rest) (hn : as.length = sg.2.2.2.2.1) (hr : Nat.ble (rest.map fun v => v.category).sum 8 = true) (hs : sg.2.2.2.2.2.1 = true) (hM : mj_Mt d aux as h P) (kk : ∀ r h', P r h' → mj_Rn d ty cs Q h' nx L (r.toList ++ rest)) : mj_Rn d ty cs Q h pc L st := by
  obtain ⟨r, h', hB, hP⟩ := hM
  obtain ⟨n, k⟩ := kk r h' hP
  exact ⟨n + 1, _, nx, aux, cv, h1, Or.inr (Or.inr (Or.inr (Or.inr (Or.inr (Or.inl ⟨as, rest, r, h', ⟨sg, hsg, hst, hn, Nat.le_of_ble_eq_true hr, hs⟩, hB, k⟩)))))⟩
theorem mj_cv {ix nx aux : Nat} {cv : Int32} {sg : mj_S} {b : Nat} {bs rest : List Value} {fs : List Value} {P : Option Value → mj_H → Prop} (hb : h b = .inr (sg.2.2.2.2.2.2.1, fs)) (h1 : mj_at cs pc = some (.invokevirtual ix, nx, aux, cv)) (hsg : mj_sigs[aux]? = some sg) (hst : st = (Value.ref b :: bs).reverse ++ rest) (hn : (Value.ref b :: bs).length = sg.2.2.2.2.1) (hr : Nat.ble (rest.map fun v => v.category).sum 8 = true) (hs : sg.2.2.2.2.2.1 = false) (hM : mj_Mt d aux (.ref b :: bs) h P) (kk : ∀ r h', P r h' → mj_Rn d ty cs Q h' nx L (r.toList ++ rest)) : mj_Rn d ty cs Q h pc L st := by
  obtain ⟨r, h', hB, hP⟩ := hM
  obtain ⟨n, k⟩ := kk r h' hP
  exact ⟨n + 1, _, nx, aux, cv, h1, Or.inr (Or.inr (Or.inr (Or.inr (Or.inr (Or.inl ⟨_, rest, r, h', ⟨sg, hsg, hst, hn, Nat.le_of_ble_eq_true hr, hs, b, bs, fs, rfl, hb⟩, hB, k⟩)))))⟩
end mjRules
