/-! what the constructors make, cell by cell -/
def cx_eq1 : cX → cX → Bool
  | .inl a, .inl b => decide (a = b)
  | .inr (.inl a), .inr (.inl b) => decide (a = b)
  | .inr (.inr a), .inr (.inr b) => decide (a = b)
  | _, _ => false
theorem cx_eq1_ok {a b : cX} (h : cx_eq1 a b = true) : a = b := by
  unfold cx_eq1 at h
  split at h
  next => rw [of_decide_eq_true h]
  next => rw [of_decide_eq_true h]
  next => rw [of_decide_eq_true h]
  next => cases h
def cx_eql : List cX → List cX → Bool
  | [], [] => true
  | a :: as, b :: bs => cx_eq1 a b && cx_eql as bs
  | _, _ => false
theorem cx_eql_ok : ∀ {a b : List cX}, cx_eql a b = true → a = b := by
  intro a
  induction a with
  | nil =>
    intro b h
    cases b with
    | nil => rfl
    | cons => cases h
  | cons x a ih =>
    intro b h
    cases b with
    | nil => cases h
    | cons y b =>
      simp only [cx_eql, Bool.and_eq_true] at h
      rw [cx_eq1_ok h.1, ih h.2]
def cx_is (x : Option (List cX)) (y : List cX) : Bool := match x with
  | some z => cx_eql z y
  | none => false
theorem cx_is_ok {x : Option (List cX)} {y : List cX} (h : cx_is x y = true) : x = some y := by
  unfold cx_is at h
  split at h
  next => rw [cx_eql_ok h]
  next => cases h
def ci_a : List cX := [
  .inr (.inr (10, [.ref 1, .ref 12, .ref 23, .ref 34, .ref 192, .ref 194, .ref 196, .ref 198, .ref 200, .ref 203, .ref 207, .ref 208, .ref 215, .ref 216])),
  .inr (.inr (9, [.ref 2, .ref 3, .ref 4, .ref 5, .ref 6, .ref 7, .ref 8, .ref 9, .ref 10, .ref 11, .int 1, .int 0, .int 0, .int 0, .int 0, .int 0, .int 0])),
  .inl (0, 8, []),
  .inl (0, 8, []),
  .inl (0, 8, []),
  .inl (0, 8, []),
  .inl (0, 8, []),
  .inl (0, 8, []),
  .inl (0, 8, []),
  .inl (0, 8, []),
  .inl (0, 8, []),
  .inl (0, 8, []),
  .inr (.inr (9, [.ref 13, .ref 14, .ref 15, .ref 16, .ref 17, .ref 18, .ref 19, .ref 20, .ref 21, .ref 22, .int 1, .int 0, .int 0, .int 0, .int 0, .int 0, .int 0])),
  .inl (0, 8, []),
  .inl (0, 8, []),
  .inl (0, 8, []),
  .inl (0, 8, []),
  .inl (0, 8, []),
  .inl (0, 8, []),
  .inl (0, 8, []),
  .inl (0, 8, []),
  .inl (0, 8, []),
  .inl (0, 8, []),
  .inr (.inr (9, [.ref 24, .ref 25, .ref 26, .ref 27, .ref 28, .ref 29, .ref 30, .ref 31, .ref 32, .ref 33, .int 1, .int 0, .int 0, .int 0, .int 0, .int 0, .int 0])),
  .inl (0, 8, []),
  .inl (0, 8, []),
  .inl (0, 8, []),
  .inl (0, 8, []),
  .inl (0, 8, []),
  .inl (0, 8, []),
  .inl (0, 8, []),
  .inl (0, 8, []),
  .inl (0, 8, []),
  .inl (0, 8, []),
  .inr (.inr (3, [.ref 35, .int 0, .int 0, .ref 36, .ref 37])),
  .inr (.inl (12, [(11, 159), (10, 148), (9, 137), (8, 126), (7, 115), (6, 104), (5, 93), (4, 82), (3, 71), (2, 60), (1, 49), (0, 38)])),
  .inr (.inl (2, [(1, 181), (0, 170)])),
  .inl (3, 2, []),
  .inr (.inr (9, [.ref 39, .ref 40, .ref 41, .ref 42, .ref 43, .ref 44, .ref 45, .ref 46, .ref 47, .ref 48, .int 1, .int 0, .int 0, .int 0, .int 0, .int 0, .int 0])),
  .inl (0, 8, []),
  .inl (0, 8, []),
  .inl (0, 8, []),
  .inl (0, 8, []),
  .inl (0, 8, []),
  .inl (0, 8, []),
  .inl (0, 8, []),
  .inl (0, 8, []),
  .inl (0, 8, []),
  .inl (0, 8, []),
  .inr (.inr (9, [.ref 50, .ref 51, .ref 52, .ref 53, .ref 54, .ref 55, .ref 56, .ref 57, .ref 58, .ref 59, .int 1, .int 0, .int 0, .int 0, .int 0, .int 0, .int 0])),
  .inl (0, 8, []),
  .inl (0, 8, []),
  .inl (0, 8, []),
  .inl (0, 8, []),
  .inl (0, 8, []),
  .inl (0, 8, []),
  .inl (0, 8, []),
  .inl (0, 8, []),
  .inl (0, 8, []),
  .inl (0, 8, []),
  .inr (.inr (9, [.ref 61, .ref 62, .ref 63, .ref 64, .ref 65, .ref 66, .ref 67, .ref 68, .ref 69, .ref 70, .int 1, .int 0, .int 0, .int 0, .int 0, .int 0, .int 0])),
  .inl (0, 8, []),
  .inl (0, 8, []),
  .inl (0, 8, []),
  .inl (0, 8, []),
  .inl (0, 8, []),
  .inl (0, 8, []),
  .inl (0, 8, []),
  .inl (0, 8, []),
  .inl (0, 8, []),
  .inl (0, 8, []),
  .inr (.inr (9, [.ref 72, .ref 73, .ref 74, .ref 75, .ref 76, .ref 77, .ref 78, .ref 79, .ref 80, .ref 81, .int 1, .int 0, .int 0, .int 0, .int 0, .int 0, .int 0])),
  .inl (0, 8, []),
  .inl (0, 8, []),
  .inl (0, 8, []),
  .inl (0, 8, []),
  .inl (0, 8, []),
  .inl (0, 8, []),
  .inl (0, 8, []),
  .inl (0, 8, []),
  .inl (0, 8, []),
  .inl (0, 8, []),
  .inr (.inr (9, [.ref 83, .ref 84, .ref 85, .ref 86, .ref 87, .ref 88, .ref 89, .ref 90, .ref 91, .ref 92, .int 1, .int 0, .int 0, .int 0, .int 0, .int 0, .int 0])),
  .inl (0, 8, []),
  .inl (0, 8, []),
  .inl (0, 8, []),
  .inl (0, 8, []),
  .inl (0, 8, []),
  .inl (0, 8, []),
  .inl (0, 8, []),
  .inl (0, 8, []),
  .inl (0, 8, []),
  .inl (0, 8, []),
  .inr (.inr (9, [.ref 94, .ref 95, .ref 96, .ref 97, .ref 98, .ref 99, .ref 100, .ref 101, .ref 102, .ref 103, .int 1, .int 0, .int 0, .int 0, .int 0, .int 0, .int 0])),
  .inl (0, 8, []),
  .inl (0, 8, []),
  .inl (0, 8, []),
  .inl (0, 8, []),
  .inl (0, 8, []),
  .inl (0, 8, []),
  .inl (0, 8, []),
  .inl (0, 8, []),
  .inl (0, 8, []),
  .inl (0, 8, []),
  .inr (.inr (9, [.ref 105, .ref 106, .ref 107, .ref 108, .ref 109, .ref 110, .ref 111, .ref 112, .ref 113, .ref 114, .int 1, .int 0, .int 0, .int 0, .int 0, .int 0, .int 0])),
  .inl (0, 8, []),
  .inl (0, 8, []),
  .inl (0, 8, []),
  .inl (0, 8, []),
  .inl (0, 8, []),
  .inl (0, 8, []),
  .inl (0, 8, []),
  .inl (0, 8, []),
  .inl (0, 8, []),
  .inl (0, 8, []),
  .inr (.inr (9, [.ref 116, .ref 117, .ref 118, .ref 119, .ref 120, .ref 121, .ref 122, .ref 123, .ref 124, .ref 125, .int 1, .int 0, .int 0, .int 0, .int 0, .int 0, .int 0])),
  .inl (0, 8, []),
  .inl (0, 8, []),
  .inl (0, 8, []),
  .inl (0, 8, []),
  .inl (0, 8, []),
  .inl (0, 8, []),
  .inl (0, 8, []),
  .inl (0, 8, []),
  .inl (0, 8, []),
  .inl (0, 8, []),
  .inr (.inr (9, [.ref 127, .ref 128, .ref 129, .ref 130, .ref 131, .ref 132, .ref 133, .ref 134, .ref 135, .ref 136, .int 1, .int 0, .int 0, .int 0, .int 0, .int 0, .int 0])),
  .inl (0, 8, []),
  .inl (0, 8, []),
  .inl (0, 8, []),
  .inl (0, 8, []),
  .inl (0, 8, []),
  .inl (0, 8, []),
  .inl (0, 8, []),
  .inl (0, 8, []),
  .inl (0, 8, []),
  .inl (0, 8, []),
  .inr (.inr (9, [.ref 138, .ref 139, .ref 140, .ref 141, .ref 142, .ref 143, .ref 144, .ref 145, .ref 146, .ref 147, .int 1, .int 0, .int 0, .int 0, .int 0, .int 0, .int 0])),
  .inl (0, 8, []),
  .inl (0, 8, []),
  .inl (0, 8, []),
  .inl (0, 8, []),
  .inl (0, 8, []),
  .inl (0, 8, []),
  .inl (0, 8, []),
  .inl (0, 8, []),
  .inl (0, 8, []),
  .inl (0, 8, []),
  .inr (.inr (9, [.ref 149, .ref 150, .ref 151, .ref 152, .ref 153, .ref 154, .ref 155, .ref 156, .ref 157, .ref 158, .int 1, .int 0, .int 0, .int 0, .int 0, .int 0, .int 0])),
  .inl (0, 8, []),
  .inl (0, 8, []),
  .inl (0, 8, []),
  .inl (0, 8, []),
  .inl (0, 8, []),
  .inl (0, 8, []),
  .inl (0, 8, []),
  .inl (0, 8, []),
  .inl (0, 8, []),
  .inl (0, 8, []),
  .inr (.inr (9, [.ref 160, .ref 161, .ref 162, .ref 163, .ref 164, .ref 165, .ref 166, .ref 167, .ref 168, .ref 169, .int 1, .int 0, .int 0, .int 0, .int 0, .int 0, .int 0])),
  .inl (0, 8, []),
  .inl (0, 8, []),
  .inl (0, 8, []),
  .inl (0, 8, []),
  .inl (0, 8, []),
  .inl (0, 8, []),
  .inl (0, 8, []),
  .inl (0, 8, []),
  .inl (0, 8, []),
  .inl (0, 8, []),
  .inr (.inr (9, [.ref 171, .ref 172, .ref 173, .ref 174, .ref 175, .ref 176, .ref 177, .ref 178, .ref 179, .ref 180, .int 1, .int 0, .int 0, .int 0, .int 0, .int 0, .int 0])),
  .inl (0, 8, []),
  .inl (0, 8, []),
  .inl (0, 8, []),
  .inl (0, 8, []),
  .inl (0, 8, []),
  .inl (0, 8, []),
  .inl (0, 8, []),
  .inl (0, 8, []),
  .inl (0, 8, []),
  .inl (0, 8, []),
  .inr (.inr (9, [.ref 182, .ref 183, .ref 184, .ref 185, .ref 186, .ref 187, .ref 188, .ref 189, .ref 190, .ref 191, .int 1, .int 0, .int 0, .int 0, .int 0, .int 0, .int 0])),
  .inl (0, 8, []),
  .inl (0, 8, []),
  .inl (0, 8, []),
  .inl (0, 8, []),
  .inl (0, 8, []),
  .inl (0, 8, []),
  .inl (0, 8, []),
  .inl (0, 8, []),
  .inl (0, 8, []),
  .inl (0, 8, []),
  .inr (.inr (5, [.ref 193, .int 0, .int 0, .int 0])),
  .inl (4, 80, []),
  .inr (.inr (8, [.ref 195, .int 3])),
  .inl (0, 5, [(2, 103), (1, 98), (0, 100)]),
  .inr (.inr (8, [.ref 197, .int 3])),
  .inl (0, 5, [(2, 103), (1, 98), (0, 100)]),
  .inr (.inr (4, [.ref 199, .int 0])),
  .inl (1, 8, []),
  .inr (.inr (1, [.ref 201, .ref 202, .int 0])),
  .inl (0, 12, []),
  .inl (0, 12, []),
  .inr (.inr (6, [.ref 204, .ref 205, .ref 206, .int 0])),
  .inl (0, 10, []),
  .inl (0, 10, []),
  .inl (0, 151, []),
  .inr (.inr (0, [.int 0, .int 0, .long 0, .long 0, .long 0, .long 0])),
  .inr (.inr (7, [.ref 209, .ref 210, .ref 211, .ref 212, .ref 213, .ref 214, .int 0])),
  .inl (0, 64, []),
  .inl (0, 64, []),
  .inl (0, 64, []),
  .inl (0, 8, []),
  .inl (0, 136, []),
  .inl (0, 136, []),
  .inl (0, 64, []),
  .inl (1, 9, [])]
def ci_b : List cX := [
  .inr (.inr (11, [.ref 218, .ref 219, .int 0, .ref 220, .int 0, .int 0, .ref 221, .ref 222, .int 3, .long 0, .long 0, .ref 223, .null, .int 0, .int 0, .int 0, .int 0, .ref 224, .ref 225, .int 0, .ref 226, .ref 227, .int 0, .int 0, .int 0, .ref 228, .ref 229, .ref 230, .int 0, .ref 231, .ref 232, .ref 233, .ref 234, .ref 235, .ref 236, .ref 237, .int 0, .ref 238, .ref 239, .int 0, .ref 240, .ref 241, .int 0, .int 0, .ref 242, .ref 243])),
  .inl (0, 43, [(40, 1)]),
  .inl (2, 80, []),
  .inl (1, 16, []),
  .inl (2, 5, [(2, 103), (1, 98), (0, 100)]),
  .inl (2, 5, []),
  .inl (0, 8, []),
  .inl (0, 24, []),
  .inl (0, 516, []),
  .inl (0, 43, []),
  .inl (0, 43, []),
  .inl (0, 160, []),
  .inl (0, 64, []),
  .inl (0, 192, []),
  .inl (0, 64, []),
  .inl (0, 8, []),
  .inl (3, 64, []),
  .inl (3, 8, []),
  .inl (3, 8, []),
  .inl (0, 12, []),
  .inl (0, 12, []),
  .inl (0, 10, []),
  .inl (0, 10, []),
  .inl (0, 151, []),
  .inl (3, 201, []),
  .inl (0, 86, []),
  .inl (3, 2, [])]
def ci_bl (ci N : Nat) : cX := .inr (.inr (ci, (List.range N).map fun k => defaultValue (mj_fty ci k)))
set_option maxRecDepth 100000 in
theorem ci_run1 : cx_is (cx_B 3 9 [ci_bl 10 14] 0) ci_a = true := by decide +kernel
set_option maxRecDepth 100000 in
theorem ci_run2 : cx_is (cx_B 1 10 (ci_a ++ [ci_bl 11 46]) 217) (ci_a ++ ci_b) = true := by decide +kernel
def ci_l : List cX := ci_a ++ ci_b ++ [.inl (1, 1, [])]
/-- a cell's place in the order of making; the cell at a place -/
def pm_l : List Nat := [0, 1, 2, 3, 4, 5, 6, 7, 8, 9, 10, 11, 12, 13, 14, 15, 16, 17, 18, 19, 20, 21, 22, 23, 24, 25, 26, 27, 28, 29, 30, 31, 32, 33, 34, 35, 36, 37, 192, 193, 194, 195, 196, 197, 198, 199, 200, 201, 202, 203, 204, 205, 206, 207, 208, 209, 210, 211, 212, 213, 214, 215, 216, 0, 0, 38, 39, 40, 41, 42, 43, 44, 45, 46, 47, 48, 49, 50, 51, 52, 53, 54, 55, 56, 57, 58, 59, 60, 61, 62, 63, 64, 65, 66, 67, 68, 69, 70, 71, 72, 73, 74, 75, 76, 77, 78, 79, 80, 81, 82, 83, 84, 85, 86, 87, 88, 89, 90, 91, 92, 93, 94, 95, 96, 97, 98, 99, 100, 101, 102, 103, 104, 105, 106, 107, 108, 109, 110, 111, 112, 113, 114, 115, 116, 117, 118, 119, 120, 121, 122, 123, 124, 125, 126, 127, 128, 129, 130, 131, 132, 133, 134, 135, 136, 137, 138, 139, 140, 141, 142, 143, 144, 145, 146, 147, 148, 149, 150, 151, 152, 153, 154, 155, 156, 157, 158, 159, 160, 161, 162, 163, 164, 165, 166, 167, 168, 169, 170, 171, 172, 173, 174, 175, 176, 177, 178, 179, 180, 181, 182, 183, 184, 185, 186, 187, 188, 189, 190, 191, 217, 218, 219, 220, 223, 224, 225, 226, 227, 228, 229, 230, 231, 232, 233, 234, 235, 236, 237, 238, 239, 240, 241, 242, 243, 221, 222, 244]
def pi_l : List Nat := [0, 1, 2, 3, 4, 5, 6, 7, 8, 9, 10, 11, 12, 13, 14, 15, 16, 17, 18, 19, 20, 21, 22, 23, 24, 25, 26, 27, 28, 29, 30, 31, 32, 33, 34, 35, 36, 37, 65, 66, 67, 68, 69, 70, 71, 72, 73, 74, 75, 76, 77, 78, 79, 80, 81, 82, 83, 84, 85, 86, 87, 88, 89, 90, 91, 92, 93, 94, 95, 96, 97, 98, 99, 100, 101, 102, 103, 104, 105, 106, 107, 108, 109, 110, 111, 112, 113, 114, 115, 116, 117, 118, 119, 120, 121, 122, 123, 124, 125, 126, 127, 128, 129, 130, 131, 132, 133, 134, 135, 136, 137, 138, 139, 140, 141, 142, 143, 144, 145, 146, 147, 148, 149, 150, 151, 152, 153, 154, 155, 156, 157, 158, 159, 160, 161, 162, 163, 164, 165, 166, 167, 168, 169, 170, 171, 172, 173, 174, 175, 176, 177, 178, 179, 180, 181, 182, 183, 184, 185, 186, 187, 188, 189, 190, 191, 192, 193, 194, 195, 196, 197, 198, 199, 200, 201, 202, 203, 204, 205, 206, 207, 208, 209, 210, 211, 212, 213, 214, 215, 216, 217, 218, 38, 39, 40, 41, 42, 43, 44, 45, 46, 47, 48, 49, 50, 51, 52, 53, 54, 55, 56, 57, 58, 59, 60, 61, 62, 219, 220, 221, 222, 244, 245, 223, 224, 225, 226, 227, 228, 229, 230, 231, 232, 233, 234, 235, 236, 237, 238, 239, 240, 241, 242, 243, 246]
theorem beqF {a b : Nat} (h : a ≠ b) : Nat.beq a b = false := by
  cases e : Nat.beq a b with
  | false => rfl
  | true => exact absurd (Nat.eq_of_beq_eq_true e) h
def pm (a : Nat) : Nat := pm_l.getD a 0
def pinv (r : Nat) : Nat := pi_l.getD r 0
def s_c (a : Nat) : cX := ci_l.getD (pm a) (.inl (0, 0, []))
def s_M (a j : Nat) : Int32 := match Nat.beq a 247 with
  | true => ms_lo j
  | false => match Nat.beq a 248 with
    | true => ms_hi j
    | false => match s_c a with
      | .inl (_, _, us) => cx_u us j
      | .inr (.inl _) => 0
      | .inr (.inr (_, vs)) => match vs[j]? with
        | some (.int x) => x
        | _ => 0
def s_R (a j : Nat) : Option Nat := match s_c a with
  | .inl _ => none
  | .inr (.inl (_, us)) => (cx_r us j).map pinv
  | .inr (.inr (_, vs)) => match vs[j]? with
    | some (.ref r) => some (pinv r)
    | _ => none
def sx_S : fm_S := (s_M, fun _ _ => 0, s_R)
def s_rn : Value → Value
  | .ref c => .ref (pm c)
  | v => v
def s_nr : Value → Bool
  | .ref c => Nat.ble (c + 1) 247
  | _ => true
def s_k (a : Nat) : Bool := match fm_sh a with
  | .inl (t, n) => match s_c a with
    | .inl (t', n', _) => Nat.beq t t' && Nat.beq n n' && Nat.ble t 4
    | .inr (.inl (n', us)) => Nat.beq t 5 && Nat.beq n n' && us.all (fun p => Nat.beq (pm (pinv p.2)) p.2 && Nat.ble (pinv p.2 + 1) 247)
    | .inr (.inr _) => false
  | .inr (ci, fs) => match s_c a with
    | .inr (.inr (ci', vs)) => Nat.beq ci ci' && (fs.map (fm_fld sx_S a)).all s_nr && decide ((fs.map (fm_fld sx_S a)).map s_rn = vs)
    | _ => false
def s_real (a : Nat) : Bool := !(Nat.beq a 63) && !(Nat.beq a 64)
set_option maxRecDepth 100000 in
theorem s_all : (List.range 247).all (fun a => !(s_real a) || (s_k a && Nat.beq (pinv (pm a)) a && Nat.ble (pm a + 1) 245)) = true := by decide +kernel
set_option maxRecDepth 100000 in
theorem s_len : ci_l.length = 245 := by decide +kernel
set_option maxRecDepth 100000 in
theorem s_sh : (List.range 247).all (fun a => match fm_sh a with
  | .inl (t, _) => !(Nat.beq t 6)
  | .inr _ => true) = true ∧ fm_sh 63 = .inr (98, []) ∧ fm_sh 64 = .inr (98, []) ∧ fm_sh 247 = .inl (6, 5) ∧ fm_sh 248 = .inl (6, 5) ∧ fm_list.length = 249 := by decide +kernel
def s_ad (b0 t1 t2 t3 : Nat) (a : Nat) : Nat := if a < 247 then b0 + pm a else if a = 247 then t1 else if a = 248 then t2 else t3
theorem s_at {a : Nat} (ha : ms_re 247 a) : s_k a = true ∧ pinv (pm a) = a ∧ pm a < 245 := by
  have h := List.all_eq_true.mp s_all a (List.mem_range.mpr ha.1)
  have hr : s_real a = true := by
    unfold s_real
    simp only [Bool.and_eq_true, Bool.not_eq_true']
    exact ⟨beqF ha.2.1, beqF ha.2.2⟩
  rw [hr] at h
  simp only [Bool.not_true, Bool.false_or, Bool.and_eq_true] at h
  exact ⟨h.1.1, Nat.eq_of_beq_eq_true h.1.2, Nat.le_of_ble_eq_true h.2⟩
theorem s_cat {a : Nat} (ha : ms_re 247 a) : ci_l[pm a]? = some (s_c a) := by
  have h := (s_at ha).2.2
  unfold s_c
  rw [List.getD_eq_getElem?_getD, List.getElem?_eq_getElem (by rw [s_len]; exact h)]
  rfl
theorem s_u {a : Nat} {t n : Nat} {us : List (Nat × Int32)} (ha : a < 247) (h : s_c a = .inl (t, n, us)) : s_M a = cx_u us := by
  funext j
  unfold s_M
  rw [beqF (show a ≠ 247 by omega), beqF (show a ≠ 248 by omega), h]
theorem s_rv {b0 t1 t2 t3 : Nat} {v : Value} (h : s_nr v = true) : ms_v (s_ad b0 t1 t2 t3) v = ms_v (cx_ad b0) (s_rn v) := by
  cases v with
  | ref c =>
    have h := Nat.le_of_ble_eq_true h
    show Value.ref (s_ad b0 t1 t2 t3 c) = Value.ref (b0 + pm c)
    unfold s_ad
    rw [if_pos (by omega)]
  | _ => rfl
theorem cx_r_mem : ∀ {us : List (Nat × Nat)} {k r : Nat}, cx_r us k = some r → ∃ p ∈ us, p.2 = r := by
  intro us
  induction us with
  | nil => intro k r h; cases h
  | cons p us ih =>
    intro k r h
    obtain ⟨p1, p2⟩ := p
    simp only [cx_r, va_up] at h
    split at h
    · cases h
      exact ⟨(p1, _), List.mem_cons_self, rfl⟩
    · obtain ⟨q, hq, e⟩ := ih h
      exact ⟨q, List.mem_cons_of_mem _ hq, e⟩
theorem s_cell {b0 t1 t2 t3 : Nat} {cA : Nat → ClassId} {a : Nat} (ha : ms_re 247 a) : ms_c (s_ad b0 t1 t2 t3) cA (fm_mk sx_S a) = ms_c (cx_ad b0) cA (cx_c (s_c a)) := by
  have hk := (s_at ha).1
  unfold s_k at hk
  unfold fm_mk
  split at hk
  next t n hsh =>
    rw [hsh]
    split at hk
    next t' n' us hc =>
      simp only [Bool.and_eq_true] at hk
      have e1 := Nat.eq_of_beq_eq_true hk.1.1
      have e2 := Nat.eq_of_beq_eq_true hk.1.2
      have e3 := Nat.le_of_ble_eq_true hk.2
      subst e1 e2
      have hu := s_u ha.1 hc
      rw [hc]
      rcases (show t = 0 ∨ t = 1 ∨ t = 2 ∨ t = 3 ∨ t = 4 by omega) with rfl | rfl | rfl | rfl | rfl
      all_goals first
        | rfl
        | (show ms_c _ cA (.inl (_, n, .inl (s_M a))) = _; rw [hu]; rfl)
    next n' us hc =>
      simp only [Bool.and_eq_true] at hk
      have e1 := Nat.eq_of_beq_eq_true hk.1.1
      have e2 := Nat.eq_of_beq_eq_true hk.1.2
      subst e1 e2
      rw [hc]
      show (.inl (cA 5, n, .inr (.inr (.inr (.inr (fun k => (s_R a k).map (s_ad b0 t1 t2 t3)))))) : va_E) = .inl (cA 5, n, .inr (.inr (.inr (.inr (fun k => (cx_r us k).map (cx_ad b0))))))
      have ee : (fun k => (s_R a k).map (s_ad b0 t1 t2 t3)) = fun k => (cx_r us k).map (cx_ad b0) := by
        funext k
        unfold s_R
        rw [hc]
        dsimp only
        cases e : cx_r us k with
        | none => rfl
        | some r =>
          obtain ⟨p, hp, rfl⟩ := cx_r_mem e
          have z := List.all_eq_true.mp hk.2 p hp
          simp only [Bool.and_eq_true] at z
          have z1 := Nat.eq_of_beq_eq_true z.1
          have z2 := Nat.le_of_ble_eq_true z.2
          show some (s_ad b0 t1 t2 t3 (pinv p.2)) = some (b0 + p.2)
          unfold s_ad
          rw [if_pos (by omega), z1]
      rw [ee]
    next => cases hk
  next ci fs hsh =>
    rw [hsh]
    split at hk
    next ci' vs hc =>
      simp only [Bool.and_eq_true] at hk
      have e1 := Nat.eq_of_beq_eq_true hk.1.1
      subst e1
      have e2 := of_decide_eq_true hk.2
      rw [hc]
      show (.inr (ci, (fs.map (fm_fld sx_S a)).map (ms_v (s_ad b0 t1 t2 t3))) : va_E) = .inr (ci, vs.map (ms_v (cx_ad b0)))
      have key : ∀ Lv : List Value, Lv.all s_nr = true → Lv.map (ms_v (s_ad b0 t1 t2 t3)) = (Lv.map s_rn).map (ms_v (cx_ad b0)) := fun Lv h => by
        rw [List.map_map]
        exact List.map_congr_left (fun v hv => s_rv (List.all_eq_true.mp h v hv))
      rw [key _ hk.1.2, e2]
    next => cases hk
theorem s_wf : ms_wf 247 (fm_mk sx_S) := by
  obtain ⟨h1, h2, h3, h4, h5, h6⟩ := s_sh
  refine ⟨by decide, ?_, ?_, fun i hi => ?_, fun i hi => ?_⟩
  · unfold fm_mk
    rw [h2]
    rfl
  · unfold fm_mk
    rw [h3]
    rfl
  · rcases Nat.lt_or_ge i 249 with z | z
    · rcases (show i = 247 ∨ i = 248 by omega) with rfl | rfl
      · refine Or.inr ⟨s_M 247, ?_, Or.inl ⟨rfl, fun k _ => rfl⟩⟩
        unfold fm_mk
        rw [h4]
        rfl
      · refine Or.inr ⟨s_M 248, ?_, Or.inr ⟨rfl, fun k _ => rfl⟩⟩
        unfold fm_mk
        rw [h5]
        rfl
    · have e : fm_sh i = .inr (99, []) := by
        unfold fm_sh
        rw [List.getD_eq_getElem?_getD, List.getElem?_eq_none (by omega)]
        rfl
      refine Or.inl ?_
      unfold fm_mk
      rw [e]
      rfl
  · have h := List.all_eq_true.mp h1 i (List.mem_range.mpr hi)
    unfold fm_mk
    split at h
    next t n e =>
      rw [e]
      have ht : t ≠ 6 := by
        intro q
        rw [q] at h
        cases h
      show ms_n6 (fm_arr sx_S i t n) = true
      unfold fm_arr
      split
      · rfl
      · rfl
      · show (!(Nat.beq t 6)) = true
        rw [beqF ht]
        rfl
    next e =>
      rw [e]
      rfl
theorem s_rel {D : va_G} {cA : Nat → ClassId} {b0 t1 t2 t3 : Nat} {H0 H : Heap} {locs : List Loc} (hP : va_P D mj_cls (cx_W b0 cA ci_l) H) (hS : va_S (cx_A b0) H0 H locs) : ms_Rel D cA (s_ad b0 t1 t2 t3) 247 (cx_A b0) H0 (fm_mk sx_S) H locs := by
  have hat : ∀ (k : Nat) (q : Nat × va_E), (ms_cells (s_ad b0 t1 t2 t3) cA 247 (fm_mk sx_S))[k]? = some q → ms_re 247 (ms_nm k) ∧ q.1 = b0 + pm (ms_nm k) ∧ (cx_W b0 cA ci_l)[pm (ms_nm k)]? = some q := by
    intro k q hq
    unfold ms_cells at hq
    rcases Nat.lt_or_ge k 245 with z | z
    · rw [List.getElem?_map, List.getElem?_range (by omega)] at hq
      have hr : ms_re 247 (ms_nm k) := by
        unfold ms_re ms_nm
        split <;> omega
      have e1 : s_ad b0 t1 t2 t3 (ms_nm k) = b0 + pm (ms_nm k) := by
        unfold s_ad
        rw [if_pos hr.1]
      have hq2 : (s_ad b0 t1 t2 t3 (ms_nm k), ms_c (s_ad b0 t1 t2 t3) cA (fm_mk sx_S (ms_nm k))) = q := Option.some.inj hq
      rw [e1, s_cell hr] at hq2
      subst hq2
      exact ⟨hr, rfl, cx_W_at (s_cat hr)⟩
    · rw [List.getElem?_eq_none (by simp; omega)] at hq
      cases hq
  refine ⟨fun k q hq => hP _ _ (hat k q hq).2.2, ⟨fun i j p q hp hq e => ?_, fun k q hq => ?_⟩, hS, s_wf⟩
  · obtain ⟨r1, a1, -⟩ := hat i p hp
    obtain ⟨r2, a2, -⟩ := hat j q hq
    have e2 : pm (ms_nm i) = pm (ms_nm j) := by omega
    have e3 : ms_nm i = ms_nm j := by rw [← (s_at r1).2.1, ← (s_at r2).2.1, e2]
    have e4 := congrArg ms_po e3
    rw [ms_po_nm, ms_po_nm] at e4
    exact e4
  · show b0 ≤ q.1
    rw [(hat k q hq).2.1]
    omega

