section fnRules
variable {d : Nat} {ty : Option FieldType} {cs : List mj_E} {Q : Option Value → mj_H → Prop} {M : Nat → Nat → Int32} {ML : Nat → Nat → Int64} {R : Nat → Nat → Option Nat} {pc : Nat} {L : mj_L} {ix nx aux a ci k n : Nat} {fs : List (Nat × Nat)} {cv : Int32} {r : List Value}
theorem fn_gI (hs : fm_sh a = .inr (ci, fs)) (h1 : mj_at cs pc = some (.getfield ix, nx, aux, cv)) (hc : aux / 64 = ci) (hk : fs[aux % 64]? = some (0, k)) (kk : mj_Rn d ty cs Q (fm_mk (M, ML, R)) nx L (.int (M a k) :: r)) : mj_Rn d ty cs Q (fm_mk (M, ML, R)) pc L (.ref a :: r) :=
  fm_gI (S := (M, ML, R)) hs h1 hc hk kk
theorem fn_gL (hs : fm_sh a = .inr (ci, fs)) (h1 : mj_at cs pc = some (.getfield ix, nx, aux, cv)) (hc : aux / 64 = ci) (hk : fs[aux % 64]? = some (1, k)) (kk : mj_Rn d ty cs Q (fm_mk (M, ML, R)) nx L (.long (ML a k) :: r)) : mj_Rn d ty cs Q (fm_mk (M, ML, R)) pc L (.ref a :: r) :=
  fm_gL (S := (M, ML, R)) hs h1 hc hk kk
theorem fn_gR (hs : fm_sh a = .inr (ci, fs)) (h1 : mj_at cs pc = some (.getfield ix, nx, aux, cv)) (hc : aux / 64 = ci) (hk : fs[aux % 64]? = some (2, k)) (kk : mj_Rn d ty cs Q (fm_mk (M, ML, R)) nx L (.ref k :: r)) : mj_Rn d ty cs Q (fm_mk (M, ML, R)) pc L (.ref a :: r) :=
  fm_gR (S := (M, ML, R)) hs h1 hc hk kk
theorem fn_gM {b : Nat} (hs : fm_sh a = .inr (ci, fs)) (h1 : mj_at cs pc = some (.getfield ix, nx, aux, cv)) (hc : aux / 64 = ci) (hk : fs[aux % 64]? = some (3, k)) (hb : R a k = some b) (kk : mj_Rn d ty cs Q (fm_mk (M, ML, R)) nx L (.ref b :: r)) : mj_Rn d ty cs Q (fm_mk (M, ML, R)) pc L (.ref a :: r) :=
  fm_gM (S := (M, ML, R)) hs h1 hc hk hb kk
theorem fn_pI {x : Int32} (hs : fm_sh a = .inr (ci, fs)) (h1 : mj_at cs pc = some (.putfield ix, nx, aux, cv)) (hc : aux / 64 = ci) (hk : fs[aux % 64]? = some (0, k)) (hf : mj_fit (mj_fty ci (aux % 64)) (.int x) = true) (kk : mj_Rn d ty cs Q (fm_mk (fm_u M a k x, ML, R)) nx L r) : mj_Rn d ty cs Q (fm_mk (M, ML, R)) pc L (.int x :: .ref a :: r) :=
  fm_pI (S := (M, ML, R)) hs h1 hc hk hf kk
theorem fn_pL {x : Int64} (hs : fm_sh a = .inr (ci, fs)) (h1 : mj_at cs pc = some (.putfield ix, nx, aux, cv)) (hc : aux / 64 = ci) (hk : fs[aux % 64]? = some (1, k)) (hf : mj_fit (mj_fty ci (aux % 64)) (.long x) = true) (kk : mj_Rn d ty cs Q (fm_mk (M, fm_ul ML a k x, R)) nx L r) : mj_Rn d ty cs Q (fm_mk (M, ML, R)) pc L (.long x :: .ref a :: r) :=
  fm_pL (S := (M, ML, R)) hs h1 hc hk hf kk
theorem fn_pM {x : Nat} (hs : fm_sh a = .inr (ci, fs)) (h1 : mj_at cs pc = some (.putfield ix, nx, aux, cv)) (hc : aux / 64 = ci) (hk : fs[aux % 64]? = some (3, k)) (hf : mj_fit (mj_fty ci (aux % 64)) (.ref x) = true) (kk : mj_Rn d ty cs Q (fm_mk (M, ML, fm_ur R a k (some x))) nx L r) : mj_Rn d ty cs Q (fm_mk (M, ML, R)) pc L (.ref x :: .ref a :: r) :=
  fm_pM (S := (M, ML, R)) hs h1 hc hk hf kk
theorem fn_ld {j : Int32} (hs : fm_sh a = .inl (0, n)) (h1 : mj_at cs pc = some (.iaload, nx, aux, cv)) (hj : vp_in j n) (kk : mj_Rn d ty cs Q (fm_mk (M, ML, R)) nx L (.int (M a j.toNatClampNeg) :: r)) : mj_Rn d ty cs Q (fm_mk (M, ML, R)) pc L (.int j :: .ref a :: r) :=
  fm_ld (S := (M, ML, R)) hs h1 hj kk
theorem fn_ldc {j : Int32} (hs : fm_sh a = .inl (4, n)) (h1 : mj_at cs pc = some (.caload, nx, aux, cv)) (hj : vp_in j n) (kk : mj_Rn d ty cs Q (fm_mk (M, ML, R)) nx L (.int (M a j.toNatClampNeg) :: r)) : mj_Rn d ty cs Q (fm_mk (M, ML, R)) pc L (.int j :: .ref a :: r) :=
  fm_ldc (S := (M, ML, R)) hs h1 hj kk
theorem fn_ldb {j : Int32} (hs : fm_sh a = .inl (2, n)) (h1 : mj_at cs pc = some (.baload, nx, aux, cv)) (hj : vp_in j n) (kk : mj_Rn d ty cs Q (fm_mk (M, ML, R)) nx L (.int (M a j.toNatClampNeg) :: r)) : mj_Rn d ty cs Q (fm_mk (M, ML, R)) pc L (.int j :: .ref a :: r) :=
  fm_ldb (S := (M, ML, R)) hs h1 hj kk
theorem fn_ldz {j : Int32} (hs : fm_sh a = .inl (3, n)) (h1 : mj_at cs pc = some (.baload, nx, aux, cv)) (hj : vp_in j n) (kk : mj_Rn d ty cs Q (fm_mk (M, ML, R)) nx L (.int (M a j.toNatClampNeg) :: r)) : mj_Rn d ty cs Q (fm_mk (M, ML, R)) pc L (.int j :: .ref a :: r) :=
  fm_ldz (S := (M, ML, R)) hs h1 hj kk
theorem fn_ldl {j : Int32} (hs : fm_sh a = .inl (1, n)) (h1 : mj_at cs pc = some (.laload, nx, aux, cv)) (hj : vp_in j n) (kk : mj_Rn d ty cs Q (fm_mk (M, ML, R)) nx L (.long (ML a j.toNatClampNeg) :: r)) : mj_Rn d ty cs Q (fm_mk (M, ML, R)) pc L (.int j :: .ref a :: r) :=
  fm_ldl (S := (M, ML, R)) hs h1 hj kk
theorem fn_lda {j : Int32} {b : Nat} (hs : fm_sh a = .inl (5, n)) (h1 : mj_at cs pc = some (.aaload, nx, aux, cv)) (hj : vp_in j n) (hb : R a j.toNatClampNeg = some b) (kk : mj_Rn d ty cs Q (fm_mk (M, ML, R)) nx L (.ref b :: r)) : mj_Rn d ty cs Q (fm_mk (M, ML, R)) pc L (.int j :: .ref a :: r) :=
  fm_lda (S := (M, ML, R)) hs h1 hj hb kk
theorem fn_st {j x : Int32} (hs : fm_sh a = .inl (0, n)) (h1 : mj_at cs pc = some (.iastore, nx, aux, cv)) (hj : vp_in j n) (kk : mj_Rn d ty cs Q (fm_mk (fm_u M a j.toNatClampNeg x, ML, R)) nx L r) : mj_Rn d ty cs Q (fm_mk (M, ML, R)) pc L (.int x :: .int j :: .ref a :: r) :=
  fm_st (S := (M, ML, R)) hs h1 hj kk
theorem fn_stb {j x : Int32} (hs : fm_sh a = .inl (2, n)) (h1 : mj_at cs pc = some (.bastore, nx, aux, cv)) (hj : vp_in j n) (kk : mj_Rn d ty cs Q (fm_mk (fm_u M a j.toNatClampNeg (vp_nar .byte x), ML, R)) nx L r) : mj_Rn d ty cs Q (fm_mk (M, ML, R)) pc L (.int x :: .int j :: .ref a :: r) :=
  fm_stb (S := (M, ML, R)) hs h1 hj kk
theorem fn_stz {j x : Int32} (hs : fm_sh a = .inl (3, n)) (h1 : mj_at cs pc = some (.bastore, nx, aux, cv)) (hj : vp_in j n) (kk : mj_Rn d ty cs Q (fm_mk (fm_u M a j.toNatClampNeg (vp_nar .boolean x), ML, R)) nx L r) : mj_Rn d ty cs Q (fm_mk (M, ML, R)) pc L (.int x :: .int j :: .ref a :: r) :=
  fm_stz (S := (M, ML, R)) hs h1 hj kk
theorem fn_stc {j x : Int32} (hs : fm_sh a = .inl (4, n)) (h1 : mj_at cs pc = some (.castore, nx, aux, cv)) (hj : vp_in j n) (kk : mj_Rn d ty cs Q (fm_mk (fm_u M a j.toNatClampNeg (vp_nar .char x), ML, R)) nx L r) : mj_Rn d ty cs Q (fm_mk (M, ML, R)) pc L (.int x :: .int j :: .ref a :: r) :=
  fm_stc (S := (M, ML, R)) hs h1 hj kk
theorem fn_stl {j : Int32} {x : Int64} (hs : fm_sh a = .inl (1, n)) (h1 : mj_at cs pc = some (.lastore, nx, aux, cv)) (hj : vp_in j n) (kk : mj_Rn d ty cs Q (fm_mk (M, fm_ul ML a j.toNatClampNeg x, R)) nx L r) : mj_Rn d ty cs Q (fm_mk (M, ML, R)) pc L (.long x :: .int j :: .ref a :: r) :=
  fm_stl (S := (M, ML, R)) hs h1 hj kk
theorem fn_len (hs : fm_sh a = .inl (0, n)) (h1 : mj_at cs pc = some (.arraylength, nx, aux, cv)) (kk : mj_Rn d ty cs Q (fm_mk (M, ML, R)) nx L (.int (Int32.ofNat n) :: r)) : mj_Rn d ty cs Q (fm_mk (M, ML, R)) pc L (.ref a :: r) :=
  fm_len (S := (M, ML, R)) hs h1 kk
theorem fn_lenl (hs : fm_sh a = .inl (1, n)) (h1 : mj_at cs pc = some (.arraylength, nx, aux, cv)) (kk : mj_Rn d ty cs Q (fm_mk (M, ML, R)) nx L (.int (Int32.ofNat n) :: r)) : mj_Rn d ty cs Q (fm_mk (M, ML, R)) pc L (.ref a :: r) :=
  fm_lenl (S := (M, ML, R)) hs h1 kk
theorem fn_cpy8 {a0 : Nat} (h0 : fm_sh a0 = .inl (0, 8)) (hs : fm_sh a = .inl (0, 8)) (h1 : mj_at cs pc = some (.invokestatic ix, nx, 9999, cv)) (hr : Nat.ble (r.map fun v => v.category).sum 8 = true) (kk : mj_Rn d ty cs Q (fm_mk (fm_row M a (va_cpy (M a0) (M a) 0 0 8), ML, R)) nx L r) : mj_Rn d ty cs Q (fm_mk (M, ML, R)) pc L (.int 8 :: .int 0 :: .ref a :: .int 0 :: .ref a0 :: r) :=
  fm_cpy8 (S := (M, ML, R)) h0 hs h1 hr kk
end fnRules
