def mj_cls : List vw_C := [(RX0, TX0, 6), (RX1, TX1, 3), (RX1, TX1, 0), (RX3, TX3, 5), (RX4, TX4, 2), (RX5, TX5, 4), (RX6, TX6, 4), (RX7, TX7, 7), (RX8, TX8, 2), (RX9, TX9, 17), (RX10, TX10, 14), (RX11, TX11, 46)]
def ms_len (i : Instr) (n : Nat) : Nat := match i with
  | .bipush _ => 2
  | .sipush _ => 3
  | .iload _ => 2
  | .lload _ => 2
  | .aload _ => 2
  | .istore _ => 2
  | .lstore _ => 2
  | .astore _ => 2
  | .iinc _ _ => 3
  | .ifCond _ _ => 3
  | .if_icmp _ _ => 3
  | .goto _ => 3
  | .getfield _ => 3
  | .putfield _ => 3
  | .invokestatic _ => 3
  | .invokevirtual _ => 3
  | .ldc _ => 2
  | .ldc_w _ => 3
  | .ldc2_w _ => 3
  | .lookupswitch _ _ => n
  | .tableswitch _ _ _ _ => n
  | .new _ => n
  | .invokespecial _ => n
  | .getstatic _ => 3
  | _ => 1
def ms_in (wi : Nat) (w : Jvm.Cond) : Bool := decide (lw_tbl[wi]? = some w) && goodWord w
def ms_link (own : String) (ix aux wi : Nat) (fin : Bool) : Bool := match mj_cls[aux / 64]? with
  | some (_, T, N) => Nat.ble (aux % 64 + 1) N && ms_in wi (.fieldLink own ix (T (aux % 64)).1 (T (aux % 64)).2.1 (T (aux % 64)).2.2.1) && (!fin || !(T (aux % 64)).2.2.2)
  | none => false
def ms_mlink (own : String) (ix aux wi : Nat) : Bool := match Nat.beq aux 9999 with
  | true => ms_in wi (.methodLink own ix arraycopyName)
  | false => match mj_sigs[aux]? with
    | some sg => ms_in wi (.methodLink own ix sg.1)
    | none => false
def ms_chk (own : String) (bs : ByteArray) (q : mj_E) : Bool :=
  decide (decode bs q.1 = .ok (q.2.1, ms_len q.2.1 (q.2.2.1 - q.1))) && Nat.beq q.2.2.1 (q.1 + ms_len q.2.1 (q.2.2.1 - q.1)) && (match q.2.1 with
  | .iconst n => decide (Int32.ofInt n = q.2.2.2.2.1)
  | .bipush n => decide ((Int8.ofInt n).toInt32 = q.2.2.2.2.1)
  | .sipush n => decide ((Int16.ofInt n).toInt32 = q.2.2.2.2.1)
  | .iinc _ n => decide (Int32.ofInt n = q.2.2.2.2.1)
  | .ldc ix => ms_in q.2.2.2.2.2 (.constant own ix q.2.2.2.2.1)
  | .ldc_w ix => ms_in q.2.2.2.2.2 (.constant own ix q.2.2.2.2.1)
  | .ldc2_w ix => ms_in q.2.2.2.2.2 (.constantLong own ix (Int64.ofNat q.2.2.2.1))
  | .ifCond _ o => decide ((q.1 : Int) + o = (q.2.2.2.1 : Int))
  | .if_icmp _ o => decide ((q.1 : Int) + o = (q.2.2.2.1 : Int))
  | .goto o => decide ((q.1 : Int) + o = (q.2.2.2.1 : Int))
  | .lookupswitch _ ps => (ps.toList.zip (ps.toList.drop 1)).all (fun (a, next) => a.1 < next.1)
  | .tableswitch _ lo hi offs => decide (lo ≤ hi) && Nat.beq offs.size ((hi - lo).toNat + 1)
  | .getstatic ix => match Nat.beq q.2.2.2.1 5247 with
    | true => ms_in q.2.2.2.2.2 (.fieldLink own ix RX1 "LEAST" "[I")
    | false => ms_in q.2.2.2.2.2 (.fieldLink own ix RX1 "MOST" "[I")
  | .getfield ix => ms_link own ix q.2.2.2.1 q.2.2.2.2.2 false
  | .putfield ix => ms_link own ix q.2.2.2.1 q.2.2.2.2.2 true
  | .invokestatic ix => ms_mlink own ix q.2.2.2.1 q.2.2.2.2.2
  | .invokevirtual ix => ms_mlink own ix q.2.2.2.1 q.2.2.2.2.2
  | _ => true)
def ms_sig (sg : mj_S) : Bool :=
  ms_in sg.2.2.2.2.2.2.2.1 (.code sg.1 sg.2.1 sg.2.2.1 sg.2.2.2.1) && decide (sg.2.2.2.2.2.2.2.2.2.2 = sg.1.cls) && plainName sg.1.cls && decide (sg.1.cls ≠ "java/lang/invoke/MethodHandle") && decide (sg.1.cls ≠ "java/lang/invoke/VarHandle") && Nat.ble sg.2.2.1 41 && decide (Cond.initialized sg.1.cls ∈ lw_tbl) && goodWord (.initialized sg.1.cls) &&
  (match sg.2.2.2.2.2.1 with
  | true => ms_in sg.2.2.2.2.2.2.2.2.1 (.static sg.1) && decide ((parseMethodDescriptor sg.1.desc).map (fun d => d.parameters.length) = some sg.2.2.2.2.1)
  | false => ms_in sg.2.2.2.2.2.2.2.2.1 (.instanceMethod sg.1) && ms_in sg.2.2.2.2.2.2.2.2.2.1 (.selects sg.1.cls sg.1 sg.1) && decide ((parseMethodDescriptor sg.1.desc).map (fun d => d.parameters.length + 1) = some sg.2.2.2.2.1) && (match mj_cls[sg.2.2.2.2.2.2.1]? with
    | some r => decide (r.1 = sg.1.cls)
    | none => false))
