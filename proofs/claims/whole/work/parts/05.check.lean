/-! WHAT THE TABLES SAY, looked at by program: every instruction stands where the list says, and its links are the claim's words -/
def zword (i k : Nat) : Option Cond := match (zcp (zown i)).lookup k with
  | some p => lw_tbl[p]?
  | none => none
def zTy (c k : Nat) : FieldType := match c with
  | 0 => tyX0 k
  | 1 => tyX1 k
  | 2 => tyX2 k
  | 3 => tyX3 k
  | 4 => tyX4 k
  | 5 => tyX5 k
  | 6 => tyX6 k
  | 7 => tyX7 k
  | 8 => tyX8 k
  | 9 => tyX9 k
  | 10 => tyX10 k
  | 11 => tyX11 k
  | _ => tyX12 k
def ztc (t : FieldType) (x : Int) : Bool := match t with
  | .int => decide (x = 0)
  | .long => decide (x = 1)
  | .object _ => decide (x = 2)
  | .array _ => decide (x = 2)
  | _ => false
def zfl (i k r1 r2 : Nat) (r3 : Int) : Bool :=
  bif Nat.beq r1 200 then (bif Nat.beq r2 0 then decide (zword i k = some (.fieldLink (zy i).cls k "java/lang/String" "value" "[B")) && decide (r3 = 2) else decide (zword i k = some (.fieldLink (zy i).cls k "java/lang/String" "coder" "B")) && decide (r3 = 0)) else
  match vwCl[r1]? with
  | some (_, T, N) => decide (r2 < N) && decide (zword i k = some (.fieldLink (zy i).cls k (T r2).1 (T r2).2.1 (T r2).2.2.1)) && ztc (zTy r1 r2) r3 && decide ((zft r1 r2 : Int) = r3)
  | none => false
def zfin (i r1 r2 : Nat) : Bool := match vwCl[r1]? with
  | some (_, T, _) => !(T r2).2.2.2 || (decide ((zy i).name = "<init>") && decide ((T r2).1 = (zy i).cls))
  | none => false
def zcn (c : Nat) : String := match vwCl[c]? with
  | some (C, _, _) => C
  | none => "java/lang/String"
def zstr : List (Nat × String) := [(36, ""), (42, "Llegs Rrung Ggate Bback Mmaybe Uuse uupside tturned Ttimes Ppart "), (72, "Li;"), (116, "i;"), (118, "iii;"), (120, "nut;"), (122, "i{"), (124, "n{")]
/-- a method that is called: its own words -/
def zmk (i : Nat) : Bool := match zmp i with
  | (t, pc, pi, ps, pn) => decide (lw_tbl[pc]? = some (.code (zy i) (zb i) (zinfo i).1 (zrt i))) && decide (lw_tbl[pn]? = some (.initialized (zy i).cls)) && decide ((zy i).cls ≠ "java/lang/invoke/MethodHandle") && decide ((zy i).cls ≠ "java/lang/invoke/VarHandle") && plainName (zy i).cls &&
    match t with
    | 0 => decide (lw_tbl[pi]? = some (.instanceMethod (zy i))) && decide ((zy i).name = "<init>") && decide (zrt i = none)
    | 1 => decide (lw_tbl[pi]? = some (.instanceMethod (zy i))) && decide (lw_tbl[ps]? = some (.selects (zy i).cls (zy i) (zy i)))
    | _ => decide (lw_tbl[pi]? = some (.static (zy i)))
/-- a call of j with n values (the object among them, t: 0 a maker, 1 of an object, 2 static) -/
def zcl (i k j n t : Nat) : Bool := decide (j < 346) && decide ((zmp j).1 = t) && decide (zword i k = some (.methodLink (zy i).cls k (zy j))) && decide ((parseMethodDescriptor (zy j).desc).map (fun d => d.parameters.length + (bif Nat.blt t 2 then 1 else 0)) = some n) && decide ((zrm j).1 + 1 ≤ (zrm i).1) && decide (8 + ((zinfo j).1 + 11) + (zrm j).2 ≤ (zrm i).2)
def zck1 (i pc n r1 r2 : Nat) (r3 : Int) (ins : Instr) : Bool := match ins with
  | .aload_n _ | .iload_n _ | .lload_n _ | .astore_n _ | .istore_n _ | .lstore_n _ => decide (n = 1)
  | .aload _ | .iload _ | .lload _ | .astore _ | .istore _ | .lstore _ => decide (n = 2)
  | .iconst k => decide (n = 1) && decide (-1 ≤ k) && decide (k ≤ 5)
  | .bipush k => decide (n = 2) && decide (-128 ≤ k) && decide (k ≤ 127)
  | .sipush k => decide (n = 3) && decide (-32768 ≤ k) && decide (k ≤ 32767)
  | .lconst _ | .aconst_null => decide (n = 1)
  | .ldc k => decide (n = 2) && (match r1 with
    | 0 => decide (zword i k = some (.constant (zy i).cls k (Int32.ofInt r3))) && decide (-2147483648 ≤ r3) && decide (r3 < 2147483648)
    | _ => decide ((zy i).cls = "LadderLots$Tokens") && decide (1100 ≤ r2) && decide (r2 < 1108) && decide ((zstr.getD (r2 - 1100) (0, "")).1 = k))
  | .ldc_w k => decide (n = 3) && decide (zword i k = some (.constant (zy i).cls k (Int32.ofInt r3))) && decide (-2147483648 ≤ r3) && decide (r3 < 2147483648)
  | .ldc2_w k => decide (n = 3) && decide (zword i k = some (.constantLong (zy i).cls k (Int64.ofInt r3))) && decide (-9223372036854775808 ≤ r3) && decide (r3 < 9223372036854775808)
  | .getstatic k => decide (n = 3) && (match r1 with
    | 0 => decide (zword i k = some (.fieldLink (zy i).cls k "java/lang/String" "COMPACT_STRINGS" "Z")) && decide (r3 = 1)
    | 1 => (decide (r2 = 1000) && decide (zword i k = some (.fieldLink (zy i).cls k "LadderLots$Orders" "FACTORIALS" "[I"))) || (decide (r2 = 1001) && decide (zword i k = some (.fieldLink (zy i).cls k "LadderLots$BitRows" "PATTERNS" "[J"))) || (decide (r2 = 1002) && decide (zword i k = some (.fieldLink (zy i).cls k "jdk/internal/util/Preconditions" "SIOOBE_FORMATTER" "Ljava/util/function/BiFunction;")))
    | _ => true)
  | .iadd | .isub | .imul | .iand | .ior | .ixor | .ishl | .ishr | .iushr | .idiv | .irem | .ineg | .i2b | .i2s | .i2c | .i2l | .l2i | .ladd | .lsub | .lmul | .land | .lor | .lxor | .lshl | .lushr | .lcmp => decide (n = 1)
  | .iinc _ k => decide (n = 3) && decide (-128 ≤ k) && decide (k ≤ 127)
  | .ifCond _ o | .if_icmp _ o | .if_acmp _ o | .ifnull o | .ifnonnull o => decide (n = 3) && decide ((pc : Int) + o = (r1 : Int))
  | .goto o => decide (n = 3) && decide ((pc : Int) + o = (r1 : Int))
  | .lookupswitch _ ps => (ps.toList.zip (ps.toList.drop 1)).all (fun (a, next) => a.1 < next.1)
  | .iaload | .baload | .saload | .laload | .aaload | .iastore | .sastore | .bastore | .lastore | .aastore | .arraylength => decide (n = 1)
  | .getfield k => decide (n = 3) && zfl i k r1 r2 r3
  | .putfield k => decide (n = 3) && decide (r1 < 13) && zfl i k r1 r2 r3 && zfin i r1 r2
  | .new k => decide (n = 3) && (match vwCl[r1]? with
    | some (C, _, N) => decide (N = r2) && decide (zword i k = some (.classLink (zy i).cls k C))
    | none => false)
  | .newarray _ => decide (n = 2)
  | .anewarray k => decide (n = 3) && decide (zword i k = some (.classLink (zy i).cls k "LadderLots$Ladder"))
  | .invokevirtual k => bif Nat.beq r1 9998 then true else (decide (n = 3) && zcl i k r1 r2 1 && decide (0 ≤ r3) && decide (zcn r3.toNat = (zy r1).cls) && (decide (r3.toNat < 13) || decide (r3.toNat = 200)))
  | .invokestatic k => bif Nat.beq r1 9998 then true else (decide (n = 3) && zcl i k r1 r2 2)
  | .invokespecial k => bif Nat.beq r1 9998 then true else (match r2 with
    | 0 => decide (n = 3) && decide (zword i k = some (.methodLink (zy i).cls k Jvm.Lib.objectInit)) && decide (1 ≤ (zrm i).1) && decide (20 ≤ (zrm i).2)
    | _ => decide (n = 3) && zcl i k r1 r2 0)
  | .ireturn | .lreturn | .areturn | .return_ | .dup | .dup2 | .pop => decide (n = 1)
  | _ => true
def zck (i : Nat) (e : zE) : Bool := decide (decode (zb i) e.1 = .ok (e.2.1, e.2.2.1)) && zck1 i e.1 e.2.2.1 e.2.2.2.1 e.2.2.2.2.1 e.2.2.2.2.2 e.2.1
def zckM (i : Nat) : Bool := (zcode i).all (zck i)
