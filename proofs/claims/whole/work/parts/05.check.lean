/-! WHAT THE TABLES SAY, looked at by program: every instruction stands where the list says, and its links are the claim's words -/
def zword (i k : Nat) : Option Cond := match (zcp (zown i)).lookup k with
  | some p => lw_tbl[p]?
  | none => none
def zTy (c k : Nat) : FieldType := match c with
  | 0 => tyX0 k
  | 1 => tyX1 k
  | 2 => tyX2 k
  | 3 => tyX3 k
  | 4 => tyX4 k
  | 5 => tyX5 k
  | 6 => tyX6 k
  | 7 => tyX7 k
  | 8 => tyX8 k
  | 9 => tyX9 k
  | 10 => tyX10 k
  | 11 => tyX11 k
  | _ => tyX12 k
def ztc (t : FieldType) (x : Int) : Bool := match t with
  | .int => decide (x = 0)
  | .long => decide (x = 1)
  | .object _ => decide (x = 2)
  | .array _ => decide (x = 2)
  | _ => false
def zfl (i k r1 r2 : Nat) (r3 : Int) : Bool :=
  bif Nat.beq r1 200 then (bif Nat.beq r2 0 then decide (zword i k = some (.fieldLink (zy i).cls k "java/lang/String" "value" "[B")) && decide (r3 = 2) else decide (zword i k = some (.fieldLink (zy i).cls k "java/lang/String" "coder" "B")) && decide (r3 = 0)) else
  match vwCl[r1]? with
  | some (_, T, N) => decide (r2 < N) && decide (zword i k = some (.fieldLink (zy i).cls k (T r2).1 (T r2).2.1 (T r2).2.2.1)) && ztc (zTy r1 r2) r3 && decide ((zft r1 r2 : Int) = r3)
  | none => false
def zfin (i r1 r2 : Nat) : Bool := match vwCl[r1]? with
  | some (_, T, _) => !(T r2).2.2.2 || (decide ((zy i).name = "<init>") && decide ((T r2).1 = (zy i).cls))
  | none => false
def zcn (c : Nat) : String := match vwCl[c]? with
  | some (C, _, _) => C
  | none => "java/lang/String"
def zstr : List (Nat × String) := [(36, ""), (42, "Llegs Rrung Ggate Bback Mmaybe Uuse uupside tturned Ttimes Ppart "), (72, "Li;"), (116, "i;"), (118, "iii;"), (120, "nut;"), (122, "i{"), (124, "n{")]
def zT : List Cond := lw_tbl.filter goodWord
theorem zmem {p : Nat} {w : Cond} (h : lw_tbl[p]? = some w) (hg : goodWord w = true) : w ∈ zT := List.mem_filter.mpr ⟨List.mem_of_getElem? h, hg⟩
theorem zT_in {w : Cond} (h : w ∈ zT) : w ∈ lw_tbl := (List.mem_filter.mp h).1
theorem zT_good {w : Cond} (h : w ∈ zT) : (w.onTables && w.keeps) = true ∨ ∃ ty, w = .arrayClass ty := good_of_word (List.mem_filter.mp h).2
/-- what comes back is what the tables say -/
def zrk (t : Nat) (r : Option FieldType) : Prop := match t with
  | 0 => r = none
  | 1 => r = some .int
  | 2 => r = some .long
  | 3 => r = some .boolean
  | 4 => r = some .byte
  | 5 => r = some .char
  | 6 => r = some .short
  | 7 => (∃ n, r = some (.object n)) ∨ ∃ t, r = some (.array t)
  | _ => False
/-- a method that is called: its own words -/
def zMk (i : Nat) : Prop := (Cond.code (zy i) (zb i) (zinfo i).1 (zrt i)) ∈ zT ∧ (Cond.initialized (zy i).cls) ∈ zT ∧ ((zy i).cls ≠ "java/lang/invoke/MethodHandle" ∧ (zy i).cls ≠ "java/lang/invoke/VarHandle") ∧ plainName (zy i).cls = true ∧ zrk (zinfo i).2.1 (zrt i) ∧
  match (zmp i).1 with
    | 0 => Cond.instanceMethod (zy i) ∈ zT ∧ (zy i).name = "<init>" ∧ zrt i = none
    | 1 => Cond.instanceMethod (zy i) ∈ zT ∧ Cond.selects (zy i).cls (zy i) (zy i) ∈ zT
    | _ => Cond.static (zy i) ∈ zT
/-- a call of j with n values (the object among them, t: 0 a maker, 1 of an object, 2 static) -/
def zcl (i k j n t : Nat) : Bool := decide (j < 342) && decide ((zmp j).1 = t) && decide (zword i k = some (.methodLink (zy i).cls k (zy j))) && decide ((parseMethodDescriptor (zy j).desc).map (fun d => d.parameters.length + (bif Nat.blt t 2 then 1 else 0)) = some n) && decide ((zrm j).1 + 1 ≤ (zrm i).1) && decide (8 + ((zinfo j).1 + 11) + (zrm j).2 ≤ (zrm i).2)
def zmth (i k r1 : Nat) : Bool :=
  bif Nat.beq r1 9001 then decide (zword i k = some (.methodLink (zy i).cls k Lib.Math.max.name))
  else bif Nat.beq r1 9002 then decide (zword i k = some (.methodLink (zy i).cls k Lib.Math.min.name))
  else bif Nat.beq r1 9003 then decide (zword i k = some (.methodLink (zy i).cls k Lib.Math.abs.name))
  else bif Nat.beq r1 9004 then decide (zword i k = some (.methodLink (zy i).cls k Lib.MathLoose.max_long.x))
  else decide (zword i k = some (.methodLink (zy i).cls k Lib.MathLoose.min_long.x))
def zck1 (i pc n r1 r2 : Nat) (r3 : Int) (ins : Instr) : Bool := match ins with
  | .aload_n _ | .iload_n _ | .lload_n _ | .astore_n _ | .istore_n _ | .lstore_n _ => decide (n = 1)
  | .aload _ | .iload _ | .lload _ | .astore _ | .istore _ | .lstore _ => decide (n = 2)
  | .iconst k => decide (n = 1) && decide (-1 ≤ k) && decide (k ≤ 5)
  | .bipush k => decide (n = 2) && decide (-128 ≤ k) && decide (k ≤ 127)
  | .sipush k => decide (n = 3) && decide (-32768 ≤ k) && decide (k ≤ 32767)
  | .lconst _ | .aconst_null => decide (n = 1)
  | .ldc k => decide (n = 2) && (match r1 with
    | 0 => decide (zword i k = some (.constant (zy i).cls k (Int32.ofInt r3))) && decide (-2147483648 ≤ r3) && decide (r3 < 2147483648)
    | _ => decide ((zy i).cls = "LadderLots$Tokens") && decide (1100 ≤ r2) && decide (r2 < 1108) && decide ((zstr.getD (r2 - 1100) (0, "")).1 = k))
  | .ldc_w k => decide (n = 3) && decide (zword i k = some (.constant (zy i).cls k (Int32.ofInt r3))) && decide (-2147483648 ≤ r3) && decide (r3 < 2147483648)
  | .ldc2_w k => decide (n = 3) && decide (zword i k = some (.constantLong (zy i).cls k (Int64.ofInt r3))) && decide (-9223372036854775808 ≤ r3) && decide (r3 < 9223372036854775808)
  | .getstatic k => decide (n = 3) && (match r1 with
    | 0 => decide (zword i k = some (.fieldLink (zy i).cls k "java/lang/String" "COMPACT_STRINGS" "Z")) && decide (r3 = 1)
    | 1 => (decide (r2 = 1000) && decide (zword i k = some (.fieldLink (zy i).cls k "LadderLots$Orders" "FACTORIALS" "[I"))) || (decide (r2 = 1001) && decide (zword i k = some (.fieldLink (zy i).cls k "LadderLots$BitRows" "PATTERNS" "[J"))) || (decide (r2 = 1002) && decide (zword i k = some (.fieldLink (zy i).cls k "jdk/internal/util/Preconditions" "SIOOBE_FORMATTER" "Ljava/util/function/BiFunction;")))
    | _ => true)
  | .iadd | .isub | .imul | .iand | .ior | .ixor | .ishl | .ishr | .iushr | .idiv | .irem | .ineg | .i2b | .i2s | .i2c | .i2l | .l2i | .ladd | .lsub | .lmul | .land | .lor | .lxor | .lshl | .lushr | .lcmp => decide (n = 1)
  | .iinc _ k => decide (n = 3) && decide (-128 ≤ k) && decide (k ≤ 127)
  | .ifCond _ o | .if_icmp _ o | .if_acmp _ o | .ifnull o | .ifnonnull o => decide (n = 3) && decide ((pc : Int) + o = (r1 : Int))
  | .goto o => decide (n = 3) && decide ((pc : Int) + o = (r1 : Int))
  | .lookupswitch _ ps => (ps.toList.zip (ps.toList.drop 1)).all (fun (a, next) => a.1 < next.1)
  | .iaload | .baload | .saload | .laload | .aaload | .iastore | .sastore | .bastore | .lastore | .aastore | .arraylength => decide (n = 1)
  | .getfield k => decide (n = 3) && zfl i k r1 r2 r3
  | .putfield k => decide (n = 3) && decide (r1 < 13) && zfl i k r1 r2 r3 && zfin i r1 r2
  | .new k => decide (n = 3) && (match vwCl[r1]? with
    | some (C, _, N) => decide (N = r2) && decide (zword i k = some (.classLink (zy i).cls k C))
    | none => false)
  | .newarray _ => decide (n = 2)
  | .anewarray k => decide (n = 3) && decide (zword i k = some (.classLink (zy i).cls k "LadderLots$Ladder"))
  | .invokevirtual k => bif Nat.beq r1 9998 then true else (decide (n = 3) && zcl i k r1 r2 1 && decide (0 ≤ r3) && decide (zcn r3.toNat = (zy r1).cls) && (decide (r3.toNat < 13) || decide (r3.toNat = 200)))
  | .invokestatic k => bif Nat.beq r1 9998 then true else bif Nat.blt 9000 r1 then (decide (n = 3) && decide (1 ≤ (zrm i).1) && decide (23 ≤ (zrm i).2) && zmth i k r1) else (decide (n = 3) && zcl i k r1 r2 2)
  | .invokespecial k => bif Nat.beq r1 9998 then true else (match r2 with
    | 0 => decide (n = 3) && decide (zword i k = some (.methodLink (zy i).cls k Jvm.Lib.objectInit)) && decide (1 ≤ (zrm i).1) && decide (20 ≤ (zrm i).2)
    | _ => decide (n = 3) && zcl i k r1 r2 0)
  | .ireturn => decide (n = 1)
  | .lreturn => decide (n = 1) && decide ((zinfo i).2.1 = 2)
  | .areturn => decide (n = 1) && decide ((zinfo i).2.1 = 7)
  | .return_ => decide (n = 1) && decide ((zinfo i).2.1 = 0)
  | .dup | .dup2 | .pop => decide (n = 1)
  | _ => true
def zck (i : Nat) (e : zE) : Bool := decide (decode (zb i) e.1 = .ok (e.2.1, e.2.2.1)) && zck1 i e.1 e.2.2.1 e.2.2.2.1 e.2.2.2.2.1 e.2.2.2.2.2 e.2.1
def zckM (i : Nat) : Bool := (zcode i).all (zck i)
def zNf (c : Nat) : Nat := (zFTl.getD c []).length
def zCW : Prop := ∀ (c : Nat) (C : String) (T : u_T) (N : Nat), vwCl[c]? = some (C, T, N) → (∀ w ∈ u_ws C T N, w ∈ zT) ∧ (∀ k, k < N → parseFieldDescriptor (T k).2.2.1 = some (zTy c k)) ∧ (∀ a, a < N → ∀ b, b < N → a ≠ b → (T a).2.1 ≠ (T b).2.1) ∧ Cond.instantiable C N ∈ zT ∧ Cond.initialized C ∈ zT ∧ N = zNf c ∧ N ≤ 60000 ∧ ∀ k, k < N → ztc (zTy c k) (zft c k : Int) = true
/-- what is looked at by program, for all methods -/
def zFmath : Prop := Cond.initialized "java/lang/Math" ∈ zT ∧ (Cond.static Lib.Math.max.name ∈ zT ∧ Cond.code Lib.Math.max.name Lib.Math.max.code 2 (some .int) ∈ zT) ∧ (Cond.static Lib.Math.min.name ∈ zT ∧ Cond.code Lib.Math.min.name Lib.Math.min.code 2 (some .int) ∈ zT) ∧ (Cond.static Lib.Math.abs.name ∈ zT ∧ Cond.code Lib.Math.abs.name Lib.Math.abs.code 1 (some .int) ∈ zT) ∧ (Cond.static Lib.MathLoose.max_long.x ∈ zT ∧ Cond.code Lib.MathLoose.max_long.x Lib.MathLoose.max_long.code 4 (some .long) ∈ zT) ∧ (Cond.static Lib.MathLoose.min_long.x ∈ zT ∧ Cond.code Lib.MathLoose.min_long.x Lib.MathLoose.min_long.code 4 (some .long) ∈ zT)
def zFacts : Prop := zFmath ∧  (∀ i, i < 343 → zckM i = true) ∧ (∀ j, j < 342 → zMk j) ∧ zCW ∧ (∀ t : ArrayType, zatp t ≤ 4 → Cond.arrayClass (newarray.typeOf t) ∈ zT) ∧ Cond.instanceMethod Lib.objectInit ∈ zT ∧ Cond.code Lib.objectInit ⟨#[0xb1]⟩ 1 none ∈ zT
