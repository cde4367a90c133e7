/-! WHAT AN INSTRUCTION DOES, over places and whole numbers -/
def zcat : List zAV → Nat
  | [] => 0
  | v :: r => (match v with | .inr (.inl _) => 2 | _ => 1) + zcat r
def zclr (ls : zLL) (i : Nat) : zLL := match i with
  | 0 => ls
  | j + 1 => match ls.getD j none with
    | some (.inr (.inl _)) => ls.set j none
    | _ => ls
def zst1 (ls : zLL) (i : Nat) (v : zAV) : zLL := (zclr ls i).set i (some v)
def zst2 (ls : zLL) (i : Nat) (v : zAV) : zLL := ((zclr ls i).set i (some v)).set (i + 1) none
def zentl : List zAV → zLL
  | [] => []
  | v :: r => match v with
    | .inr (.inl x) => some (.inr (.inl x)) :: none :: zentl r
    | .inr (.inr x) => some (.inr (.inr x)) :: zentl r
    | .inl x => some (.inl x) :: zentl r
def zent (n : Nat) (a : List zAV) : zLL := zentl a ++ List.replicate (n - (zentl a).length) none
def zicmp (q : Jvm.ClassFile.Cond) (x y : Int) : Prop := match q with
  | .eq => x = y
  | .ne => ¬ x = y
  | .lt => x < y
  | .ge => y ≤ x
  | .gt => y < x
  | .le => x ≤ y
def zsm (x : Option Nat) : Prop := match x with
  | none => True
  | some k => k < 1000
def zpush (v : Option zAV) (r : List zAV) : List zAV := match v with
  | some v => v :: r
  | none => r
def zret (t : Nat) (x : Int) : Prop := match t with
  | 1 => True
  | 3 => x = 0 ∨ x = 1
  | 4 => -128 ≤ x ∧ x ≤ 127
  | 5 => 0 ≤ x ∧ x ≤ 65535
  | 6 => -32768 ≤ x ∧ x ≤ 32767
  | _ => False
/-- the kind of row that newarray makes -/
def zatp (t : ArrayType) : Nat := match t with
  | .int => 0
  | .long => 1
  | .short => 2
  | .byte => 3
  | .boolean => 4
  | _ => 90
section zS
variable (X : List Int) (P : zPT) (i pc c s : Nat) (ls : zLL) (st : List zAV) (sh : zSH) (h : zHP) (Q : zPO) (n r1 r2 : Nat) (r3 : Int)
def zLdI (k : Nat) : Prop := match ls.getD k none with
  | some (.inl x) => P i (pc + n) c s ls (.inl x :: st) sh h Q
  | _ => False
def zLdL (k : Nat) : Prop := match ls.getD k none with
  | some (.inr (.inl x)) => P i (pc + n) c s ls (.inr (.inl x) :: st) sh h Q
  | _ => False
def zLdR (k : Nat) : Prop := match ls.getD k none with
  | some (.inr (.inr x)) => P i (pc + n) c s ls (.inr (.inr x) :: st) sh h Q
  | _ => False
def zStI (k : Nat) : Prop := match st with
  | .inl x :: r => k < ls.length ∧ P i (pc + n) c s (zst1 ls k (.inl x)) r sh h Q
  | _ => False
def zStL (k : Nat) : Prop := match st with
  | .inr (.inl x) :: r => k + 1 < ls.length ∧ P i (pc + n) c s (zst2 ls k (.inr (.inl x))) r sh h Q
  | _ => False
def zStR (k : Nat) : Prop := match st with
  | .inr (.inr x) :: r => k < ls.length ∧ P i (pc + n) c s (zst1 ls k (.inr (.inr x))) r sh h Q
  | _ => False
def zPush (v : zAV) : Prop := P i (pc + n) c s ls (v :: st) sh h Q
def zBin (f : Int → Int → Int) : Prop := match st with
  | .inl y :: .inl x :: r => P i (pc + n) c s ls (.inl (f x y) :: r) sh h Q
  | _ => False
def zDiv (f : Int → Int → Int) : Prop := match st with
  | .inl y :: .inl x :: r => y ≠ 0 ∧ P i (pc + n) c s ls (.inl (f x y) :: r) sh h Q
  | _ => False
def zBinL (f : Int → Int → Int) : Prop := match st with
  | .inr (.inl y) :: .inr (.inl x) :: r => P i (pc + n) c s ls (.inr (.inl (f x y)) :: r) sh h Q
  | _ => False
def zShL (f : Int → Int → Int) : Prop := match st with
  | .inl y :: .inr (.inl x) :: r => P i (pc + n) c s ls (.inr (.inl (f x y)) :: r) sh h Q
  | _ => False
def zCmpL : Prop := match st with
  | .inr (.inl y) :: .inr (.inl x) :: r => P i (pc + n) c s ls (.inl (if y < x then 1 else if x = y then 0 else -1) :: r) sh h Q
  | _ => False
def zUn (f : Int → Int) : Prop := match st with
  | .inl x :: r => P i (pc + n) c s ls (.inl (f x) :: r) sh h Q
  | _ => False
def zIL : Prop := match st with
  | .inl x :: r => P i (pc + n) c s ls (.inr (.inl x) :: r) sh h Q
  | _ => False
def zLI : Prop := match st with
  | .inr (.inl x) :: r => P i (pc + n) c s ls (.inl (zw x) :: r) sh h Q
  | _ => False
def zInc (k : Nat) (d : Int) : Prop := match ls.getD k none with
  | some (.inl x) => k < ls.length ∧ P i (pc + n) c s (zst1 ls k (.inl (zw (x + d)))) st sh h Q
  | _ => False
def zIf (q : Jvm.ClassFile.Cond) : Prop := match st with
  | .inl x :: r => (zicmp q x 0 → P i r1 c s ls r sh h Q) ∧ (¬ zicmp q x 0 → P i (pc + n) c s ls r sh h Q)
  | _ => False
def zIf2 (q : Jvm.ClassFile.Cond) : Prop := match st with
  | .inl y :: .inl x :: r => (zicmp q x y → P i r1 c s ls r sh h Q) ∧ (¬ zicmp q x y → P i (pc + n) c s ls r sh h Q)
  | _ => False
def zIfA (q : ACond) : Prop := match st with
  | .inr (.inr y) :: .inr (.inr x) :: r => zsm x ∧ zsm y ∧ match q with
    | .eq => (x = y → P i r1 c s ls r sh h Q) ∧ (¬ x = y → P i (pc + n) c s ls r sh h Q)
    | .ne => (¬ x = y → P i r1 c s ls r sh h Q) ∧ (x = y → P i (pc + n) c s ls r sh h Q)
  | _ => False
def zIfN : Prop := match st with
  | .inr (.inr (some k)) :: r => k < 1000 ∧ P i (pc + n) c s ls r sh h Q
  | .inr (.inr none) :: r => P i r1 c s ls r sh h Q
  | _ => False
def zIfNN : Prop := match st with
  | .inr (.inr (some k)) :: r => k < 1000 ∧ P i r1 c s ls r sh h Q
  | .inr (.inr none) :: r => P i (pc + n) c s ls r sh h Q
  | _ => False
def zTab (d lo hi : Int) (os : Array Int) : Prop := match st with
  | .inl x :: r => ((x < lo ∨ hi < x) → 0 ≤ (pc : Int) + d ∧ P i ((pc : Int) + d).toNat c s ls r sh h Q) ∧ (lo ≤ x → x ≤ hi → ∃ o, os[(x - lo).toNat]? = some o ∧ 0 ≤ (pc : Int) + o ∧ P i ((pc : Int) + o).toNat c s ls r sh h Q)
  | _ => False
def zLook (d : Int) (ps : Array (Int × Int)) : Prop := match st with
  | .inl x :: r => 0 ≤ (pc : Int) + Op.lookupswitch.offset ps.toList d x ∧ P i ((pc : Int) + Op.lookupswitch.offset ps.toList d x).toNat c s ls r sh h Q
  | _ => False
/-- a row read: kinds t1, t2 -/
def zALd (t1 t2 : Nat) : Prop := match st with
  | .inl k :: .inr (.inr (some a)) :: r => ((zsh X sh a).1 = t1 ∨ (zsh X sh a).1 = t2) ∧ 0 ≤ k ∧ k < ((zsh X sh a).2 : Int) ∧ P i (pc + n) c s ls (.inl (zrd X h a k.toNat) :: r) sh h Q
  | _ => False
def zALdL : Prop := match st with
  | .inl k :: .inr (.inr (some a)) :: r => (zsh X sh a).1 = 1 ∧ 0 ≤ k ∧ k < ((zsh X sh a).2 : Int) ∧ P i (pc + n) c s ls (.inr (.inl (zrd X h a k.toNat)) :: r) sh h Q
  | _ => False
def zALdR : Prop := match st with
  | .inl k :: .inr (.inr (some a)) :: r => a < 1000 ∧ (zsh X sh a).1 = 5 ∧ 0 ≤ k ∧ k < ((zsh X sh a).2 : Int) ∧ ((∃ q : Nat, zrd X h a k.toNat = (q : Int) ∧ P i (pc + n) c s ls (.inr (.inr (some q)) :: r) sh h Q) ∨ (zrd X h a k.toNat = -1 ∧ P i (pc + n) c s ls (.inr (.inr none) :: r) sh h Q))
  | _ => False
def zASt (t : Nat) (f : Int → Int) : Prop := match st with
  | .inl v :: .inl k :: .inr (.inr (some a)) :: r => a < 1000 ∧ (zsh X sh a).1 = t ∧ 0 ≤ k ∧ k < ((zsh X sh a).2 : Int) ∧ P i (pc + n) c s ls r sh (zup h a k.toNat (f v)) Q
  | _ => False
/-- bytes or booleans -/
def zAStB : Prop := match st with
  | .inl v :: .inl k :: .inr (.inr (some a)) :: r => a < 1000 ∧ 0 ≤ k ∧ k < ((zsh X sh a).2 : Int) ∧ (((zsh X sh a).1 = 3 ∧ P i (pc + n) c s ls r sh (zup h a k.toNat (Int.bmod v 256)) Q) ∨ ((zsh X sh a).1 = 4 ∧ (v = 0 ∨ v = 1) ∧ P i (pc + n) c s ls r sh (zup h a k.toNat v) Q))
  | _ => False
def zAStL : Prop := match st with
  | .inr (.inl v) :: .inl k :: .inr (.inr (some a)) :: r => a < 1000 ∧ (zsh X sh a).1 = 1 ∧ 0 ≤ k ∧ k < ((zsh X sh a).2 : Int) ∧ P i (pc + n) c s ls r sh (zup h a k.toNat v) Q
  | _ => False
def zAStR : Prop := match st with
  | .inr (.inr (some v)) :: .inl k :: .inr (.inr (some a)) :: r => a < 1000 ∧ (zsh X sh a).1 = 5 ∧ v < 1000 ∧ (zsh X sh v).1 = 17 ∧ 0 ≤ k ∧ k < ((zsh X sh a).2 : Int) ∧ P i (pc + n) c s ls r sh (zup h a k.toNat (v : Int)) Q
  | _ => False
def zLen : Prop := match st with
  | .inr (.inr (some a)) :: r => (zsh X sh a).1 ≤ 5 ∧ P i (pc + n) c s ls (.inl ((zsh X sh a).2 : Int) :: r) sh h Q
  | _ => False
def zGet : Prop := match st with
  | .inr (.inr (some o)) :: r => (zsh X sh o).1 = 16 + r1 ∧ match r3 with
    | 0 => P i (pc + n) c s ls (.inl (zrd X h o r2) :: r) sh h Q
    | 1 => P i (pc + n) c s ls (.inr (.inl (zrd X h o r2)) :: r) sh h Q
    | _ => (∃ q : Nat, zrd X h o r2 = (q : Int) ∧ P i (pc + n) c s ls (.inr (.inr (some q)) :: r) sh h Q) ∨ (zrd X h o r2 = -1 ∧ P i (pc + n) c s ls (.inr (.inr none) :: r) sh h Q)
  | _ => False
def zPut : Prop := match st with
  | v :: .inr (.inr (some o)) :: r => o < 1000 ∧ (zsh X sh o).1 = 16 + r1 ∧ match r3, v with
    | 0, .inl x => P i (pc + n) c s ls r sh (zup h o r2 x) Q
    | 1, .inr (.inl x) => P i (pc + n) c s ls r sh (zup h o r2 x) Q
    | 2, .inr (.inr (some q)) => P i (pc + n) c s ls r sh (zup h o r2 (q : Int)) Q
    | 2, .inr (.inr none) => P i (pc + n) c s ls r sh (zup h o r2 (-1)) Q
    | _, _ => False
  | _ => False
def zNew : Prop := sh.length < 1000 ∧ 1 ≤ c ∧ r2 ≤ s ∧ P i (pc + n) (c - 1) (s - r2) ls (.inr (.inr (some sh.length)) :: st) (sh ++ [(16 + r1, r2)]) (zborn h r1 sh.length) Q
def zNewA (t : Nat) (x : Int) : Prop := match st with
  | .inl k :: r => sh.length < 1000 ∧ t ≤ 5 ∧ 0 ≤ k ∧ k ≤ 60000 ∧ 1 ≤ c ∧ k.toNat ≤ s ∧ P i (pc + n) (c - 1) (s - k.toNat) ls (.inr (.inr (some sh.length)) :: r) (sh ++ [(t, k.toNat)]) (znul h sh.length x) Q
  | _ => False
/-- a call: method r1, with r2 values on top; what it leaves is told by R -/
def zCall (ok : Prop) : Prop := (r2 ≤ st.length ∧ zcat (st.drop r2) ≤ 8 ∧ (zentl (st.take r2).reverse).length ≤ (zinfo r1).1) ∧ ok ∧ (zinfo r1).2.2.1 ≤ c ∧ (zinfo r1).2.2.2 ≤ s ∧
  ∃ R : zPO, P r1 0 (zinfo r1).2.2.1 (zinfo r1).2.2.2 (zent (zinfo r1).1 (st.take r2).reverse) [] sh h R ∧ ∀ v sh' h', R v sh' h' → P i (pc + 3) (c - (zinfo r1).2.2.1) (s - (zinfo r1).2.2.2) ls (zpush v (st.drop r2)) sh' h' Q
def zRec : Prop := match (st.take r2).reverse with
  | .inr (.inr (some o)) :: _ => (zsh X sh o).1 = 16 + r3.toNat
  | _ => False
def zRec0 : Prop := match (st.take r2).reverse with
  | .inr (.inr (some k)) :: _ => k < 1000
  | _ => False
def zObj : Prop := match st with
  | .inr (.inr (some k)) :: r => k < 1000 ∧ zcat r ≤ 8 ∧ P i (pc + n) c s ls r sh h Q
  | _ => False
def zCallG (ok : Prop) : Prop := bif Nat.blt r1 342 then zCall P i pc c s ls st sh h Q r1 r2 ok else False
def zObjG : Prop := bif Nat.beq r1 9999 then zObj P i pc c s ls st sh h Q n else False
/-- the JDK's max, min and abs, as the machine has them -/
def zMath : Prop :=
  bif Nat.beq r1 9001 then (match st with | .inl y :: .inl x :: r => zcat r ≤ 8 ∧ P i (pc + 3) c s ls (.inl (if x < y then y else x) :: r) sh h Q | _ => False)
  else bif Nat.beq r1 9002 then (match st with | .inl y :: .inl x :: r => zcat r ≤ 8 ∧ P i (pc + 3) c s ls (.inl (if y < x then y else x) :: r) sh h Q | _ => False)
  else bif Nat.beq r1 9003 then (match st with | .inl x :: r => zcat r ≤ 8 ∧ P i (pc + 3) c s ls (.inl (if 0 ≤ x then x else zw (0 - x)) :: r) sh h Q | _ => False)
  else bif Nat.beq r1 9004 then (match st with | .inr (.inl y) :: .inr (.inl x) :: r => zcat r ≤ 8 ∧ P i (pc + 3) c s ls (.inr (.inl (if y < x then x else y)) :: r) sh h Q | _ => False)
  else bif Nat.beq r1 9005 then (match st with | .inr (.inl y) :: .inr (.inl x) :: r => zcat r ≤ 8 ∧ P i (pc + 3) c s ls (.inr (.inl (if y < x then y else x)) :: r) sh h Q | _ => False)
  else False
def zRetI : Prop := match st with
  | [.inl x] => zret (zinfo i).2.1 x ∧ Q (some (.inl x)) sh h
  | _ => False
def zRetL : Prop := match st with
  | [.inr (.inl x)] => Q (some (.inr (.inl x))) sh h
  | _ => False
def zRetR : Prop := match st with
  | [.inr (.inr x)] => Q (some (.inr (.inr x))) sh h
  | _ => False
def zRetV : Prop := match st with
  | [] => Q none sh h
  | _ => False
def zDup : Prop := match st with
  | .inl x :: r => P i (pc + n) c s ls (.inl x :: .inl x :: r) sh h Q
  | .inr (.inr x) :: r => P i (pc + n) c s ls (.inr (.inr x) :: .inr (.inr x) :: r) sh h Q
  | _ => False
def zDup2 : Prop := match st with
  | .inl x :: .inl y :: r => P i (pc + n) c s ls (.inl x :: .inl y :: .inl x :: .inl y :: r) sh h Q
  | .inl x :: .inr (.inr y) :: r => P i (pc + n) c s ls (.inl x :: .inr (.inr y) :: .inl x :: .inr (.inr y) :: r) sh h Q
  | .inr (.inl x) :: r => P i (pc + n) c s ls (.inr (.inl x) :: .inr (.inl x) :: r) sh h Q
  | _ => False
def zPop : Prop := match st with
  | .inl _ :: r => P i (pc + n) c s ls r sh h Q
  | .inr (.inr _) :: r => P i (pc + n) c s ls r sh h Q
  | _ => False
def zDo (ins : Instr) : Prop := match ins with
  | .aload_n k => zLdR P i pc c s ls st sh h Q n k.val
  | .aload k => zLdR P i pc c s ls st sh h Q n k
  | .iload_n k => zLdI P i pc c s ls st sh h Q n k.val
  | .iload k => zLdI P i pc c s ls st sh h Q n k
  | .lload_n k => zLdL P i pc c s ls st sh h Q n k.val
  | .lload k => zLdL P i pc c s ls st sh h Q n k
  | .astore_n k => zStR P i pc c s ls st sh h Q n k.val
  | .astore k => zStR P i pc c s ls st sh h Q n k
  | .istore_n k => zStI P i pc c s ls st sh h Q n k.val
  | .istore k => zStI P i pc c s ls st sh h Q n k
  | .lstore_n k => zStL P i pc c s ls st sh h Q n k.val
  | .lstore k => zStL P i pc c s ls st sh h Q n k
  | .iconst k => zPush P i pc c s ls st sh h Q n (.inl k)
  | .bipush k => zPush P i pc c s ls st sh h Q n (.inl k)
  | .sipush k => zPush P i pc c s ls st sh h Q n (.inl k)
  | .lconst k => zPush P i pc c s ls st sh h Q n (.inr (.inl (k.val : Int)))
  | .aconst_null => zPush P i pc c s ls st sh h Q n (.inr (.inr none))
  | .ldc _ => match r1 with
    | 0 => zPush P i pc c s ls st sh h Q n (.inl r3)
    | _ => zPush P i pc c s ls st sh h Q n (.inr (.inr (some r2)))
  | .ldc_w _ => zPush P i pc c s ls st sh h Q n (.inl r3)
  | .ldc2_w _ => zPush P i pc c s ls st sh h Q n (.inr (.inl r3))
  | .getstatic _ => match r1 with
    | 0 => zPush P i pc c s ls st sh h Q n (.inl r3)
    | 1 => zPush P i pc c s ls st sh h Q n (.inr (.inr (some r2)))
    | _ => False
  | .iadd => zBin P i pc c s ls st sh h Q n (fun x y => zw (x + y))
  | .isub => zBin P i pc c s ls st sh h Q n (fun x y => zw (x - y))
  | .imul => zBin P i pc c s ls st sh h Q n (fun x y => zw (x * y))
  | .iand => zBin P i pc c s ls st sh h Q n (fun x y => (Int32.ofInt x &&& Int32.ofInt y).toInt)
  | .ior => zBin P i pc c s ls st sh h Q n (fun x y => (Int32.ofInt x ||| Int32.ofInt y).toInt)
  | .ixor => zBin P i pc c s ls st sh h Q n (fun x y => (Int32.ofInt x ^^^ Int32.ofInt y).toInt)
  | .ishl => zBin P i pc c s ls st sh h Q n (fun x y => (Int32.ofInt x <<< (Int32.ofInt y &&& 31)).toInt)
  | .ishr => zBin P i pc c s ls st sh h Q n (fun x y => (Int32.ofInt x >>> (Int32.ofInt y &&& 31)).toInt)
  | .iushr => zBin P i pc c s ls st sh h Q n (fun x y => ((Int32.ofInt x).toUInt32 >>> ((Int32.ofInt y).toUInt32 &&& Int32.toUInt32 31)).toInt32.toInt)
  | .idiv => zDiv P i pc c s ls st sh h Q n (fun x y => zw (Int.tdiv x y))
  | .irem => zDiv P i pc c s ls st sh h Q n (fun x y => Int.tmod x y)
  | .ineg => zUn P i pc c s ls st sh h Q n (fun x => zw (-x))
  | .i2b => zUn P i pc c s ls st sh h Q n (fun x => Int.bmod x 256)
  | .i2s => zUn P i pc c s ls st sh h Q n (fun x => Int.bmod x 65536)
  | .i2c => zUn P i pc c s ls st sh h Q n (fun x => x % 65536)
  | .i2l => zIL P i pc c s ls st sh h Q n
  | .l2i => zLI P i pc c s ls st sh h Q n
  | .ladd => zBinL P i pc c s ls st sh h Q n (fun x y => zwl (x + y))
  | .lsub => zBinL P i pc c s ls st sh h Q n (fun x y => zwl (x - y))
  | .lmul => zBinL P i pc c s ls st sh h Q n (fun x y => zwl (x * y))
  | .land => zBinL P i pc c s ls st sh h Q n (fun x y => (Int64.ofInt x &&& Int64.ofInt y).toInt)
  | .lor => zBinL P i pc c s ls st sh h Q n (fun x y => (Int64.ofInt x ||| Int64.ofInt y).toInt)
  | .lxor => zBinL P i pc c s ls st sh h Q n (fun x y => (Int64.ofInt x ^^^ Int64.ofInt y).toInt)
  | .lshl => zShL P i pc c s ls st sh h Q n (fun x y => (Int64.ofInt x <<< ((Int32.ofInt y).toInt64 &&& 63)).toInt)
  | .lushr => zShL P i pc c s ls st sh h Q n (fun x y => ((Int64.ofInt x).toUInt64 >>> ((Int32.ofInt y).toInt64.toUInt64 &&& Int64.toUInt64 63)).toInt64.toInt)
  | .lcmp => zCmpL P i pc c s ls st sh h Q n
  | .iinc k d => zInc P i pc c s ls st sh h Q n k d
  | .ifCond q _ => zIf P i pc c s ls st sh h Q n r1 q
  | .if_icmp q _ => zIf2 P i pc c s ls st sh h Q n r1 q
  | .if_acmp q _ => zIfA P i pc c s ls st sh h Q n r1 q
  | .ifnull _ => zIfN P i pc c s ls st sh h Q n r1
  | .ifnonnull _ => zIfNN P i pc c s ls st sh h Q n r1
  | .goto _ => P i r1 c s ls st sh h Q
  | .tableswitch d lo hi os => zTab P i pc c s ls st sh h Q d lo hi os
  | .lookupswitch d ps => zLook P i pc c s ls st sh h Q d ps
  | .iaload => zALd X P i pc c s ls st sh h Q n 0 0
  | .baload => zALd X P i pc c s ls st sh h Q n 3 4
  | .saload => zALd X P i pc c s ls st sh h Q n 2 2
  | .laload => zALdL X P i pc c s ls st sh h Q n
  | .aaload => zALdR X P i pc c s ls st sh h Q n
  | .iastore => zASt X P i pc c s ls st sh h Q n 0 (fun x => x)
  | .sastore => zASt X P i pc c s ls st sh h Q n 2 (fun x => Int.bmod x 65536)
  | .bastore => zAStB X P i pc c s ls st sh h Q n
  | .lastore => zAStL X P i pc c s ls st sh h Q n
  | .aastore => zAStR X P i pc c s ls st sh h Q n
  | .arraylength => zLen X P i pc c s ls st sh h Q n
  | .getfield _ => zGet X P i pc c s ls st sh h Q n r1 r2 r3
  | .putfield _ => zPut X P i pc c s ls st sh h Q n r1 r2 r3
  | .new _ => zNew P i pc c s ls st sh h Q n r1 r2
  | .newarray t => zNewA P i pc c s ls st sh h Q n (zatp t) 0
  | .anewarray _ => zNewA P i pc c s ls st sh h Q n 5 (-1)
  | .invokevirtual _ => zCallG P i pc c s ls st sh h Q r1 r2 (zRec X st sh r2 r3)
  | .invokestatic _ => bif Nat.blt 9000 r1 then zMath P i pc c s ls st sh h Q r1 else zCallG P i pc c s ls st sh h Q r1 r2 True
  | .invokespecial _ => match r2 with
    | 0 => zObjG P i pc c s ls st sh h Q n r1
    | _ => zCallG P i pc c s ls st sh h Q r1 r2 (zRec0 st r2)
  | .ireturn => zRetI i st sh h Q
  | .lreturn => zRetL st sh h Q
  | .areturn => zRetR st sh h Q
  | .return_ => zRetV st sh h Q
  | .dup => zDup P i pc c s ls st sh h Q n
  | .dup2 => zDup2 P i pc c s ls st sh h Q n
  | .pop => zPop P i pc c s ls st sh h Q n
  | _ => False
def zStep : Prop := bif Nat.blt i 343 then (match zLk pc (zcode i) with
  | none => False
  | some e => zDo X P i pc c s ls st sh h Q e.2.1 e.2.2.1 e.2.2.2.1 e.2.2.2.2 e.1) else False
end zS
/-- from here the method comes back, and Q holds of what it gives -/
def zAt (X : List Int) (i pc c s : Nat) (ls : zLL) (st : List zAV) (sh : zSH) (h : zHP) (Q : zPO) : Prop :=
  ∀ P : zPT, (∀ i pc c s ls st sh h Q, zStep X P i pc c s ls st sh h Q → P i pc c s ls st sh h Q) → P i pc c s ls st sh h Q
