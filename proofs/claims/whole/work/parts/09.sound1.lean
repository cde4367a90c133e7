/-! THE RULES HOLD OF THE MACHINE -/
section zSd
variable {D : va_G} {B : Nat} {cv : Nat → Value} {cA : Nat → ClassId} {X : List Int}
abbrev zCtx (B : Nat) (p : Program) (R : Room) (s : State) (m : MethodId) (args : Array Value) (meth : Method) (cd : Code) (i : Nat) : Prop :=
  p.tables.exec = Jvm.exec ∧ cd.code = zb i ∧ cd.maxLocals = (zinfo i).1 ∧ s.vm.findClass (zy i).cls = some m.cls ∧ (∀ w ∈ zT, w.before args s = true) ∧ ((zy i).name = "<init>" → meth.name = "<init>") ∧ ((zrm i).1 ≤ R.frames ∧ (zrm i).2 ≤ R.locals) ∧ B ≤ s.heap.size
def zrv (ins : Instr) (t : Nat) (v : Option zAV) : Prop := match ins, v with
  | .ireturn, some (.inl x) => zret t x
  | .lreturn, some (.inr (.inl _)) => t = 2
  | .areturn, some (.inr (.inr _)) => t = 7
  | .return_, none => t = 0
  | _, _ => False
def zokO (v : Option zAV) : Prop := match v with
  | some v => zokv v
  | none => True
def zEnd (D : va_G) (B : Nat) (cv : Nat → Value) (cA : Nat → ClassId) (p : Program) (l : Launch) (e : Env) (R : Room) (s : State) (m : MethodId) (args : Array Value) (below : List Frame) (meth : Method) (cd : Code) (i : Nat) (Q : zPO) (QQ : State → Prop) : Prop :=
  ∀ (pc : Nat) (ins : Instr) (v : Option zAV) (sh : zSH) (h : zHP) (H : Heap) (locs : List Loc) (cells slots : Nat) (lsc : Array Slot), decode (zb i) pc = .ok (ins, 1) → zrv ins (zinfo i).2.1 v → zokO v → Q v sh h → zWR D B cv cA sh h H → va_S (fun q => B ≤ q) s.heap H locs → cells ≤ R.cells → slots ≤ R.slots →
    W p l e R s m args below meth cd H locs cells slots QQ (F0 m pc lsc (v.toList.map (zcv B cv)))
def zSnd (D : va_G) (B : Nat) (cv : Nat → Value) (cA : Nat → ClassId) (X : List Int) : zPT := fun i pc c sl ls st sh h Q =>
  ∀ (p : Program) (l : Launch) (e : Env) (R : Room) (s : State) (m : MethodId) (args : Array Value) (below : List Frame) (meth : Method) (cd : Code) (H : Heap) (locs : List Loc) (cells slots : Nat) (lsc : Array Slot) (QQ : State → Prop), zCtx B p R s m args meth cd i → zKS D B cv cA X s → zWR D B cv cA sh h H → zLR B cv ls lsc → ls.length = (zinfo i).1 → zokL ls → zokS st → va_S (fun q => B ≤ q) s.heap H locs → cells + c ≤ R.cells → slots + sl ≤ R.slots → zEnd D B cv cA p l e R s m args below meth cd i Q QQ →
    W p l e R s m args below meth cd H locs cells slots QQ (F0 m pc lsc (st.map (zcv B cv)))
theorem zb8_r (x : Int) : z32 (Int.bmod x 256) := by unfold z32; rw [Int.bmod_def]; omega
theorem zb16_r (x : Int) : z32 (Int.bmod x 65536) := by unfold z32; rw [Int.bmod_def]; omega
theorem zc16_r (x : Int) : z32 (x % 65536) := by unfold z32; omega
theorem zokS.c {v : zAV} {r : List zAV} (hv : zokv v) (hr : zokS r) : zokS (v :: r) := fun w hw => (List.mem_cons.mp hw).elim (fun e => e ▸ hv) (hr w)
theorem zokS.h {v : zAV} {r : List zAV} (h : zokS (v :: r)) : zokv v := h v List.mem_cons_self
theorem zokS.t {v : zAV} {r : List zAV} (h : zokS (v :: r)) : zokS r := fun w hw => h w (List.mem_cons_of_mem _ hw)
theorem zKS.cvv {s : State} (K : zKS D B cv cA X s) : ∀ k, cv k = .null ∨ ∃ a, cv k = .ref a := K.2.2.2.2.2.2.2.1
variable {i pc c sl n r1 r2 : Nat} {r3 : Int} {ls : zLL} {st : List zAV} {sh : zSH} {h : zHP} {Q : zPO}

theorem zcvR {x : Option Nat} (cvv : ∀ k, cv k = .null ∨ ∃ a, cv k = .ref a) : zcv B cv (.inr (.inr x)) = .null ∨ ∃ a, zcv B cv (.inr (.inr x)) = .ref a := by
  cases x with
  | none => exact Or.inl rfl
  | some k =>
    show zcr B cv k = .null ∨ ∃ a, zcr B cv k = .ref a
    unfold zcr
    cases Nat.blt k 1000 with
    | true => exact Or.inr ⟨_, rfl⟩
    | false => exact cvv k
theorem zs_iload_n {k : Fin 4} (hd : decode (zb i) pc = .ok (.iload_n k, 1)) (q : zLdI (zSnd D B cv cA X) i pc c sl ls st sh h Q 1 (k.val)) : zSnd D B cv cA X i pc c sl ls st sh h Q := by
  intro p l e R s m args below meth cd H locs cells slots lsc QQ C K Wd L ll oL oS S b1 b2 E
  unfold zLdI at q
  split at q
  · rename_i x ex
    refine lv_iload_n C.1 C.2.1 hd rfl (L.at ex) ?_
    exact q _ _ _ _ _ _ _ _ _ _ _ _ _ _ _ _ C K Wd L ll oL (zokS.c (zokL_get oL ex) oS) S b1 b2 E
  · exact q.elim
theorem zs_iload {k : Nat} (hd : decode (zb i) pc = .ok (.iload k, 2)) (q : zLdI (zSnd D B cv cA X) i pc c sl ls st sh h Q 2 (k)) : zSnd D B cv cA X i pc c sl ls st sh h Q := by
  intro p l e R s m args below meth cd H locs cells slots lsc QQ C K Wd L ll oL oS S b1 b2 E
  unfold zLdI at q
  split at q
  · rename_i x ex
    refine lv_iload C.1 C.2.1 hd (L.at ex) ?_
    exact q _ _ _ _ _ _ _ _ _ _ _ _ _ _ _ _ C K Wd L ll oL (zokS.c (zokL_get oL ex) oS) S b1 b2 E
  · exact q.elim
theorem zs_lload_n {k : Fin 4} (hd : decode (zb i) pc = .ok (.lload_n k, 1)) (q : zLdL (zSnd D B cv cA X) i pc c sl ls st sh h Q 1 (k.val)) : zSnd D B cv cA X i pc c sl ls st sh h Q := by
  intro p l e R s m args below meth cd H locs cells slots lsc QQ C K Wd L ll oL oS S b1 b2 E
  unfold zLdL at q
  split at q
  · rename_i x ex
    refine lv_lload_n C.1 C.2.1 hd rfl (L.at ex) ?_
    exact q _ _ _ _ _ _ _ _ _ _ _ _ _ _ _ _ C K Wd L ll oL (zokS.c (zokL_get oL ex) oS) S b1 b2 E
  · exact q.elim
theorem zs_lload {k : Nat} (hd : decode (zb i) pc = .ok (.lload k, 2)) (q : zLdL (zSnd D B cv cA X) i pc c sl ls st sh h Q 2 (k)) : zSnd D B cv cA X i pc c sl ls st sh h Q := by
  intro p l e R s m args below meth cd H locs cells slots lsc QQ C K Wd L ll oL oS S b1 b2 E
  unfold zLdL at q
  split at q
  · rename_i x ex
    refine lv_lload C.1 C.2.1 hd (L.at ex) ?_
    exact q _ _ _ _ _ _ _ _ _ _ _ _ _ _ _ _ C K Wd L ll oL (zokS.c (zokL_get oL ex) oS) S b1 b2 E
  · exact q.elim
theorem zs_aload_n {k : Fin 4} (hd : decode (zb i) pc = .ok (.aload_n k, 1)) (q : zLdR (zSnd D B cv cA X) i pc c sl ls st sh h Q 1 (k.val)) : zSnd D B cv cA X i pc c sl ls st sh h Q := by
  intro p l e R s m args below meth cd H locs cells slots lsc QQ C K Wd L ll oL oS S b1 b2 E
  unfold zLdR at q
  split at q
  · rename_i x ex
    have e1 := L.at ex
    have k1 := q _ _ _ _ _ _ _ _ _ _ _ _ _ _ _ _ C K Wd L ll oL (zokS.c (v := .inr (.inr x)) trivial oS) S b1 b2 E
    rcases zcvR (x := x) K.cvv with e2 | ⟨a, e2⟩
    · rw [e2] at e1
      rw [List.map_cons, e2] at k1
      exact lv_aload_nN C.1 C.2.1 hd rfl e1 k1
    · rw [e2] at e1
      rw [List.map_cons, e2] at k1
      exact lv_aload_n C.1 C.2.1 hd rfl e1 k1
  · exact q.elim
theorem zs_aload {k : Nat} (hd : decode (zb i) pc = .ok (.aload k, 2)) (q : zLdR (zSnd D B cv cA X) i pc c sl ls st sh h Q 2 (k)) : zSnd D B cv cA X i pc c sl ls st sh h Q := by
  intro p l e R s m args below meth cd H locs cells slots lsc QQ C K Wd L ll oL oS S b1 b2 E
  unfold zLdR at q
  split at q
  · rename_i x ex
    have e1 := L.at ex
    have k1 := q _ _ _ _ _ _ _ _ _ _ _ _ _ _ _ _ C K Wd L ll oL (zokS.c (v := .inr (.inr x)) trivial oS) S b1 b2 E
    rcases zcvR (x := x) K.cvv with e2 | ⟨a, e2⟩
    · rw [e2] at e1
      rw [List.map_cons, e2] at k1
      exact lv_aloadN C.1 C.2.1 hd e1 k1
    · rw [e2] at e1
      rw [List.map_cons, e2] at k1
      exact lv_aload C.1 C.2.1 hd e1 k1
  · exact q.elim
theorem zs_istore_n {k : Fin 4} (hd : decode (zb i) pc = .ok (.istore_n k, 1)) (q : zStI (zSnd D B cv cA X) i pc c sl ls st sh h Q 1 (k.val)) : zSnd D B cv cA X i pc c sl ls st sh h Q := by
  intro p l e R s m args below meth cd H locs cells slots lsc QQ C K Wd L ll oL oS S b1 b2 E
  unfold zStI at q
  split at q
  · rename_i x r
    obtain ⟨hk, q⟩ := q
    refine lv_istore_n C.1 C.2.1 hd rfl L hk rfl (fun ls' hl => ?_)
    exact q _ _ _ _ _ _ _ _ _ _ _ _ _ _ _ _ C K Wd (zLR.st1 (v := .inl x) K.cvv hl) (by rw [← ll]; unfold zst1; rw [List.length_set, zclr_len]) (zokL_st1 oL oS.h) oS.t S b1 b2 E
  · exact q.elim
theorem zs_istore {k : Nat} (hd : decode (zb i) pc = .ok (.istore k, 2)) (q : zStI (zSnd D B cv cA X) i pc c sl ls st sh h Q 2 (k)) : zSnd D B cv cA X i pc c sl ls st sh h Q := by
  intro p l e R s m args below meth cd H locs cells slots lsc QQ C K Wd L ll oL oS S b1 b2 E
  unfold zStI at q
  split at q
  · rename_i x r
    obtain ⟨hk, q⟩ := q
    refine lv_istore C.1 C.2.1 hd L hk rfl (fun ls' hl => ?_)
    exact q _ _ _ _ _ _ _ _ _ _ _ _ _ _ _ _ C K Wd (zLR.st1 (v := .inl x) K.cvv hl) (by rw [← ll]; unfold zst1; rw [List.length_set, zclr_len]) (zokL_st1 oL oS.h) oS.t S b1 b2 E
  · exact q.elim
theorem zs_lstore_n {k : Fin 4} (hd : decode (zb i) pc = .ok (.lstore_n k, 1)) (q : zStL (zSnd D B cv cA X) i pc c sl ls st sh h Q 1 (k.val)) : zSnd D B cv cA X i pc c sl ls st sh h Q := by
  intro p l e R s m args below meth cd H locs cells slots lsc QQ C K Wd L ll oL oS S b1 b2 E
  unfold zStL at q
  split at q
  · rename_i x r
    obtain ⟨hk, q⟩ := q
    refine lv_lstore_n C.1 C.2.1 hd rfl L hk rfl (fun ls' hl => ?_)
    exact q _ _ _ _ _ _ _ _ _ _ _ _ _ _ _ _ C K Wd (zLR.st2 (v := .inr (.inl x)) K.cvv hl) (by rw [← ll]; unfold zst2; rw [List.length_set, List.length_set, zclr_len]) (zokL_st2 oL oS.h) oS.t S b1 b2 E
  · exact q.elim
theorem zs_lstore {k : Nat} (hd : decode (zb i) pc = .ok (.lstore k, 2)) (q : zStL (zSnd D B cv cA X) i pc c sl ls st sh h Q 2 (k)) : zSnd D B cv cA X i pc c sl ls st sh h Q := by
  intro p l e R s m args below meth cd H locs cells slots lsc QQ C K Wd L ll oL oS S b1 b2 E
  unfold zStL at q
  split at q
  · rename_i x r
    obtain ⟨hk, q⟩ := q
    refine lv_lstore C.1 C.2.1 hd L hk rfl (fun ls' hl => ?_)
    exact q _ _ _ _ _ _ _ _ _ _ _ _ _ _ _ _ C K Wd (zLR.st2 (v := .inr (.inl x)) K.cvv hl) (by rw [← ll]; unfold zst2; rw [List.length_set, List.length_set, zclr_len]) (zokL_st2 oL oS.h) oS.t S b1 b2 E
  · exact q.elim
theorem zs_astore_n {k : Fin 4} (hd : decode (zb i) pc = .ok (.astore_n k, 1)) (q : zStR (zSnd D B cv cA X) i pc c sl ls st sh h Q 1 (k.val)) : zSnd D B cv cA X i pc c sl ls st sh h Q := by
  intro p l e R s m args below meth cd H locs cells slots lsc QQ C K Wd L ll oL oS S b1 b2 E
  unfold zStR at q
  split at q
  · rename_i x r
    obtain ⟨hk, q⟩ := q
    have k1 := fun ls' hl => q _ _ _ _ _ _ _ _ _ _ _ _ _ _ _ _ C K Wd (zLR.st1 (ls' := ls') (i := k.val) (v := .inr (.inr x)) K.cvv hl) (by rw [← ll]; unfold zst1; rw [List.length_set, zclr_len]) (zokL_st1 oL oS.h) oS.t S b1 b2 E
    rw [List.map_cons]
    rcases zcvR (B := B) (x := x) K.cvv with e2 | ⟨a, e2⟩
    · rw [e2] at k1 ⊢
      exact lv_astore_nN C.1 C.2.1 hd rfl L hk rfl k1
    · rw [e2] at k1 ⊢
      exact lv_astore_n C.1 C.2.1 hd rfl L hk rfl k1
  · exact q.elim
theorem zs_astore {k : Nat} (hd : decode (zb i) pc = .ok (.astore k, 2)) (q : zStR (zSnd D B cv cA X) i pc c sl ls st sh h Q 2 (k)) : zSnd D B cv cA X i pc c sl ls st sh h Q := by
  intro p l e R s m args below meth cd H locs cells slots lsc QQ C K Wd L ll oL oS S b1 b2 E
  unfold zStR at q
  split at q
  · rename_i x r
    obtain ⟨hk, q⟩ := q
    have k1 := fun ls' hl => q _ _ _ _ _ _ _ _ _ _ _ _ _ _ _ _ C K Wd (zLR.st1 (ls' := ls') (i := k) (v := .inr (.inr x)) K.cvv hl) (by rw [← ll]; unfold zst1; rw [List.length_set, zclr_len]) (zokL_st1 oL oS.h) oS.t S b1 b2 E
    rw [List.map_cons]
    rcases zcvR (B := B) (x := x) K.cvv with e2 | ⟨a, e2⟩
    · rw [e2] at k1 ⊢
      exact lv_astoreN C.1 C.2.1 hd L hk rfl k1
    · rw [e2] at k1 ⊢
      exact lv_astore C.1 C.2.1 hd L hk rfl k1
  · exact q.elim
theorem zs_iconst {k : Int} (h1 : -1 ≤ k) (h2 : k ≤ 5) (hd : decode (zb i) pc = .ok (.iconst k, 1)) (q : zPush (zSnd D B cv cA X) i pc c sl ls st sh h Q 1 (.inl k)) : zSnd D B cv cA X i pc c sl ls st sh h Q := by
  intro p l e R s m args below meth cd H locs cells slots lsc QQ C K Wd L ll oL oS S b1 b2 E
  refine lv_iconst C.1 C.2.1 hd rfl ?_
  exact q _ _ _ _ _ _ _ _ _ _ _ _ _ _ _ _ C K Wd L ll oL (zokS.c (v := .inl k) ⟨by omega, by omega⟩ oS) S b1 b2 E
theorem zs_bipush {k : Int} (h1 : -128 ≤ k) (h2 : k ≤ 127) (hd : decode (zb i) pc = .ok (.bipush k, 2)) (q : zPush (zSnd D B cv cA X) i pc c sl ls st sh h Q 2 (.inl k)) : zSnd D B cv cA X i pc c sl ls st sh h Q := by
  intro p l e R s m args below meth cd H locs cells slots lsc QQ C K Wd L ll oL oS S b1 b2 E
  refine lv_bipush C.1 C.2.1 hd (zi_b8 h1 h2) ?_
  exact q _ _ _ _ _ _ _ _ _ _ _ _ _ _ _ _ C K Wd L ll oL (zokS.c (v := .inl k) ⟨by omega, by omega⟩ oS) S b1 b2 E
theorem zs_sipush {k : Int} (h1 : -32768 ≤ k) (h2 : k ≤ 32767) (hd : decode (zb i) pc = .ok (.sipush k, 3)) (q : zPush (zSnd D B cv cA X) i pc c sl ls st sh h Q 3 (.inl k)) : zSnd D B cv cA X i pc c sl ls st sh h Q := by
  intro p l e R s m args below meth cd H locs cells slots lsc QQ C K Wd L ll oL oS S b1 b2 E
  refine lv_sipush C.1 C.2.1 hd (zi_b16 h1 h2) ?_
  exact q _ _ _ _ _ _ _ _ _ _ _ _ _ _ _ _ C K Wd L ll oL (zokS.c (v := .inl k) ⟨by omega, by omega⟩ oS) S b1 b2 E
theorem zs_lconst {k : Fin 2} (hd : decode (zb i) pc = .ok (.lconst k, 1)) (q : zPush (zSnd D B cv cA X) i pc c sl ls st sh h Q 1 (.inr (.inl (k.val : Int)))) : zSnd D B cv cA X i pc c sl ls st sh h Q := by
  intro p l e R s m args below meth cd H locs cells slots lsc QQ C K Wd L ll oL oS S b1 b2 E
  refine lv_lconst C.1 C.2.1 hd (v := Int64.ofInt (k.val : Int)) (by rcases k with ⟨_ | _ | k, hk⟩ <;> first | rfl | omega) ?_
  exact q _ _ _ _ _ _ _ _ _ _ _ _ _ _ _ _ C K Wd L ll oL (zokS.c (v := .inr (.inl (k.val : Int))) ⟨by have := k.isLt; omega, by have := k.isLt; omega⟩ oS) S b1 b2 E
theorem zs_null (hd : decode (zb i) pc = .ok (.aconst_null, 1)) (q : zPush (zSnd D B cv cA X) i pc c sl ls st sh h Q 1 (.inr (.inr none))) : zSnd D B cv cA X i pc c sl ls st sh h Q := by
  intro p l e R s m args below meth cd H locs cells slots lsc QQ C K Wd L ll oL oS S b1 b2 E
  refine lv_null C.1 C.2.1 hd ?_
  exact q _ _ _ _ _ _ _ _ _ _ _ _ _ _ _ _ C K Wd L ll oL (zokS.c (v := .inr (.inr none)) trivial oS) S b1 b2 E
theorem zs_iadd (hd : decode (zb i) pc = .ok (.iadd, 1)) (q : zBin (zSnd D B cv cA X) i pc c sl ls st sh h Q 1 (fun x y => zw (x + y))) : zSnd D B cv cA X i pc c sl ls st sh h Q := by
  intro p l e R s m args below meth cd H locs cells slots lsc QQ C K Wd L ll oL oS S b1 b2 E
  unfold zBin at q
  split at q
  · rename_i y x r
    refine lv_iadd C.1 C.2.1 (x := Int32.ofInt x) (y := Int32.ofInt y) hd ?_
    rw [zi_add]
    exact q _ _ _ _ _ _ _ _ _ _ _ _ _ _ _ _ C K Wd L ll oL (zokS.c (v := .inl _) (zw_r _) oS.t.t) S b1 b2 E
  · exact q.elim
theorem zs_isub (hd : decode (zb i) pc = .ok (.isub, 1)) (q : zBin (zSnd D B cv cA X) i pc c sl ls st sh h Q 1 (fun x y => zw (x - y))) : zSnd D B cv cA X i pc c sl ls st sh h Q := by
  intro p l e R s m args below meth cd H locs cells slots lsc QQ C K Wd L ll oL oS S b1 b2 E
  unfold zBin at q
  split at q
  · rename_i y x r
    refine lv_isub C.1 C.2.1 (x := Int32.ofInt x) (y := Int32.ofInt y) hd ?_
    rw [zi_sub]
    exact q _ _ _ _ _ _ _ _ _ _ _ _ _ _ _ _ C K Wd L ll oL (zokS.c (v := .inl _) (zw_r _) oS.t.t) S b1 b2 E
  · exact q.elim
theorem zs_imul (hd : decode (zb i) pc = .ok (.imul, 1)) (q : zBin (zSnd D B cv cA X) i pc c sl ls st sh h Q 1 (fun x y => zw (x * y))) : zSnd D B cv cA X i pc c sl ls st sh h Q := by
  intro p l e R s m args below meth cd H locs cells slots lsc QQ C K Wd L ll oL oS S b1 b2 E
  unfold zBin at q
  split at q
  · rename_i y x r
    refine lv_imul C.1 C.2.1 (x := Int32.ofInt x) (y := Int32.ofInt y) hd ?_
    rw [zi_mul]
    exact q _ _ _ _ _ _ _ _ _ _ _ _ _ _ _ _ C K Wd L ll oL (zokS.c (v := .inl _) (zw_r _) oS.t.t) S b1 b2 E
  · exact q.elim
theorem zs_iand (hd : decode (zb i) pc = .ok (.iand, 1)) (q : zBin (zSnd D B cv cA X) i pc c sl ls st sh h Q 1 (fun x y => (Int32.ofInt x &&& Int32.ofInt y).toInt)) : zSnd D B cv cA X i pc c sl ls st sh h Q := by
  intro p l e R s m args below meth cd H locs cells slots lsc QQ C K Wd L ll oL oS S b1 b2 E
  unfold zBin at q
  split at q
  · rename_i y x r
    refine lv_iand C.1 C.2.1 (x := Int32.ofInt x) (y := Int32.ofInt y) hd ?_
    rw [← zi_of (Int32.ofInt x &&& Int32.ofInt y)]
    exact q _ _ _ _ _ _ _ _ _ _ _ _ _ _ _ _ C K Wd L ll oL (zokS.c (v := .inl _) (z32_i _) oS.t.t) S b1 b2 E
  · exact q.elim
theorem zs_ior (hd : decode (zb i) pc = .ok (.ior, 1)) (q : zBin (zSnd D B cv cA X) i pc c sl ls st sh h Q 1 (fun x y => (Int32.ofInt x ||| Int32.ofInt y).toInt)) : zSnd D B cv cA X i pc c sl ls st sh h Q := by
  intro p l e R s m args below meth cd H locs cells slots lsc QQ C K Wd L ll oL oS S b1 b2 E
  unfold zBin at q
  split at q
  · rename_i y x r
    refine lv_ior C.1 C.2.1 (x := Int32.ofInt x) (y := Int32.ofInt y) hd ?_
    rw [← zi_of (Int32.ofInt x ||| Int32.ofInt y)]
    exact q _ _ _ _ _ _ _ _ _ _ _ _ _ _ _ _ C K Wd L ll oL (zokS.c (v := .inl _) (z32_i _) oS.t.t) S b1 b2 E
  · exact q.elim
theorem zs_ixor (hd : decode (zb i) pc = .ok (.ixor, 1)) (q : zBin (zSnd D B cv cA X) i pc c sl ls st sh h Q 1 (fun x y => (Int32.ofInt x ^^^ Int32.ofInt y).toInt)) : zSnd D B cv cA X i pc c sl ls st sh h Q := by
  intro p l e R s m args below meth cd H locs cells slots lsc QQ C K Wd L ll oL oS S b1 b2 E
  unfold zBin at q
  split at q
  · rename_i y x r
    refine lv_ixor C.1 C.2.1 (x := Int32.ofInt x) (y := Int32.ofInt y) hd ?_
    rw [← zi_of (Int32.ofInt x ^^^ Int32.ofInt y)]
    exact q _ _ _ _ _ _ _ _ _ _ _ _ _ _ _ _ C K Wd L ll oL (zokS.c (v := .inl _) (z32_i _) oS.t.t) S b1 b2 E
  · exact q.elim
theorem zs_ishl (hd : decode (zb i) pc = .ok (.ishl, 1)) (q : zBin (zSnd D B cv cA X) i pc c sl ls st sh h Q 1 (fun x y => (Int32.ofInt x <<< (Int32.ofInt y &&& 31)).toInt)) : zSnd D B cv cA X i pc c sl ls st sh h Q := by
  intro p l e R s m args below meth cd H locs cells slots lsc QQ C K Wd L ll oL oS S b1 b2 E
  unfold zBin at q
  split at q
  · rename_i y x r
    refine lv_ishl C.1 C.2.1 (x := Int32.ofInt x) (y := Int32.ofInt y) hd ?_
    rw [← zi_of (Int32.ofInt x <<< (Int32.ofInt y &&& 31))]
    exact q _ _ _ _ _ _ _ _ _ _ _ _ _ _ _ _ C K Wd L ll oL (zokS.c (v := .inl _) (z32_i _) oS.t.t) S b1 b2 E
  · exact q.elim
theorem zs_ishr (hd : decode (zb i) pc = .ok (.ishr, 1)) (q : zBin (zSnd D B cv cA X) i pc c sl ls st sh h Q 1 (fun x y => (Int32.ofInt x >>> (Int32.ofInt y &&& 31)).toInt)) : zSnd D B cv cA X i pc c sl ls st sh h Q := by
  intro p l e R s m args below meth cd H locs cells slots lsc QQ C K Wd L ll oL oS S b1 b2 E
  unfold zBin at q
  split at q
  · rename_i y x r
    refine lv_ishr C.1 C.2.1 (x := Int32.ofInt x) (y := Int32.ofInt y) hd ?_
    rw [← zi_of (Int32.ofInt x >>> (Int32.ofInt y &&& 31))]
    exact q _ _ _ _ _ _ _ _ _ _ _ _ _ _ _ _ C K Wd L ll oL (zokS.c (v := .inl _) (z32_i _) oS.t.t) S b1 b2 E
  · exact q.elim
theorem zs_iushr (hd : decode (zb i) pc = .ok (.iushr, 1)) (q : zBin (zSnd D B cv cA X) i pc c sl ls st sh h Q 1 (fun x y => ((Int32.ofInt x).toUInt32 >>> ((Int32.ofInt y).toUInt32 &&& Int32.toUInt32 31)).toInt32.toInt)) : zSnd D B cv cA X i pc c sl ls st sh h Q := by
  intro p l e R s m args below meth cd H locs cells slots lsc QQ C K Wd L ll oL oS S b1 b2 E
  unfold zBin at q
  split at q
  · rename_i y x r
    refine lv_iushr C.1 C.2.1 (x := Int32.ofInt x) (y := Int32.ofInt y) hd rfl ?_
    rw [← zi_of ((Int32.ofInt x).toUInt32 >>> ((Int32.ofInt y).toUInt32 &&& Int32.toUInt32 31)).toInt32]
    exact q _ _ _ _ _ _ _ _ _ _ _ _ _ _ _ _ C K Wd L ll oL (zokS.c (v := .inl _) (z32_i _) oS.t.t) S b1 b2 E
  · exact q.elim
theorem zs_idiv (hd : decode (zb i) pc = .ok (.idiv, 1)) (q : zDiv (zSnd D B cv cA X) i pc c sl ls st sh h Q 1 (fun x y => zw (Int.tdiv x y))) : zSnd D B cv cA X i pc c sl ls st sh h Q := by
  intro p l e R s m args below meth cd H locs cells slots lsc QQ C K Wd L ll oL oS S b1 b2 E
  unfold zDiv at q
  split at q
  · rename_i y x r
    obtain ⟨q0, q⟩ := q
    refine lv_idiv C.1 C.2.1 (x := Int32.ofInt x) (y := Int32.ofInt y) hd (fun z => q0 ((zi_e oS.h z32_0).mp z)) ?_
    rw [zi_div oS.t.h oS.h]
    exact q _ _ _ _ _ _ _ _ _ _ _ _ _ _ _ _ C K Wd L ll oL (zokS.c (v := .inl _) (zw_r _) oS.t.t) S b1 b2 E
  · exact q.elim
theorem zs_irem (hd : decode (zb i) pc = .ok (.irem, 1)) (q : zDiv (zSnd D B cv cA X) i pc c sl ls st sh h Q 1 (fun x y => Int.tmod x y)) : zSnd D B cv cA X i pc c sl ls st sh h Q := by
  intro p l e R s m args below meth cd H locs cells slots lsc QQ C K Wd L ll oL oS S b1 b2 E
  unfold zDiv at q
  split at q
  · rename_i y x r
    obtain ⟨q0, q⟩ := q
    refine lv_irem C.1 C.2.1 (x := Int32.ofInt x) (y := Int32.ofInt y) hd (fun z => q0 ((zi_e oS.h z32_0).mp z)) ?_
    rw [zi_rem oS.t.h oS.h]
    exact q _ _ _ _ _ _ _ _ _ _ _ _ _ _ _ _ C K Wd L ll oL (zokS.c (v := .inl _) (zi_rem_r oS.t.h oS.h) oS.t.t) S b1 b2 E
  · exact q.elim
theorem zs_ladd (hd : decode (zb i) pc = .ok (.ladd, 1)) (q : zBinL (zSnd D B cv cA X) i pc c sl ls st sh h Q 1 (fun x y => zwl (x + y))) : zSnd D B cv cA X i pc c sl ls st sh h Q := by
  intro p l e R s m args below meth cd H locs cells slots lsc QQ C K Wd L ll oL oS S b1 b2 E
  unfold zBinL at q
  split at q
  · rename_i y x r
    refine lv_ladd C.1 C.2.1 (x := Int64.ofInt x) (y := Int64.ofInt y) hd ?_
    rw [zl_add]
    exact q _ _ _ _ _ _ _ _ _ _ _ _ _ _ _ _ C K Wd L ll oL (zokS.c (v := .inr (.inl _)) (zwl_r _) oS.t.t) S b1 b2 E
  · exact q.elim
theorem zs_lsub (hd : decode (zb i) pc = .ok (.lsub, 1)) (q : zBinL (zSnd D B cv cA X) i pc c sl ls st sh h Q 1 (fun x y => zwl (x - y))) : zSnd D B cv cA X i pc c sl ls st sh h Q := by
  intro p l e R s m args below meth cd H locs cells slots lsc QQ C K Wd L ll oL oS S b1 b2 E
  unfold zBinL at q
  split at q
  · rename_i y x r
    refine lv_lsub C.1 C.2.1 (x := Int64.ofInt x) (y := Int64.ofInt y) hd ?_
    rw [zl_sub]
    exact q _ _ _ _ _ _ _ _ _ _ _ _ _ _ _ _ C K Wd L ll oL (zokS.c (v := .inr (.inl _)) (zwl_r _) oS.t.t) S b1 b2 E
  · exact q.elim
theorem zs_lmul (hd : decode (zb i) pc = .ok (.lmul, 1)) (q : zBinL (zSnd D B cv cA X) i pc c sl ls st sh h Q 1 (fun x y => zwl (x * y))) : zSnd D B cv cA X i pc c sl ls st sh h Q := by
  intro p l e R s m args below meth cd H locs cells slots lsc QQ C K Wd L ll oL oS S b1 b2 E
  unfold zBinL at q
  split at q
  · rename_i y x r
    refine lv_lmul C.1 C.2.1 (x := Int64.ofInt x) (y := Int64.ofInt y) hd ?_
    rw [zl_mul]
    exact q _ _ _ _ _ _ _ _ _ _ _ _ _ _ _ _ C K Wd L ll oL (zokS.c (v := .inr (.inl _)) (zwl_r _) oS.t.t) S b1 b2 E
  · exact q.elim
theorem zs_land (hd : decode (zb i) pc = .ok (.land, 1)) (q : zBinL (zSnd D B cv cA X) i pc c sl ls st sh h Q 1 (fun x y => (Int64.ofInt x &&& Int64.ofInt y).toInt)) : zSnd D B cv cA X i pc c sl ls st sh h Q := by
  intro p l e R s m args below meth cd H locs cells slots lsc QQ C K Wd L ll oL oS S b1 b2 E
  unfold zBinL at q
  split at q
  · rename_i y x r
    refine lv_land C.1 C.2.1 (x := Int64.ofInt x) (y := Int64.ofInt y) hd ?_
    rw [← zl_of (Int64.ofInt x &&& Int64.ofInt y)]
    exact q _ _ _ _ _ _ _ _ _ _ _ _ _ _ _ _ C K Wd L ll oL (zokS.c (v := .inr (.inl _)) (z64_l _) oS.t.t) S b1 b2 E
  · exact q.elim
theorem zs_lor (hd : decode (zb i) pc = .ok (.lor, 1)) (q : zBinL (zSnd D B cv cA X) i pc c sl ls st sh h Q 1 (fun x y => (Int64.ofInt x ||| Int64.ofInt y).toInt)) : zSnd D B cv cA X i pc c sl ls st sh h Q := by
  intro p l e R s m args below meth cd H locs cells slots lsc QQ C K Wd L ll oL oS S b1 b2 E
  unfold zBinL at q
  split at q
  · rename_i y x r
    refine lv_lor C.1 C.2.1 (x := Int64.ofInt x) (y := Int64.ofInt y) hd ?_
    rw [← zl_of (Int64.ofInt x ||| Int64.ofInt y)]
    exact q _ _ _ _ _ _ _ _ _ _ _ _ _ _ _ _ C K Wd L ll oL (zokS.c (v := .inr (.inl _)) (z64_l _) oS.t.t) S b1 b2 E
  · exact q.elim
theorem zs_lxor (hd : decode (zb i) pc = .ok (.lxor, 1)) (q : zBinL (zSnd D B cv cA X) i pc c sl ls st sh h Q 1 (fun x y => (Int64.ofInt x ^^^ Int64.ofInt y).toInt)) : zSnd D B cv cA X i pc c sl ls st sh h Q := by
  intro p l e R s m args below meth cd H locs cells slots lsc QQ C K Wd L ll oL oS S b1 b2 E
  unfold zBinL at q
  split at q
  · rename_i y x r
    refine lv_lxor C.1 C.2.1 (x := Int64.ofInt x) (y := Int64.ofInt y) hd ?_
    rw [← zl_of (Int64.ofInt x ^^^ Int64.ofInt y)]
    exact q _ _ _ _ _ _ _ _ _ _ _ _ _ _ _ _ C K Wd L ll oL (zokS.c (v := .inr (.inl _)) (z64_l _) oS.t.t) S b1 b2 E
  · exact q.elim
theorem zs_lshl (hd : decode (zb i) pc = .ok (.lshl, 1)) (q : zShL (zSnd D B cv cA X) i pc c sl ls st sh h Q 1 (fun x y => (Int64.ofInt x <<< ((Int32.ofInt y).toInt64 &&& 63)).toInt)) : zSnd D B cv cA X i pc c sl ls st sh h Q := by
  intro p l e R s m args below meth cd H locs cells slots lsc QQ C K Wd L ll oL oS S b1 b2 E
  unfold zShL at q
  split at q
  · rename_i y x r
    refine lv_lshl C.1 C.2.1 (x := Int64.ofInt x) (y := Int32.ofInt y) hd (zl_of (Int64.ofInt x <<< ((Int32.ofInt y).toInt64 &&& 63))).symm ?_
    exact q _ _ _ _ _ _ _ _ _ _ _ _ _ _ _ _ C K Wd L ll oL (zokS.c (v := .inr (.inl _)) (z64_l _) oS.t.t) S b1 b2 E
  · exact q.elim
theorem zs_lushr (hd : decode (zb i) pc = .ok (.lushr, 1)) (q : zShL (zSnd D B cv cA X) i pc c sl ls st sh h Q 1 (fun x y => (((Int64.ofInt x).toUInt64 >>> ((Int32.ofInt y).toInt64.toUInt64 &&& Int64.toUInt64 63)).toInt64).toInt)) : zSnd D B cv cA X i pc c sl ls st sh h Q := by
  intro p l e R s m args below meth cd H locs cells slots lsc QQ C K Wd L ll oL oS S b1 b2 E
  unfold zShL at q
  split at q
  · rename_i y x r
    refine lv_lushr C.1 C.2.1 (x := Int64.ofInt x) (y := Int32.ofInt y) hd (zl_of (((Int64.ofInt x).toUInt64 >>> ((Int32.ofInt y).toInt64.toUInt64 &&& Int64.toUInt64 63)).toInt64)).symm ?_
    exact q _ _ _ _ _ _ _ _ _ _ _ _ _ _ _ _ C K Wd L ll oL (zokS.c (v := .inr (.inl _)) (z64_l _) oS.t.t) S b1 b2 E
  · exact q.elim
theorem zs_lcmp (hd : decode (zb i) pc = .ok (.lcmp, 1)) (q : zCmpL (zSnd D B cv cA X) i pc c sl ls st sh h Q 1) : zSnd D B cv cA X i pc c sl ls st sh h Q := by
  intro p l e R s m args below meth cd H locs cells slots lsc QQ C K Wd L ll oL oS S b1 b2 E
  unfold zCmpL at q
  split at q
  · rename_i y x r
    refine W.lcmp C.1 C.2.1 (x := Int64.ofInt x) (y := Int64.ofInt y) hd ?_
    rw [zi_cmp oS.t.h oS.h]
    exact q _ _ _ _ _ _ _ _ _ _ _ _ _ _ _ _ C K Wd L ll oL (zokS.c (v := .inl _) (by show z32 (if y < x then 1 else if x = y then 0 else -1); split; exact ⟨by decide, by decide⟩; split; exact ⟨by decide, by decide⟩; exact ⟨by decide, by decide⟩) oS.t.t) S b1 b2 E
  · exact q.elim
theorem zs_ineg (hd : decode (zb i) pc = .ok (.ineg, 1)) (q : zUn (zSnd D B cv cA X) i pc c sl ls st sh h Q 1 (fun x => zw (-x))) : zSnd D B cv cA X i pc c sl ls st sh h Q := by
  intro p l e R s m args below meth cd H locs cells slots lsc QQ C K Wd L ll oL oS S b1 b2 E
  unfold zUn at q
  split at q
  · rename_i x r
    refine lv_ineg C.1 C.2.1 (x := Int32.ofInt x) hd ?_
    rw [zi_neg]
    exact q _ _ _ _ _ _ _ _ _ _ _ _ _ _ _ _ C K Wd L ll oL (zokS.c (v := .inl _) (zw_r _) oS.t) S b1 b2 E
  · exact q.elim
theorem zs_i2b (hd : decode (zb i) pc = .ok (.i2b, 1)) (q : zUn (zSnd D B cv cA X) i pc c sl ls st sh h Q 1 (fun x => Int.bmod x 256)) : zSnd D B cv cA X i pc c sl ls st sh h Q := by
  intro p l e R s m args below meth cd H locs cells slots lsc QQ C K Wd L ll oL oS S b1 b2 E
  unfold zUn at q
  split at q
  · rename_i x r
    refine lv_i2b C.1 C.2.1 (x := Int32.ofInt x) hd (zi_i2b oS.h) ?_
    exact q _ _ _ _ _ _ _ _ _ _ _ _ _ _ _ _ C K Wd L ll oL (zokS.c (v := .inl _) (zb8_r _) oS.t) S b1 b2 E
  · exact q.elim
theorem zs_i2s (hd : decode (zb i) pc = .ok (.i2s, 1)) (q : zUn (zSnd D B cv cA X) i pc c sl ls st sh h Q 1 (fun x => Int.bmod x 65536)) : zSnd D B cv cA X i pc c sl ls st sh h Q := by
  intro p l e R s m args below meth cd H locs cells slots lsc QQ C K Wd L ll oL oS S b1 b2 E
  unfold zUn at q
  split at q
  · rename_i x r
    refine lv_i2s C.1 C.2.1 (x := Int32.ofInt x) hd (zi_i2s oS.h) ?_
    exact q _ _ _ _ _ _ _ _ _ _ _ _ _ _ _ _ C K Wd L ll oL (zokS.c (v := .inl _) (zb16_r _) oS.t) S b1 b2 E
  · exact q.elim
theorem zs_i2c (hd : decode (zb i) pc = .ok (.i2c, 1)) (q : zUn (zSnd D B cv cA X) i pc c sl ls st sh h Q 1 (fun x => x % 65536)) : zSnd D B cv cA X i pc c sl ls st sh h Q := by
  intro p l e R s m args below meth cd H locs cells slots lsc QQ C K Wd L ll oL oS S b1 b2 E
  unfold zUn at q
  split at q
  · rename_i x r
    refine lv_i2c C.1 C.2.1 (x := Int32.ofInt x) hd (zi_i2c oS.h) ?_
    exact q _ _ _ _ _ _ _ _ _ _ _ _ _ _ _ _ C K Wd L ll oL (zokS.c (v := .inl _) (zc16_r _) oS.t) S b1 b2 E
  · exact q.elim
theorem zs_i2l (hd : decode (zb i) pc = .ok (.i2l, 1)) (q : zIL (zSnd D B cv cA X) i pc c sl ls st sh h Q 1) : zSnd D B cv cA X i pc c sl ls st sh h Q := by
  intro p l e R s m args below meth cd H locs cells slots lsc QQ C K Wd L ll oL oS S b1 b2 E
  unfold zIL at q
  split at q
  · rename_i x r
    refine lv_i2l C.1 C.2.1 (x := Int32.ofInt x) hd (zi_i2l oS.h) ?_
    exact q _ _ _ _ _ _ _ _ _ _ _ _ _ _ _ _ C K Wd L ll oL (zokS.c (v := .inr (.inl _)) ⟨by have := (oS.h : z32 x).1; omega, by have := (oS.h : z32 x).2; omega⟩ oS.t) S b1 b2 E
  · exact q.elim
theorem zs_l2i (hd : decode (zb i) pc = .ok (.l2i, 1)) (q : zLI (zSnd D B cv cA X) i pc c sl ls st sh h Q 1) : zSnd D B cv cA X i pc c sl ls st sh h Q := by
  intro p l e R s m args below meth cd H locs cells slots lsc QQ C K Wd L ll oL oS S b1 b2 E
  unfold zLI at q
  split at q
  · rename_i x r
    refine lv_l2i C.1 C.2.1 (x := Int64.ofInt x) hd (zi_l2i oS.h) ?_
    exact q _ _ _ _ _ _ _ _ _ _ _ _ _ _ _ _ C K Wd L ll oL (zokS.c (v := .inl _) (zw_r _) oS.t) S b1 b2 E
  · exact q.elim
theorem zs_iinc {k : Nat} {d : Int} (hd : decode (zb i) pc = .ok (.iinc k d, 3)) (q : zInc (zSnd D B cv cA X) i pc c sl ls st sh h Q 3 k d) : zSnd D B cv cA X i pc c sl ls st sh h Q := by
  intro p l e R s m args below meth cd H locs cells slots lsc QQ C K Wd L ll oL oS S b1 b2 E
  unfold zInc at q
  split at q
  · rename_i x ex
    obtain ⟨hk, q⟩ := q
    obtain ⟨j, hj⟩ := List.getElem?_of_mem (zll_mem (B := B) (cv := cv) (q := (k, .int (Int32.ofInt x))).mpr ⟨_, ex, rfl⟩)
    refine lv_iinc C.1 C.2.1 hd L hj (zi_add x d) hk rfl (fun ls' hl => ?_)
    exact q _ _ _ _ _ _ _ _ _ _ _ _ _ _ _ _ C K Wd (zLR.st1 (v := .inl (zw (x + d))) K.cvv hl) (by rw [← ll]; unfold zst1; rw [List.length_set, zclr_len]) (zokL_st1 oL (zw_r _)) oS S b1 b2 E
  · exact q.elim
def zcc (q : Jvm.ClassFile.Cond) (x y : Int32) : Prop := match q with
  | .eq => x = y
  | .ne => ¬ x = y
  | .lt => x < y
  | .ge => y ≤ x
  | .gt => y < x
  | .le => x ≤ y
theorem zccd {q : Jvm.ClassFile.Cond} {x y : Int} (hx : z32 x) (hy : z32 y) : zcc q (Int32.ofInt x) (Int32.ofInt y) ↔ zicmp q x y := by
  cases q <;> simp only [zcc, zicmp, zi_e hx hy, zi_lt hx hy, zi_lt hy hx, zi_le hx hy, zi_le hy hx]
theorem zbr {x y : Int} (q : Jvm.ClassFile.Cond) (hx : z32 x) (hy : z32 y) : (zcc q (Int32.ofInt x) (Int32.ofInt y) → zicmp q x y) ∧ (¬ zcc q (Int32.ofInt x) (Int32.ofInt y) → ¬ zicmp q x y) := ⟨(zccd hx hy).mp, fun a b => a ((zccd hx hy).mpr b)⟩
theorem zs_if_eq {o : Int} (ht : (pc : Int) + o = (r1 : Int)) (hd : decode (zb i) pc = .ok (.ifCond .eq o, 3)) (q : zIf (zSnd D B cv cA X) i pc c sl ls st sh h Q 3 r1 .eq) : zSnd D B cv cA X i pc c sl ls st sh h Q := by
  intro p l e R s m args below meth cd H locs cells slots lsc QQ C K Wd L ll oL oS S b1 b2 E
  unfold zIf at q
  split at q
  · rename_i x r
    have z := zbr (x := x) (y := 0) .eq oS.h z32_0
    refine lv_if_eq C.1 C.2.1 (x := Int32.ofInt x) hd ht (fun g => ?_) (fun g => ?_)
    · exact q.1 (z.1 g) _ _ _ _ _ _ _ _ _ _ _ _ _ _ _ _ C K Wd L ll oL oS.t S b1 b2 E
    · exact q.2 (z.2 g) _ _ _ _ _ _ _ _ _ _ _ _ _ _ _ _ C K Wd L ll oL oS.t S b1 b2 E
  · exact q.elim
theorem zs_icmp_eq {o : Int} (ht : (pc : Int) + o = (r1 : Int)) (hd : decode (zb i) pc = .ok (.if_icmp .eq o, 3)) (q : zIf2 (zSnd D B cv cA X) i pc c sl ls st sh h Q 3 r1 .eq) : zSnd D B cv cA X i pc c sl ls st sh h Q := by
  intro p l e R s m args below meth cd H locs cells slots lsc QQ C K Wd L ll oL oS S b1 b2 E
  unfold zIf2 at q
  split at q
  · rename_i y x r
    have z := zbr (x := x) (y := y) .eq oS.t.h oS.h
    refine lv_icmp_eq C.1 C.2.1 (x := Int32.ofInt x) (y := Int32.ofInt y) hd ht (fun g => ?_) (fun g => ?_)
    · exact q.1 (z.1 g) _ _ _ _ _ _ _ _ _ _ _ _ _ _ _ _ C K Wd L ll oL oS.t.t S b1 b2 E
    · exact q.2 (z.2 g) _ _ _ _ _ _ _ _ _ _ _ _ _ _ _ _ C K Wd L ll oL oS.t.t S b1 b2 E
  · exact q.elim
theorem zs_if_ne {o : Int} (ht : (pc : Int) + o = (r1 : Int)) (hd : decode (zb i) pc = .ok (.ifCond .ne o, 3)) (q : zIf (zSnd D B cv cA X) i pc c sl ls st sh h Q 3 r1 .ne) : zSnd D B cv cA X i pc c sl ls st sh h Q := by
  intro p l e R s m args below meth cd H locs cells slots lsc QQ C K Wd L ll oL oS S b1 b2 E
  unfold zIf at q
  split at q
  · rename_i x r
    have z := zbr (x := x) (y := 0) .ne oS.h z32_0
    refine lv_if_ne C.1 C.2.1 (x := Int32.ofInt x) hd ht (fun g => ?_) (fun g => ?_)
    · exact q.1 (z.1 g) _ _ _ _ _ _ _ _ _ _ _ _ _ _ _ _ C K Wd L ll oL oS.t S b1 b2 E
    · exact q.2 (z.2 (fun w => w g)) _ _ _ _ _ _ _ _ _ _ _ _ _ _ _ _ C K Wd L ll oL oS.t S b1 b2 E
  · exact q.elim
theorem zs_icmp_ne {o : Int} (ht : (pc : Int) + o = (r1 : Int)) (hd : decode (zb i) pc = .ok (.if_icmp .ne o, 3)) (q : zIf2 (zSnd D B cv cA X) i pc c sl ls st sh h Q 3 r1 .ne) : zSnd D B cv cA X i pc c sl ls st sh h Q := by
  intro p l e R s m args below meth cd H locs cells slots lsc QQ C K Wd L ll oL oS S b1 b2 E
  unfold zIf2 at q
  split at q
  · rename_i y x r
    have z := zbr (x := x) (y := y) .ne oS.t.h oS.h
    refine lv_icmp_ne C.1 C.2.1 (x := Int32.ofInt x) (y := Int32.ofInt y) hd ht (fun g => ?_) (fun g => ?_)
    · exact q.1 (z.1 g) _ _ _ _ _ _ _ _ _ _ _ _ _ _ _ _ C K Wd L ll oL oS.t.t S b1 b2 E
    · exact q.2 (z.2 (fun w => w g)) _ _ _ _ _ _ _ _ _ _ _ _ _ _ _ _ C K Wd L ll oL oS.t.t S b1 b2 E
  · exact q.elim
theorem zs_if_lt {o : Int} (ht : (pc : Int) + o = (r1 : Int)) (hd : decode (zb i) pc = .ok (.ifCond .lt o, 3)) (q : zIf (zSnd D B cv cA X) i pc c sl ls st sh h Q 3 r1 .lt) : zSnd D B cv cA X i pc c sl ls st sh h Q := by
  intro p l e R s m args below meth cd H locs cells slots lsc QQ C K Wd L ll oL oS S b1 b2 E
  unfold zIf at q
  split at q
  · rename_i x r
    have z := zbr (x := x) (y := 0) .lt oS.h z32_0
    refine lv_if_lt C.1 C.2.1 (x := Int32.ofInt x) hd ht (fun g => ?_) (fun g => ?_)
    · exact q.1 (z.1 g) _ _ _ _ _ _ _ _ _ _ _ _ _ _ _ _ C K Wd L ll oL oS.t S b1 b2 E
    · exact q.2 (z.2 g) _ _ _ _ _ _ _ _ _ _ _ _ _ _ _ _ C K Wd L ll oL oS.t S b1 b2 E
  · exact q.elim
theorem zs_icmp_lt {o : Int} (ht : (pc : Int) + o = (r1 : Int)) (hd : decode (zb i) pc = .ok (.if_icmp .lt o, 3)) (q : zIf2 (zSnd D B cv cA X) i pc c sl ls st sh h Q 3 r1 .lt) : zSnd D B cv cA X i pc c sl ls st sh h Q := by
  intro p l e R s m args below meth cd H locs cells slots lsc QQ C K Wd L ll oL oS S b1 b2 E
  unfold zIf2 at q
  split at q
  · rename_i y x r
    have z := zbr (x := x) (y := y) .lt oS.t.h oS.h
    refine lv_icmp_lt C.1 C.2.1 (x := Int32.ofInt x) (y := Int32.ofInt y) hd ht (fun g => ?_) (fun g => ?_)
    · exact q.1 (z.1 g) _ _ _ _ _ _ _ _ _ _ _ _ _ _ _ _ C K Wd L ll oL oS.t.t S b1 b2 E
    · exact q.2 (z.2 g) _ _ _ _ _ _ _ _ _ _ _ _ _ _ _ _ C K Wd L ll oL oS.t.t S b1 b2 E
  · exact q.elim
theorem zs_if_ge {o : Int} (ht : (pc : Int) + o = (r1 : Int)) (hd : decode (zb i) pc = .ok (.ifCond .ge o, 3)) (q : zIf (zSnd D B cv cA X) i pc c sl ls st sh h Q 3 r1 .ge) : zSnd D B cv cA X i pc c sl ls st sh h Q := by
  intro p l e R s m args below meth cd H locs cells slots lsc QQ C K Wd L ll oL oS S b1 b2 E
  unfold zIf at q
  split at q
  · rename_i x r
    have z := zbr (x := x) (y := 0) .ge oS.h z32_0
    refine lv_if_ge C.1 C.2.1 (x := Int32.ofInt x) hd ht (fun g => ?_) (fun g => ?_)
    · exact q.1 (z.1 g) _ _ _ _ _ _ _ _ _ _ _ _ _ _ _ _ C K Wd L ll oL oS.t S b1 b2 E
    · exact q.2 (z.2 g) _ _ _ _ _ _ _ _ _ _ _ _ _ _ _ _ C K Wd L ll oL oS.t S b1 b2 E
  · exact q.elim
theorem zs_icmp_ge {o : Int} (ht : (pc : Int) + o = (r1 : Int)) (hd : decode (zb i) pc = .ok (.if_icmp .ge o, 3)) (q : zIf2 (zSnd D B cv cA X) i pc c sl ls st sh h Q 3 r1 .ge) : zSnd D B cv cA X i pc c sl ls st sh h Q := by
  intro p l e R s m args below meth cd H locs cells slots lsc QQ C K Wd L ll oL oS S b1 b2 E
  unfold zIf2 at q
  split at q
  · rename_i y x r
    have z := zbr (x := x) (y := y) .ge oS.t.h oS.h
    refine lv_icmp_ge C.1 C.2.1 (x := Int32.ofInt x) (y := Int32.ofInt y) hd ht (fun g => ?_) (fun g => ?_)
    · exact q.1 (z.1 g) _ _ _ _ _ _ _ _ _ _ _ _ _ _ _ _ C K Wd L ll oL oS.t.t S b1 b2 E
    · exact q.2 (z.2 g) _ _ _ _ _ _ _ _ _ _ _ _ _ _ _ _ C K Wd L ll oL oS.t.t S b1 b2 E
  · exact q.elim
theorem zs_if_gt {o : Int} (ht : (pc : Int) + o = (r1 : Int)) (hd : decode (zb i) pc = .ok (.ifCond .gt o, 3)) (q : zIf (zSnd D B cv cA X) i pc c sl ls st sh h Q 3 r1 .gt) : zSnd D B cv cA X i pc c sl ls st sh h Q := by
  intro p l e R s m args below meth cd H locs cells slots lsc QQ C K Wd L ll oL oS S b1 b2 E
  unfold zIf at q
  split at q
  · rename_i x r
    have z := zbr (x := x) (y := 0) .gt oS.h z32_0
    refine lv_if_gt C.1 C.2.1 (x := Int32.ofInt x) hd ht (fun g => ?_) (fun g => ?_)
    · exact q.1 (z.1 g) _ _ _ _ _ _ _ _ _ _ _ _ _ _ _ _ C K Wd L ll oL oS.t S b1 b2 E
    · exact q.2 (z.2 g) _ _ _ _ _ _ _ _ _ _ _ _ _ _ _ _ C K Wd L ll oL oS.t S b1 b2 E
  · exact q.elim
theorem zs_icmp_gt {o : Int} (ht : (pc : Int) + o = (r1 : Int)) (hd : decode (zb i) pc = .ok (.if_icmp .gt o, 3)) (q : zIf2 (zSnd D B cv cA X) i pc c sl ls st sh h Q 3 r1 .gt) : zSnd D B cv cA X i pc c sl ls st sh h Q := by
  intro p l e R s m args below meth cd H locs cells slots lsc QQ C K Wd L ll oL oS S b1 b2 E
  unfold zIf2 at q
  split at q
  · rename_i y x r
    have z := zbr (x := x) (y := y) .gt oS.t.h oS.h
    refine lv_icmp_gt C.1 C.2.1 (x := Int32.ofInt x) (y := Int32.ofInt y) hd ht (fun g => ?_) (fun g => ?_)
    · exact q.1 (z.1 g) _ _ _ _ _ _ _ _ _ _ _ _ _ _ _ _ C K Wd L ll oL oS.t.t S b1 b2 E
    · exact q.2 (z.2 g) _ _ _ _ _ _ _ _ _ _ _ _ _ _ _ _ C K Wd L ll oL oS.t.t S b1 b2 E
  · exact q.elim
theorem zs_if_le {o : Int} (ht : (pc : Int) + o = (r1 : Int)) (hd : decode (zb i) pc = .ok (.ifCond .le o, 3)) (q : zIf (zSnd D B cv cA X) i pc c sl ls st sh h Q 3 r1 .le) : zSnd D B cv cA X i pc c sl ls st sh h Q := by
  intro p l e R s m args below meth cd H locs cells slots lsc QQ C K Wd L ll oL oS S b1 b2 E
  unfold zIf at q
  split at q
  · rename_i x r
    have z := zbr (x := x) (y := 0) .le oS.h z32_0
    refine lv_if_le C.1 C.2.1 (x := Int32.ofInt x) hd ht (fun g => ?_) (fun g => ?_)
    · exact q.1 (z.1 g) _ _ _ _ _ _ _ _ _ _ _ _ _ _ _ _ C K Wd L ll oL oS.t S b1 b2 E
    · exact q.2 (z.2 g) _ _ _ _ _ _ _ _ _ _ _ _ _ _ _ _ C K Wd L ll oL oS.t S b1 b2 E
  · exact q.elim
theorem zs_icmp_le {o : Int} (ht : (pc : Int) + o = (r1 : Int)) (hd : decode (zb i) pc = .ok (.if_icmp .le o, 3)) (q : zIf2 (zSnd D B cv cA X) i pc c sl ls st sh h Q 3 r1 .le) : zSnd D B cv cA X i pc c sl ls st sh h Q := by
  intro p l e R s m args below meth cd H locs cells slots lsc QQ C K Wd L ll oL oS S b1 b2 E
  unfold zIf2 at q
  split at q
  · rename_i y x r
    have z := zbr (x := x) (y := y) .le oS.t.h oS.h
    refine lv_icmp_le C.1 C.2.1 (x := Int32.ofInt x) (y := Int32.ofInt y) hd ht (fun g => ?_) (fun g => ?_)
    · exact q.1 (z.1 g) _ _ _ _ _ _ _ _ _ _ _ _ _ _ _ _ C K Wd L ll oL oS.t.t S b1 b2 E
    · exact q.2 (z.2 g) _ _ _ _ _ _ _ _ _ _ _ _ _ _ _ _ C K Wd L ll oL oS.t.t S b1 b2 E
  · exact q.elim
theorem zs_goto {o : Int} (ht : (pc : Int) + o = (r1 : Int)) (hd : decode (zb i) pc = .ok (.goto o, 3)) (q : zSnd D B cv cA X i r1 c sl ls st sh h Q) : zSnd D B cv cA X i pc c sl ls st sh h Q := by
  intro p l e R s m args below meth cd H locs cells slots lsc QQ C K Wd L ll oL oS S b1 b2 E
  refine lv_goto C.1 C.2.1 hd ht ?_
  exact q _ _ _ _ _ _ _ _ _ _ _ _ _ _ _ _ C K Wd L ll oL oS S b1 b2 E
end zSd
