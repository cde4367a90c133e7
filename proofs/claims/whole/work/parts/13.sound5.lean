/-! THE RULES HOLD OF THE MACHINE: ends and calls -/
section zSh
variable {D : va_G} {B : Nat} {cv : Nat → Value} {cA : Nat → ClassId} {X : List Int}
variable {i j pc c sl n r1 r2 : Nat} {r3 : Int} {ls : zLL} {st : List zAV} {sh : zSH} {h : zHP} {Q : zPO}
theorem zcat_s (cvv : ∀ k, cv k = .null ∨ ∃ a, cv k = .ref a) : ∀ st : List zAV, ((st.map (zcv B cv)).map fun v => v.category).sum = zcat st
  | [] => rfl
  | v :: r => by
    rw [List.map_cons, List.map_cons, List.sum_cons, zcat_s cvv r]
    show _ = (match v with | .inr (.inl _) => 2 | _ => 1) + zcat r
    rcases v with x | x | x
    · rfl
    · rfl
    · rw [zcat_r cvv]
theorem zs_objinit {k : Nat} (hw : Cond.methodLink (zy i).cls k Lib.objectInit ∈ zT) (hw2 : Cond.instanceMethod Lib.objectInit ∈ zT) (hw3 : Cond.code Lib.objectInit ⟨#[0xb1]⟩ 1 none ∈ zT) (hr : 1 ≤ (zrm i).1) (hr2 : 20 ≤ (zrm i).2) (hd : decode (zb i) pc = .ok (.invokespecial k, 3)) (q : zObj (zSnd D B cv cA X) i pc c sl ls st sh h Q 3) : zSnd D B cv cA X i pc c sl ls st sh h Q := by
  intro p l ev R s m args below meth cd H locs cells slots lsc QQ C K Wd L ll oL oS S b1 b2 E
  unfold zObj at q
  split at q
  · rename_i a r
    obtain ⟨ha, h8, q⟩ := q
    rw [List.map_cons, show zcv B cv (.inr (.inr (some a))) = .ref (B + a) from zcr_lo ha]
    have hts := C.2.2.2.2.1
    refine W.objInit C.1 C.2.1 C.2.2.2.1 (hts _ hw) (hts _ hw2) (hts _ hw3) rfl (L.1.trans (ll.trans C.2.2.1.symm)) rfl hd (Nat.le_trans hr C.2.2.2.2.2.2.1.1) ?_ ?_
    · have z := zcat_s (B := B) K.cvv r
      have g := C.2.2.2.2.2.2.1.2
      show 2 * 0 + _ + 12 ≤ R.locals
      rw [z]
      omega
    · exact q _ _ _ _ _ _ _ _ _ _ _ _ _ _ _ _ C K Wd L ll oL oS.t S b1 b2 E
  · exact q.elim
theorem zs_ireturn (hd : decode (zb i) pc = .ok (.ireturn, 1)) (q : zRetI i st sh h Q) : zSnd D B cv cA X i pc c sl ls st sh h Q := by
  intro p l ev R s m args below meth cd H locs cells slots lsc QQ C K Wd L ll oL oS S b1 b2 E
  unfold zRetI at q
  split at q
  · rename_i x
    exact E pc .ireturn (some (.inl x)) sh h H locs cells slots lsc hd q.1 oS.h q.2 Wd S (by omega) (by omega)
  · exact q.elim
theorem zs_lreturn (ht : (zinfo i).2.1 = 2) (hd : decode (zb i) pc = .ok (.lreturn, 1)) (q : zRetL st sh h Q) : zSnd D B cv cA X i pc c sl ls st sh h Q := by
  intro p l ev R s m args below meth cd H locs cells slots lsc QQ C K Wd L ll oL oS S b1 b2 E
  unfold zRetL at q
  split at q
  · rename_i x
    exact E pc .lreturn (some (.inr (.inl x))) sh h H locs cells slots lsc hd ht oS.h q Wd S (by omega) (by omega)
  · exact q.elim
theorem zs_areturn (ht : (zinfo i).2.1 = 7) (hd : decode (zb i) pc = .ok (.areturn, 1)) (q : zRetR st sh h Q) : zSnd D B cv cA X i pc c sl ls st sh h Q := by
  intro p l ev R s m args below meth cd H locs cells slots lsc QQ C K Wd L ll oL oS S b1 b2 E
  unfold zRetR at q
  split at q
  · rename_i x
    exact E pc .areturn (some (.inr (.inr x))) sh h H locs cells slots lsc hd ht trivial q Wd S (by omega) (by omega)
  · exact q.elim
theorem zs_vreturn (ht : (zinfo i).2.1 = 0) (hd : decode (zb i) pc = .ok (.return_, 1)) (q : zRetV st sh h Q) : zSnd D B cv cA X i pc c sl ls st sh h Q := by
  intro p l ev R s m args below meth cd H locs cells slots lsc QQ C K Wd L ll oL oS S b1 b2 E
  unfold zRetV at q
  split at q
  · exact E pc .return_ none sh h H locs cells slots lsc hd ht trivial q Wd S (by omega) (by omega)
  · exact q.elim
/-! a method that is called -/
theorem zentl_in : ∀ (a : List zAV) (o k : Nat) (v : zAV), (zentl a).getD k none = some v → (∀ k, cv k = .null ∨ ∃ a, cv k = .ref a) → (o + k, zcv B cv v) ∈ lv_args o (a.map (zcv B cv))
  | [], o, k, v, hk, _ => by simp [zentl] at hk
  | w :: r, o, k, v, hk, cvv => by
    rw [List.map_cons]
    show _ ∈ (o, zcv B cv w) :: lv_args (if (zcv B cv w).category = 2 then o + 2 else o + 1) (r.map (zcv B cv))
    rcases w with x | x | x
    · cases k with
      | zero => cases hk; exact List.mem_cons_self
      | succ k =>
        have g := zentl_in r (o + 1) k v hk cvv
        rw [show o + 1 + k = o + (k + 1) by omega] at g
        exact List.mem_cons_of_mem _ g
    · cases k with
      | zero => cases hk; exact List.mem_cons_self
      | succ k =>
        cases k with
        | zero => cases hk
        | succ k =>
          have g := zentl_in r (o + 2) k v hk cvv
          rw [show o + 2 + k = o + (k + 1 + 1) by omega] at g
          exact List.mem_cons_of_mem _ g
    · cases k with
      | zero => cases hk; exact List.mem_cons_self
      | succ k =>
        have g := zentl_in r (o + 1) k v hk cvv
        rw [show o + 1 + k = o + (k + 1) by omega] at g
        rw [zcat_r cvv]
        exact List.mem_cons_of_mem _ g
theorem zentl_len (cvv : ∀ k, cv k = .null ∨ ∃ a, cv k = .ref a) : ∀ a : List zAV, (lg_sl (a.map (zcv B cv))).length = (zentl a).length
  | [] => rfl
  | w :: r => by
    have g := zentl_len cvv r
    unfold lg_sl at g ⊢
    rw [List.map_cons, List.flatMap_cons, List.length_append, g]
    rcases w with x | x | x
    · show 1 + _ = (some _ :: zentl r).length
      simp; omega
    · show 2 + _ = (some _ :: none :: zentl r).length
      simp; omega
    · rw [zcat_r cvv]
      show 1 + _ = (some _ :: zentl r).length
      simp; omega
theorem zent_len {n : Nat} {a : List zAV} (ha : (zentl a).length ≤ n) : (zent n a).length = n := by
  unfold zent
  rw [List.length_append, List.length_replicate]
  omega
theorem zent_get {n k : Nat} {a : List zAV} {v : zAV} (hk : (zent n a).getD k none = some v) : (zentl a).getD k none = some v := by
  unfold zent at hk
  rw [List.getD_eq_getElem?_getD] at hk ⊢
  by_cases hl : k < (zentl a).length
  · rwa [List.getElem?_append_left hl] at hk
  · rw [List.getElem?_append_right (by omega), List.getElem?_replicate] at hk
    split at hk <;> cases hk
theorem zentl_ok : ∀ a : List zAV, zokS a → zokL (zentl a)
  | [], _ => fun v hv => by cases hv
  | w :: r, ho => fun v hv => by
    have g := zentl_ok r ho.t
    rcases w with x | x | x
    · rcases List.mem_cons.mp hv with e | e
      · cases e; exact ho.h
      · exact g v e
    · rcases List.mem_cons.mp hv with e | e
      · cases e; exact ho.h
      · rcases List.mem_cons.mp e with e | e
        · cases e
        · exact g v e
    · rcases List.mem_cons.mp hv with e | e
      · cases e; exact ho.h
      · exact g v e
theorem zent_ok {n : Nat} {a : List zAV} (ho : zokS a) : zokL (zent n a) := by
  intro v hv
  rcases List.mem_append.mp hv with e | e
  · exact zentl_ok a ho v e
  · have := List.eq_of_mem_replicate e
    cases this
theorem zi_if {P Q : Prop} [Decidable P] [Decidable Q] {a b : Int} (h : P ↔ Q) : (if P then Int32.ofInt a else Int32.ofInt b) = Int32.ofInt (if Q then a else b) := by
  by_cases hq : Q
  · rw [if_pos hq, if_pos (h.mpr hq)]
  · rw [if_neg hq, if_neg (fun z => hq (h.mp z))]
theorem zl_if {P Q : Prop} [Decidable P] [Decidable Q] {a b : Int} (h : P ↔ Q) : (if P then Int64.ofInt a else Int64.ofInt b) = Int64.ofInt (if Q then a else b) := by
  by_cases hq : Q
  · rw [if_pos hq, if_pos (h.mpr hq)]
  · rw [if_neg hq, if_neg (fun z => hq (h.mp z))]
theorem zi_abs {x : Int} (hx : z32 x) : (if 0 ≤ Int32.ofInt x then Int32.ofInt x else 0 - Int32.ofInt x) = Int32.ofInt (if 0 ≤ x then x else zw (0 - x)) := by
  rw [zi_0, zi_sub]
  exact zi_if (zi_le z32_0 hx)
def zPost (D : va_G) (B : Nat) (cv : Nat → Value) (cA : Nat → ClassId) (Q : zPO) : Array Value → State → Outcome → State → Prop := fun _ st oc t =>
  (∃ (v : Option zAV) (sh : zSH) (h : zHP), oc = .returned (v.map (zcv B cv)) ∧ zokO v ∧ Q v sh h ∧ zWR D B cv cA sh h t.heap) ∧ va_F (fun q => B ≤ q) st t
def zwsj (j : Nat) : List Cond := Cond.code (zy j) (zb j) (zinfo j).1 (zrt j) :: zT
def zroom (j : Nat) : Room := { frames := (zrm j).1, cells := (zinfo j).2.2.1, slots := (zinfo j).2.2.2, locals := (zrm j).2 }
theorem zend {Q : zPO} {p : Program} {l : Launch} {ev : Env} {s : State} {m : MethodId} {args : Array Value} {below : List Frame} {meth : Method} {cd : Code} (cvv : ∀ k, cv k = .null ∨ ∃ a, cv k = .ref a) (hx : p.tables.exec = Jvm.exec) (hb : cd.code = zb j) (hr : meth.sig.returnType = zrt j) (hlocks : meth.locks = false) (hk : zrk (zinfo j).2.1 (zrt j)) :
    zEnd D B cv cA p l ev (zroom j) s m args below meth cd j Q (MQ below (zPost D B cv cA Q) args s (zinfo j).2.2.1 (zinfo j).2.2.2 (fun q => B ≤ q)) := by
  intro pc ins v sh h H locs cells slots lsc hd hv ho hQ hW hS h1 h2
  refine W.widen h1 h2 ?_
  have hq : ∀ (t : State), t.heap = H → zPost D B cv cA Q args s (.returned (v.map (zcv B cv))) t := fun t ht => ⟨⟨v, sh, h, rfl, ho, hQ, by rw [ht]; exact hW⟩, hS.F ht⟩
  unfold zrv at hv
  split at hv
  · rename_i x
    generalize (zinfo j).2.1 = t at hv hk
    unfold zret at hv
    have ox : z32 x := ho
    split at hv
    · exact W.zret hx hb (hr.trans hk) rfl (fun t ht _ => hq t ht) hS.2.2 hd hlocks
    · refine W.zret hx hb (hr.trans hk) ?_ (fun t ht _ => hq t ht) hS.2.2 hd hlocks
      rcases hv with e | e <;> subst e <;> rfl
    · refine W.zret hx hb (hr.trans hk) ?_ (fun t ht _ => hq t ht) hS.2.2 hd hlocks
      show Value.int (Int32.ofInt x).toInt8.toInt32 = Value.int (Int32.ofInt x)
      rw [zi_i2b ox, show Int.bmod x 256 = x by rw [Int.bmod_def]; omega]
    · refine W.zret hx hb (hr.trans hk) ?_ (fun t ht _ => hq t ht) hS.2.2 hd hlocks
      have g := zi_i2c ox
      rw [show x % 65536 = x by omega] at g
      have g2 := pk_nc (Int32.ofInt x)
      rw [g] at g2
      exact g2
    · refine W.zret hx hb (hr.trans hk) ?_ (fun t ht _ => hq t ht) hS.2.2 hd hlocks
      show Value.int (Int32.ofInt x).toInt16.toInt32 = Value.int (Int32.ofInt x)
      rw [zi_i2s ox, show Int.bmod x 65536 = x by rw [Int.bmod_def]; omega]
    · exact hv.elim
  · rw [hv] at hk
    exact W.lret hx hb (hr.trans hk) (fun t ht _ => hq t ht) hS.2.2 hd hlocks
  · rename_i x
    rw [hv] at hk
    have e := zcvR (B := B) (x := x) cvv
    rcases hk with ⟨nm, hk⟩ | ⟨nm, hk⟩
    · exact W.aret (rt := .object nm) hx hb (hr.trans hk) (Or.inl ⟨_, rfl⟩) e (fun t ht _ => hq t ht) hS.2.2 hd hlocks
    · exact W.aret (rt := .array nm) hx hb (hr.trans hk) (Or.inr ⟨_, rfl⟩) e (fun t ht _ => hq t ht) hS.2.2 hd hlocks
  · rw [hv] at hk
    exact W.vret hx hb (hr.trans hk) (fun t ht _ => hq t ht) hS.2.2 hd hlocks
  · exact hv.elim
theorem zmet {a : List zAV} {R : zPO} (l : Launch) (hm : zMk j) (hP : zSnd D B cv cA X j 0 (zinfo j).2.2.1 (zinfo j).2.2.2 (zent (zinfo j).1 a) [] sh h R) (ha : (zentl a).length ≤ (zinfo j).1) (oa : zokS a) :
    Met l (zy j) (zwsj j) (zroom j) (va_Pc (a.map (zcv B cv)) (fun U => zWR D B cv cA sh h U.heap ∧ zKS D B cv cA X U)) (zPost D B cv cA R) (zinfo j).2.2.1 (zinfo j).2.2.2 (fun q => B ≤ q) := by
  refine Met.ofW (cc := zb j) (maxL := (zinfo j).1) (ret := zrt j) hm.2.2.2.1 rfl ?_
  intro p e s m args below meth cd s₁ Bd hml hv
  obtain ⟨rfl, Wd, K⟩ := hv
  have hts : ∀ w ∈ zT, w.before (a.map (zcv B cv)).toArray s = true := fun w hw => atoms_spec (ws := zwsj j) Bd.pre w (List.mem_cons_of_mem _ hw)
  have hl := lv_entry (a.map (zcv B cv)) (n := (zinfo j).1) (by rw [zentl_len K.cvv]; exact ha)
  rw [lg_entry_eq]
  generalize (lg_sl (a.map (zcv B cv)) ++ List.replicate ((zinfo j).1 - (lg_sl (a.map (zcv B cv))).length) Slot.unset).toArray = lsc at hl ⊢
  have L : zLR B cv (zent (zinfo j).1 a) lsc := by
    refine ⟨by rw [zent_len ha]; exact hl.1, hl.2.1, fun q hq => ?_⟩
    obtain ⟨v, e1, e2⟩ := zll_mem.mp hq
    rw [e2]
    have g := zentl_in (B := B) (cv := cv) a 0 q.1 v (zent_get e1) K.cvv
    rw [Nat.zero_add] at g
    exact hl.2.2 _ g
  exact hP p l e (zroom j) s m _ below meth cd s.heap [] 0 0 lsc _ ⟨Bd.exec, Bd.bytes, hml, findClass_of_methodNamed Bd.named, hts, (fun hz => (name_of_methodNamed Bd.named Bd.method).1.trans hz), ⟨Nat.le_refl _, Nat.le_refl _⟩, by have := Wd.1; omega⟩ K Wd L (zent_len ha) (zent_ok oa) (fun v hv => by cases hv) va_S.rf (by show 0 + _ ≤ (zinfo j).2.2.1; omega) (by show 0 + _ ≤ (zinfo j).2.2.2; omega) (zend K.cvv Bd.exec Bd.bytes Bd.returns Bd.notSynchronized hm.2.2.2.2.1)
theorem zKS.go {s U : State} {locs : List Loc} (K : zKS D B cv cA X s) (S : va_S (fun q => B ≤ q) s.heap U.heap locs) (hW : s.WarmedH U.vm) : zKS D B cv cA X U :=
  ⟨va_K.moved hW.alike K.1, K.2.go hW.alike (fun _ _ _ _ g => vk_R.warm hW g) S.2.1⟩
theorem zblind {a : List Value} : FrameBlind (va_Pc a (fun U => zWR D B cv cA sh h U.heap ∧ zKS D B cv cA X U)) := fun a2 U g mk q =>
  ⟨q.1, q.2.1, va_K.moved (u := U) (U := U.calling g mk a2) (Vm.Alike.refl U.vm) q.2.2.1, q.2.2.2.go (u := U) (U := U.calling g mk a2) (H := U.heap) (H1 := U.heap) (Vm.Alike.refl U.vm) (fun _ _ _ _ g9 => vk_R.same rfl g9) (fun _ _ _ => rfl)⟩
theorem zcallW {p : Program} {l : Launch} {ev : Env} {R : Room} {s : State} {m : MethodId} {args : Array Value} {below : List Frame} {meth : Method} {cd : Code} {H : Heap} {locs : List Loc} {cells slots mc ms : Nat} {lsc : Array Slot} {QQ : State → Prop} {st0 rest : List Value} {aa : Array Value} {Rr : zPO}
    (hr : va_Run p l ev R s m args below meth cd H locs cells slots mc ms (F0 m pc lsc st0) rest (zPost D B cv cA Rr aa) (fun q => B ≤ q)) (S : va_S (fun q => B ≤ q) s.heap H locs)
    (kk : ∀ (v : Option zAV) (sh' : zSH) (h' : zHP) (H1 : Heap) (locs1 : List Loc), zokO v → Rr v sh' h' → zWR D B cv cA sh' h' H1 → va_S (fun q => B ≤ q) s.heap H1 locs1 → W p l ev R s m args below meth cd H1 locs1 (cells + mc) (slots + ms) QQ (F0 m (pc + 3) lsc ((v.map (zcv B cv)).toList ++ rest))) : W p l ev R s m args below meth cd H locs cells slots QQ (F0 m pc lsc st0) := by
  intro T hT X
  obtain ⟨v, st₀, t, T', L, h0, X', hL, e1, e2, ⟨⟨w, sh', h', hv, ho, hR, hW⟩, hz, hk⟩, st⟩ := hr T hT X
  have hv : v = w.map (zcv B cv) := by cases hv; rfl
  subst hv
  rw [h0] at hz hk
  obtain ⟨t2, a1, b1⟩ := kk w sh' h' T'.heap (locs ++ L) ho hR (by rw [e1]; exact hW)
    ⟨Nat.le_trans S.1 (by rw [e1]; exact hz), fun q h1 h2 => by rw [e1, hk q (Nat.lt_of_lt_of_le h1 S.1) h2]; exact S.2.1 q h1 h2, fun q hq => by
      rcases List.mem_append.mp hq with h | h
      · exact S.2.2 q h
      · exact hL q h⟩ T' rfl X'
  exact ⟨t2, st t2 a1, b1⟩
theorem zpush_map {v : Option zAV} {r : List zAV} : (v.map (zcv B cv)).toList ++ r.map (zcv B cv) = (zpush v r).map (zcv B cv) := by
  cases v <;> rfl
theorem zpush_ok {v : Option zAV} {r : List zAV} (hv : zokO v) (hr : zokS r) : zokS (zpush v r) := by
  cases v with
  | none => exact hr
  | some v => exact zokS.c hv hr
theorem zs_mmax {k : Nat} (hw : Cond.methodLink (zy i).cls k Lib.Math.max.name ∈ zT) (hs1 : Cond.static Lib.Math.max.name ∈ zT) (hs2 : Cond.initialized "java/lang/Math" ∈ zT) (hs3 : Cond.code Lib.Math.max.name Lib.Math.max.code 2 (some .int) ∈ zT) (hr : 1 ≤ (zrm i).1) (hr2 : 23 ≤ (zrm i).2) (hd : decode (zb i) pc = .ok (.invokestatic k, 3)) (q : match st with | .inl y :: .inl x :: r => zcat r ≤ 8 ∧ zSnd D B cv cA X i (pc + 3) c sl ls (.inl (if x < y then y else x) :: r) sh h Q | _ => False) : zSnd D B cv cA X i pc c sl ls st sh h Q := by
  intro p l ev R s m args below meth cd H locs cells slots lsc QQ C K Wd L ll oL oS S b1 b2 E
  have hts := C.2.2.2.2.1
  split at q
  · rename_i y x r
    obtain ⟨h8, q⟩ := q
    have k2 := q _ _ _ _ _ _ _ _ _ _ _ _ _ _ _ _ C K Wd L ll oL (zokS.c (v := .inl (if x < y then y else x)) (by show z32 (if x < y then y else x); split; exact oS.h; exact oS.t.h) oS.t.t) S b1 b2 E
    have g2 := C.2.2.2.2.2.2.1.2
    refine va_mmax C.1 C.2.1 (C.2.2.1.trans (ll.symm.trans L.1.symm)) C.2.2.2.1 (hts _ hw) (hts _ hs1) (hts _ hs2) (hts _ hs3) (Nat.le_trans hr C.2.2.2.2.2.2.1.1) (by rw [zcat_s K.cvv]; omega) (by omega) (by omega) hd ?_
    rw [zi_if (zi_lt oS.t.h oS.h)]
    exact k2
  · exact q.elim
theorem zs_mmin {k : Nat} (hw : Cond.methodLink (zy i).cls k Lib.Math.min.name ∈ zT) (hs1 : Cond.static Lib.Math.min.name ∈ zT) (hs2 : Cond.initialized "java/lang/Math" ∈ zT) (hs3 : Cond.code Lib.Math.min.name Lib.Math.min.code 2 (some .int) ∈ zT) (hr : 1 ≤ (zrm i).1) (hr2 : 23 ≤ (zrm i).2) (hd : decode (zb i) pc = .ok (.invokestatic k, 3)) (q : match st with | .inl y :: .inl x :: r => zcat r ≤ 8 ∧ zSnd D B cv cA X i (pc + 3) c sl ls (.inl (if y < x then y else x) :: r) sh h Q | _ => False) : zSnd D B cv cA X i pc c sl ls st sh h Q := by
  intro p l ev R s m args below meth cd H locs cells slots lsc QQ C K Wd L ll oL oS S b1 b2 E
  have hts := C.2.2.2.2.1
  split at q
  · rename_i y x r
    obtain ⟨h8, q⟩ := q
    have k2 := q _ _ _ _ _ _ _ _ _ _ _ _ _ _ _ _ C K Wd L ll oL (zokS.c (v := .inl (if y < x then y else x)) (by show z32 (if y < x then y else x); split; exact oS.h; exact oS.t.h) oS.t.t) S b1 b2 E
    have g2 := C.2.2.2.2.2.2.1.2
    refine va_mmin C.1 C.2.1 (C.2.2.1.trans (ll.symm.trans L.1.symm)) C.2.2.2.1 (hts _ hw) (hts _ hs1) (hts _ hs2) (hts _ hs3) (Nat.le_trans hr C.2.2.2.2.2.2.1.1) (by rw [zcat_s K.cvv]; omega) (by omega) (by omega) hd ?_
    rw [zi_if (zi_lt oS.h oS.t.h)]
    exact k2
  · exact q.elim
theorem zs_mabs {k : Nat} (hw : Cond.methodLink (zy i).cls k Lib.Math.abs.name ∈ zT) (hs1 : Cond.static Lib.Math.abs.name ∈ zT) (hs2 : Cond.initialized "java/lang/Math" ∈ zT) (hs3 : Cond.code Lib.Math.abs.name Lib.Math.abs.code 1 (some .int) ∈ zT) (hr : 1 ≤ (zrm i).1) (hr2 : 23 ≤ (zrm i).2) (hd : decode (zb i) pc = .ok (.invokestatic k, 3)) (q : match st with | .inl x :: r => zcat r ≤ 8 ∧ zSnd D B cv cA X i (pc + 3) c sl ls (.inl (if 0 ≤ x then x else zw (0 - x)) :: r) sh h Q | _ => False) : zSnd D B cv cA X i pc c sl ls st sh h Q := by
  intro p l ev R s m args below meth cd H locs cells slots lsc QQ C K Wd L ll oL oS S b1 b2 E
  have hts := C.2.2.2.2.1
  split at q
  · rename_i x r
    obtain ⟨h8, q⟩ := q
    have k2 := q _ _ _ _ _ _ _ _ _ _ _ _ _ _ _ _ C K Wd L ll oL (zokS.c (v := .inl (if 0 ≤ x then x else zw (0 - x))) (by show z32 (if 0 ≤ x then x else zw (0 - x)); split; exact oS.h; exact zw_r _) oS.t) S b1 b2 E
    have g2 := C.2.2.2.2.2.2.1.2
    refine va_mabs C.1 C.2.1 (C.2.2.1.trans (ll.symm.trans L.1.symm)) C.2.2.2.1 (hts _ hw) (hts _ hs1) (hts _ hs2) (hts _ hs3) (Nat.le_trans hr C.2.2.2.2.2.2.1.1) (by rw [zcat_s K.cvv]; omega) (by omega) (by omega) hd ?_
    rw [zi_abs oS.h]
    exact k2
  · exact q.elim
theorem zs_lmax {k : Nat} (hw : Cond.methodLink (zy i).cls k Lib.MathLoose.max_long.x ∈ zT) (hs1 : Cond.static Lib.MathLoose.max_long.x ∈ zT) (hs2 : Cond.initialized "java/lang/Math" ∈ zT) (hs3 : Cond.code Lib.MathLoose.max_long.x Lib.MathLoose.max_long.code 4 (some .long) ∈ zT) (hr : 1 ≤ (zrm i).1) (hr2 : 23 ≤ (zrm i).2) (hd : decode (zb i) pc = .ok (.invokestatic k, 3)) (q : match st with | .inr (.inl y) :: .inr (.inl x) :: r => zcat r ≤ 8 ∧ zSnd D B cv cA X i (pc + 3) c sl ls (.inr (.inl (if y < x then x else y)) :: r) sh h Q | _ => False) : zSnd D B cv cA X i pc c sl ls st sh h Q := by
  intro p l ev R s m args below meth cd H locs cells slots lsc QQ C K Wd L ll oL oS S b1 b2 E
  have hts := C.2.2.2.2.1
  split at q
  · rename_i y x r
    obtain ⟨h8, q⟩ := q
    have k2 := q _ _ _ _ _ _ _ _ _ _ _ _ _ _ _ _ C K Wd L ll oL (zokS.c (v := .inr (.inl (if y < x then x else y))) (by show z64 (if y < x then x else y); split; exact oS.t.h; exact oS.h) oS.t.t) S b1 b2 E
    have g2 := C.2.2.2.2.2.2.1.2
    refine va_mmax_long C.1 C.2.1 (C.2.2.1.trans (ll.symm.trans L.1.symm)) C.2.2.2.1 (hts _ hw) (hts _ hs1) (hts _ hs2) (hts _ hs3) (Nat.le_trans hr C.2.2.2.2.2.2.1.1) (by rw [zcat_s K.cvv]; omega) (by omega) (by omega) hd ?_
    rw [zl_if (zl_lt oS.h oS.t.h)]
    exact k2
  · exact q.elim
theorem zs_lmin {k : Nat} (hw : Cond.methodLink (zy i).cls k Lib.MathLoose.min_long.x ∈ zT) (hs1 : Cond.static Lib.MathLoose.min_long.x ∈ zT) (hs2 : Cond.initialized "java/lang/Math" ∈ zT) (hs3 : Cond.code Lib.MathLoose.min_long.x Lib.MathLoose.min_long.code 4 (some .long) ∈ zT) (hr : 1 ≤ (zrm i).1) (hr2 : 23 ≤ (zrm i).2) (hd : decode (zb i) pc = .ok (.invokestatic k, 3)) (q : match st with | .inr (.inl y) :: .inr (.inl x) :: r => zcat r ≤ 8 ∧ zSnd D B cv cA X i (pc + 3) c sl ls (.inr (.inl (if y < x then y else x)) :: r) sh h Q | _ => False) : zSnd D B cv cA X i pc c sl ls st sh h Q := by
  intro p l ev R s m args below meth cd H locs cells slots lsc QQ C K Wd L ll oL oS S b1 b2 E
  have hts := C.2.2.2.2.1
  split at q
  · rename_i y x r
    obtain ⟨h8, q⟩ := q
    have k2 := q _ _ _ _ _ _ _ _ _ _ _ _ _ _ _ _ C K Wd L ll oL (zokS.c (v := .inr (.inl (if y < x then y else x))) (by show z64 (if y < x then y else x); split; exact oS.h; exact oS.t.h) oS.t.t) S b1 b2 E
    have g2 := C.2.2.2.2.2.2.1.2
    refine va_mmin_long C.1 C.2.1 (C.2.2.1.trans (ll.symm.trans L.1.symm)) C.2.2.2.1 (hts _ hw) (hts _ hs1) (hts _ hs2) (hts _ hs3) (Nat.le_trans hr C.2.2.2.2.2.2.1.1) (by rw [zcat_s K.cvv]; omega) (by omega) (by omega) hd ?_
    rw [zl_if (zl_lt oS.h oS.t.h)]
    exact k2
  · exact q.elim
theorem zs_static {k : Nat} (hw : Cond.methodLink (zy i).cls k (zy r1) ∈ zT) (hm : zMk r1) (ht : (zmp r1).1 = 2) (hn : (parseMethodDescriptor (zy r1).desc).map (fun d => d.parameters.length + (bif Nat.blt 2 2 then 1 else 0)) = some r2) (hr : (zrm r1).1 + 1 ≤ (zrm i).1) (hr2 : 8 + ((zinfo r1).1 + 11) + (zrm r1).2 ≤ (zrm i).2) (hd : decode (zb i) pc = .ok (.invokestatic k, 3)) (q : zCall (zSnd D B cv cA X) i pc c sl ls st sh h Q r1 r2 (True)) : zSnd D B cv cA X i pc c sl ls st sh h Q := by
  intro p l ev R s m args below meth cd H locs cells slots lsc QQ C K Wd L ll oL oS S b1 b2 E
  unfold zCall at q
  obtain ⟨⟨h1, h8, hen⟩, hrec, g1, g2, Rr, hP, hk⟩ := q
  have hts := C.2.2.2.2.1
  have e0 : st = st.take r2 ++ st.drop r2 := (List.take_append_drop r2 st).symm
  have oa : zokS (st.take r2).reverse := fun v hv => oS v (List.mem_of_mem_take (List.mem_reverse.mp hv))
  have orr : zokS (st.drop r2) := fun v hv => oS v (List.mem_of_mem_drop hv)
  have hM := zmet (X := X) l hm hP hen oa
  have hlen : (st.take r2).reverse.length = r2 := by rw [List.length_reverse, List.length_take]; omega
  have hW8 : 2 * (F0 m pc lsc (st.map (zcv B cv))).monitorRoom + (((st.drop r2).map (zcv B cv)).map fun v => v.category).sum ≤ 8 := lv_room (rest := st.map (zcv B cv)) (by rw [zcat_s K.cvv]; exact h8)
  have hG : GoodIn zT (zwsj r1) := fun w hw => by
    rcases List.mem_cons.mp hw with e | e
    · subst e; exact ⟨hm.1, zT_good hm.1⟩
    · exact ⟨e, zT_good e⟩
  have hsz : (F0 m pc lsc (st.map (zcv B cv))).locals.size = (zinfo i).1 := L.1.trans ll
  have hRR : (zroom r1).frames + 1 ≤ R.frames ∧ 8 + ((zinfo r1).1 + 11) + (zroom r1).locals ≤ R.locals := ⟨Nat.le_trans hr C.2.2.2.2.2.2.1.1, Nat.le_trans hr2 C.2.2.2.2.2.2.1.2⟩
  have stk : st.map (zcv B cv) = ((st.take r2).reverse.map (zcv B cv)).reverse ++ (st.drop r2).map (zcv B cv) := by
    rw [← List.map_reverse, List.reverse_reverse, ← List.map_append, List.take_append_drop]
  have hm2 := hm.2.2.2.2.2
  rw [ht] at hm2
  have cw : CallB R s args (zy i).cls k (zy r1) (zb r1) (zinfo r1).1 (zrt r1) (zwsj r1) (zroom r1) (zinfo r1).2.2.1 (zinfo r1).2.2.2 r2 ∧ (Cond.static (zy r1)).before args s = true := ⟨callB_of r2 hts hG rfl rfl rfl (hts _ hm.2.1) (hts _ hw) ⟨hm.2.2.1.1, hm.2.2.1.2, hn⟩ hRR, hts _ hm2⟩
  have hrun := va_runS (e := ev) (below := below) (meth := meth) (locs := locs) (rest := (st.drop r2).map (zcv B cv)) (g := F0 m pc lsc (st.map (zcv B cv))) ⟨C.1, C.2.1, C.2.2.1, C.2.2.2.1, hts⟩ hM cw ⟨zblind, fun U hU hW => ⟨rfl, by rw [hU]; exact Wd, K.go (by rw [hU]; exact S) hW⟩⟩ rfl (by rw [List.length_map]; exact hlen) hsz stk hW8 hd (show cells + (zinfo r1).2.2.1 ≤ R.cells ∧ slots + (zinfo r1).2.2.2 ≤ R.slots from ⟨by omega, by omega⟩)
  refine zcallW hrun S (fun v sh' h' H1 locs1 ho hR hW hS => ?_)
  rw [zpush_map]
  exact hk v sh' h' hR _ _ _ _ _ _ _ _ _ _ _ _ _ _ _ _ C K hW L ll oL (zpush_ok ho orr) hS (show cells + (zinfo r1).2.2.1 + (c - (zinfo r1).2.2.1) ≤ R.cells by omega) (show slots + (zinfo r1).2.2.2 + (sl - (zinfo r1).2.2.2) ≤ R.slots by omega) E
theorem zs_special {k : Nat} (hw : Cond.methodLink (zy i).cls k (zy r1) ∈ zT) (hm : zMk r1) (ht : (zmp r1).1 = 0) (hn : (parseMethodDescriptor (zy r1).desc).map (fun d => d.parameters.length + (bif Nat.blt 0 2 then 1 else 0)) = some r2) (hr : (zrm r1).1 + 1 ≤ (zrm i).1) (hr2 : 8 + ((zinfo r1).1 + 11) + (zrm r1).2 ≤ (zrm i).2) (hd : decode (zb i) pc = .ok (.invokespecial k, 3)) (q : zCall (zSnd D B cv cA X) i pc c sl ls st sh h Q r1 r2 (zRec0 st r2)) : zSnd D B cv cA X i pc c sl ls st sh h Q := by
  intro p l ev R s m args below meth cd H locs cells slots lsc QQ C K Wd L ll oL oS S b1 b2 E
  unfold zCall at q
  obtain ⟨⟨h1, h8, hen⟩, hrec, g1, g2, Rr, hP, hk⟩ := q
  have hts := C.2.2.2.2.1
  have e0 : st = st.take r2 ++ st.drop r2 := (List.take_append_drop r2 st).symm
  have oa : zokS (st.take r2).reverse := fun v hv => oS v (List.mem_of_mem_take (List.mem_reverse.mp hv))
  have orr : zokS (st.drop r2) := fun v hv => oS v (List.mem_of_mem_drop hv)
  have hM := zmet (X := X) l hm hP hen oa
  have hlen : (st.take r2).reverse.length = r2 := by rw [List.length_reverse, List.length_take]; omega
  have hW8 : 2 * (F0 m pc lsc (st.map (zcv B cv))).monitorRoom + (((st.drop r2).map (zcv B cv)).map fun v => v.category).sum ≤ 8 := lv_room (rest := st.map (zcv B cv)) (by rw [zcat_s K.cvv]; exact h8)
  have hG : GoodIn zT (zwsj r1) := fun w hw => by
    rcases List.mem_cons.mp hw with e | e
    · subst e; exact ⟨hm.1, zT_good hm.1⟩
    · exact ⟨e, zT_good e⟩
  have hsz : (F0 m pc lsc (st.map (zcv B cv))).locals.size = (zinfo i).1 := L.1.trans ll
  have hRR : (zroom r1).frames + 1 ≤ R.frames ∧ 8 + ((zinfo r1).1 + 11) + (zroom r1).locals ≤ R.locals := ⟨Nat.le_trans hr C.2.2.2.2.2.2.1.1, Nat.le_trans hr2 C.2.2.2.2.2.2.1.2⟩
  have stk : st.map (zcv B cv) = ((st.take r2).reverse.map (zcv B cv)).reverse ++ (st.drop r2).map (zcv B cv) := by
    rw [← List.map_reverse, List.reverse_reverse, ← List.map_append, List.take_append_drop]
  have hm2 := hm.2.2.2.2.2
  rw [ht] at hm2
  unfold zRec0 at hrec
  split at hrec
  · rename_i o A hA
    rw [hA, List.map_cons] at stk hM
    rw [hA] at hlen
    have hn2 : (parseMethodDescriptor (zy r1).desc).map (fun d => d.parameters.length) = some A.length := by
      rw [show (bif Nat.blt 0 2 then 1 else 0) = 1 from rfl] at hn
      cases hq : parseMethodDescriptor (zy r1).desc with
      | none => rw [hq] at hn; cases hn
      | some d =>
        rw [hq, Option.map_some, Option.some.injEq] at hn
        rw [List.length_cons] at hlen
        rw [Option.map_some]
        congr 1
        omega
    have cb := callB_of (R := R) (own := (zy i).cls) (index := k) A.length hts hG rfl (rm := zroom r1) rfl rfl (hts _ hm.2.1) (hts _ hw) ⟨hm.2.2.1.1, hm.2.2.1.2, hn2⟩ hRR
    rw [show zcv B cv (.inr (.inr (some o))) = .ref (B + o) from zcr_lo hrec] at stk hM
    have hrun := va_runI (e := ev) (below := below) (meth := meth) (locs := locs) (rest := (st.drop r2).map (zcv B cv)) (As := A.map (zcv B cv)) (b := B + o) (g := F0 m pc lsc (st.map (zcv B cv))) ⟨C.1, C.2.1, C.2.2.1, C.2.2.2.1, hts⟩ hM ⟨by have := hm2.2.2; rw [this] at cb; exact cb, hm2.2.1, hts _ hm2.1⟩ ⟨zblind, fun U hU hW => ⟨rfl, by rw [hU]; exact Wd, K.go (by rw [hU]; exact S) hW⟩⟩ rfl (by rw [List.length_map]) hsz (by rw [show (F0 m pc lsc (st.map (zcv B cv))).stack = st.map (zcv B cv) from rfl, stk, List.reverse_cons, List.append_assoc]; rfl) hW8 hd (show cells + (zinfo r1).2.2.1 ≤ R.cells ∧ slots + (zinfo r1).2.2.2 ≤ R.slots from ⟨by omega, by omega⟩)
    refine zcallW hrun S (fun v sh' h' H1 locs1 ho hR hW hS => ?_)
    rw [zpush_map]
    exact hk v sh' h' hR _ _ _ _ _ _ _ _ _ _ _ _ _ _ _ _ C K hW L ll oL (zpush_ok ho orr) hS (show cells + (zinfo r1).2.2.1 + (c - (zinfo r1).2.2.1) ≤ R.cells by omega) (show slots + (zinfo r1).2.2.2 + (sl - (zinfo r1).2.2.2) ≤ R.slots by omega) E
  · exact hrec.elim
theorem zs_virtual {k : Nat} (hw : Cond.methodLink (zy i).cls k (zy r1) ∈ zT) (hm : zMk r1) (ht : (zmp r1).1 = 1) (hn : (parseMethodDescriptor (zy r1).desc).map (fun d => d.parameters.length + (bif Nat.blt 1 2 then 1 else 0)) = some r2) (hr : (zrm r1).1 + 1 ≤ (zrm i).1) (hr2 : 8 + ((zinfo r1).1 + 11) + (zrm r1).2 ≤ (zrm i).2) (hcn : zcn r3.toNat = (zy r1).cls) (h83 : r3.toNat < 13 ∨ r3.toNat = 200) (hd : decode (zb i) pc = .ok (.invokevirtual k, 3)) (q : zCall (zSnd D B cv cA X) i pc c sl ls st sh h Q r1 r2 (zRec X st sh r2 r3)) : zSnd D B cv cA X i pc c sl ls st sh h Q := by
  intro p l ev R s m args below meth cd H locs cells slots lsc QQ C K Wd L ll oL oS S b1 b2 E
  unfold zCall at q
  obtain ⟨⟨h1, h8, hen⟩, hrec, g1, g2, Rr, hP, hk⟩ := q
  have hts := C.2.2.2.2.1
  have e0 : st = st.take r2 ++ st.drop r2 := (List.take_append_drop r2 st).symm
  have oa : zokS (st.take r2).reverse := fun v hv => oS v (List.mem_of_mem_take (List.mem_reverse.mp hv))
  have orr : zokS (st.drop r2) := fun v hv => oS v (List.mem_of_mem_drop hv)
  have hM := zmet (X := X) l hm hP hen oa
  have hlen : (st.take r2).reverse.length = r2 := by rw [List.length_reverse, List.length_take]; omega
  have hW8 : 2 * (F0 m pc lsc (st.map (zcv B cv))).monitorRoom + (((st.drop r2).map (zcv B cv)).map fun v => v.category).sum ≤ 8 := lv_room (rest := st.map (zcv B cv)) (by rw [zcat_s K.cvv]; exact h8)
  have hG : GoodIn zT (zwsj r1) := fun w hw => by
    rcases List.mem_cons.mp hw with e | e
    · subst e; exact ⟨hm.1, zT_good hm.1⟩
    · exact ⟨e, zT_good e⟩
  have hsz : (F0 m pc lsc (st.map (zcv B cv))).locals.size = (zinfo i).1 := L.1.trans ll
  have hRR : (zroom r1).frames + 1 ≤ R.frames ∧ 8 + ((zinfo r1).1 + 11) + (zroom r1).locals ≤ R.locals := ⟨Nat.le_trans hr C.2.2.2.2.2.2.1.1, Nat.le_trans hr2 C.2.2.2.2.2.2.1.2⟩
  have stk : st.map (zcv B cv) = ((st.take r2).reverse.map (zcv B cv)).reverse ++ (st.drop r2).map (zcv B cv) := by
    rw [← List.map_reverse, List.reverse_reverse, ← List.map_append, List.take_append_drop]
  have hm2 := hm.2.2.2.2.2
  rw [ht] at hm2
  unfold zRec at hrec
  split at hrec
  · rename_i o A hA
    rw [hA, List.map_cons] at stk hM
    rw [hA] at hlen
    have hn2 : (parseMethodDescriptor (zy r1).desc).map (fun d => d.parameters.length) = some A.length := by
      rw [show (bif Nat.blt 1 2 then 1 else 0) = 1 from rfl] at hn
      cases hq : parseMethodDescriptor (zy r1).desc with
      | none => rw [hq] at hn; cases hn
      | some d =>
        rw [hq, Option.map_some, Option.some.injEq] at hn
        rw [List.length_cons] at hlen
        rw [Option.map_some]
        congr 1
        omega
    have cb := callB_of (R := R) (own := (zy i).cls) (index := k) A.length hts hG rfl (rm := zroom r1) rfl rfl (hts _ hm.2.1) (hts _ hw) ⟨hm.2.2.1.1, hm.2.2.1.2, hn2⟩ hRR
    have recv : ∃ a, zcv B cv (.inr (.inr (some o))) = .ref a ∧ ∃ cell : Cell, H[a]? = some cell ∧ cell.vm.isStatics = false ∧ s.vm.findClass (zy r1).cls = some cell.cls := by
      by_cases ha : o < 1000
      · obtain ⟨hl, e⟩ := zlo ha hrec (by omega)
        refine ⟨_, zcr_lo ha, ?_⟩
        obtain ⟨u1, -⟩ := (Wd.ok hl e).1.2 (by omega)
        obtain ⟨CC, T, N, hc⟩ := zcl13 (r1 := r3.toNat) (by omega)
        have hcl : zcn r3.toNat = CC := by unfold zcn; rw [hc]
        rw [← hcn, hcl]
        have he := Wd.at hl e
        rw [zrow_o (by omega), show 16 + r3.toNat - 16 = r3.toNat by omega] at he
        exact va_recv K.1 Wd.2.1 hc he
      · rcases zhi (X := X) (sh := sh) ha with ⟨e, g⟩ | ⟨e, g⟩ | ⟨e, g⟩ | ⟨y, hy, e, g⟩ | ⟨y, hy, e, g⟩ | g
        · rw [g] at hrec; simp only at hrec; omega
        · rw [g] at hrec; simp only at hrec; omega
        · rw [g] at hrec; simp only at hrec; omega
        · obtain ⟨t, u, f1, f2, f3, -⟩ := K.2.2.2.2.2.2.1 y hy
          subst e
          refine ⟨t, (zcr_hi ha).trans f1, ?_⟩
          have h200 : r3.toNat = 200 := by rw [g] at hrec; simp only at hrec; omega
          have hcl : zcn r3.toNat = "java/lang/String" := by rw [h200]; rfl
          rw [← hcn, hcl]
          obtain ⟨cell, y1, y2, y3, -⟩ := f3.kept S.2.1
          exact ⟨cell, y1, y2, y3⟩
        · rw [g] at hrec; simp only at hrec; omega
        · rw [g] at hrec; simp only at hrec; omega
    obtain ⟨b, hb, recv⟩ := recv
    rw [hb] at stk hM
    have hrun := va_runV (e := ev) (below := below) (meth := meth) (locs := locs) (C := (zy r1).cls) (rest := (st.drop r2).map (zcv B cv)) (As := A.map (zcv B cv)) (b := b) (g := F0 m pc lsc (st.map (zcv B cv))) ⟨C.1, C.2.1, C.2.2.1, C.2.2.2.1, hts⟩ hM ⟨cb, hts _ hm2.1, hts _ hm2.2⟩ ⟨zblind, recv, fun U hU hW => ⟨rfl, by rw [hU]; exact Wd, K.go (by rw [hU]; exact S) hW⟩⟩ rfl (by rw [List.length_map]) hsz (by rw [show (F0 m pc lsc (st.map (zcv B cv))).stack = st.map (zcv B cv) from rfl, stk, List.reverse_cons, List.append_assoc]; rfl) hW8 hd (show cells + (zinfo r1).2.2.1 ≤ R.cells ∧ slots + (zinfo r1).2.2.2 ≤ R.slots from ⟨by omega, by omega⟩)
    refine zcallW hrun S (fun v sh' h' H1 locs1 ho hR hW hS => ?_)
    rw [zpush_map]
    exact hk v sh' h' hR _ _ _ _ _ _ _ _ _ _ _ _ _ _ _ _ C K hW L ll oL (zpush_ok ho orr) hS (show cells + (zinfo r1).2.2.1 + (c - (zinfo r1).2.2.1) ≤ R.cells by omega) (show slots + (zinfo r1).2.2.2 + (sl - (zinfo r1).2.2.2) ≤ R.slots by omega) E
  · exact hrec.elim
end zSh
