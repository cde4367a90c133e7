/-! THE CLAIM OUT OF ONE WALK OF THE LAW'S BODY. Your part is whole_start (and what it stands on); all else here is the same for every law, but numbers. -/
def R_law : String := "LadderLotsLaw"
def lw_P (b : Addr) (xs : List Int32) (args : Array Value) (s : State) : Prop := args = #[.ref b] ∧ s.IntsAt b xs ∧ xs.length ≤ 3072 ∧ (Jvm.Cond.and given_1 narrow_1).before args s = true
def lw_Q (_ : Array Value) (s : State) (o : Outcome) (t : State) : Prop := o = .returned (some (.int 1)) ∧ Framed s o t [] 600000 7302250
def lw_Z (below : List Frame) (a : Array Value) (s : State) : State → Prop := fun t => ∃ o, t.status = .running ∧ Ended t below o ∧ lw_Q a s o t
/-- the law's own end, with 1 on the stack, nothing written that was there before, its room as the claim has it -/
theorem lw_ret {p : Program} {l : Launch} {e : Env} {s : State} {m : MethodId} {below : List Frame} {meth : Method} {c : Code} {b : Nat} (hx : p.tables.exec = Jvm.exec) (hb : c.code = code) (hr : meth.sig.returnType = ret) (hlocks : meth.locks = false) {pc : Nat} {H : Heap} {ls : Array Slot} (hdg : decode code pc = .ok (.ireturn, 1)) : W p l e room_1 s m #[Value.ref b] below meth c H [] 600000 7302250 (lw_Z below #[Value.ref b] s) (F0 m pc ls [.int 1]) := by
  intro T hT X
  obtain ⟨fs, hret, hrun, hended, hW, hframe⟩ := X.leave (v := some (.int 1)) (hlocks := hlocks) (fun h => by rw [hr] at h; cases h)
  have hmeth' : T.vm.method? m = some meth := X.method'
  refine ⟨T.setFrames fs, ?_, .returned (some (.int 1)), hrun, hended, rfl, ⟨_, rfl⟩, hW, hframe⟩
  jvm_step X.here [X.here.top, hx, hb, hdg, hmeth', hr, ret, narrow_b1]
  (try refine ⟨rfl, ?_⟩); (try refine ⟨rfl, ?_⟩)
  first | (intro acts; rw [hret _ acts rfl rfl rfl]) | rw [hret _ _ rfl rfl rfl]
  exact Steps.refl _
/-- what holds at the law's entry: the machine, the code, the tables' words (any of lw_tbl by 'hts w (by decide +kernel)'), the script of L ints xs at the cell b, what the Statement gives of the start (any of its parts by flat_of_before) -/
def lw_At (p : Program) (s : State) (m : MethodId) (meth : Method) (c : Code) (b L : Nat) (xs : Nat → Int32) : Prop :=
  p.tables.exec = Jvm.exec ∧ c.code = code ∧ meth.sig.returnType = ret ∧ c.maxLocals = 4 ∧ s.vm.findClass R_law = some m.cls ∧ (∀ w ∈ lw_tbl, w.before #[Value.ref b] s = true) ∧ va_X b L xs s s.heap ∧ b < s.heap.size ∧ meth.locks = false ∧ (Jvm.Cond.and given_1 narrow_1).before #[Value.ref b] s = true
theorem zstart_K {s : State} {args : Array Value} (hts : ∀ w ∈ lw_tbl, w.before args s = true) (hcw : zCW) : ∃ D : va_G, ∀ (c : Nat) (q : vw_C), vwCl[c]? = some q → u_Kn s q.1 q.2.1 q.2.2 (D.1 c) (D.2 c) := by
  have key : ∀ c : Nat, ∃ x : ClassId × (Nat → Nat), ∀ q : vw_C, vwCl[c]? = some q → u_Kn s q.1 q.2.1 q.2.2 x.1 x.2 := by
    intro c
    cases hv : vwCl[c]? with
    | none => exact ⟨(0, fun _ => 0), fun q hq => by cases hq⟩
    | some t =>
      obtain ⟨CC, T, N⟩ := t
      obtain ⟨w1, -, -, w4, -⟩ := hcw c CC T N hv
      obtain ⟨cC, iS, hk⟩ := u_known (C := CC) (T := T) (N := N) (n := N) hts (fun w hw => zT_in (w1 w hw)) (hts _ (zT_in w4))
      exact ⟨(cC, iS), fun q hq => by cases hq; exact hk⟩
  obtain ⟨x, hx⟩ := Classical.axiomOfChoice key
  exact ⟨(fun c => (x c).1, fun c => (x c).2), fun c q hq => hx c q hq⟩
theorem zmapD (l : List Int) (k : Nat) : (l.map Int32.ofInt).getD k 0 = Int32.ofInt (l.getD k 0) := by
  rw [List.getD_eq_getElem?_getD, List.getElem?_map, List.getD_eq_getElem?_getD]
  cases l[k]? <;> rfl
theorem zstart_A {s : State} {args : Array Value} {ty : FieldType} (h : (Cond.arrayClass ty).before args s = true) (hp : ∀ C, ty ≠ .object C) : ∃ c : ClassId, ArrOfT s c ty ∧ va_RA s c ty := by
  obtain ⟨c, k, comp, h1, h2, h3⟩ := Cond.arrayClass_spec h
  refine ⟨c, fun n z => ⟨fun k h => (by cases h), k, h2, comp, h3⟩, ?_⟩
  cases ty <;> first | exact absurd rfl (hp _) | exact h1
theorem zstart_O {s : State} {args : Array Value} {C : String} (h : (Cond.arrayOver (.object C)).before args s = true) : ∃ c : ClassId, ArrOfT s c (.object C) ∧ va_RA s c (.object C) := by
  obtain ⟨comp, c, k, h1, -, h2, h3, h4⟩ := Cond.arrayOver_spec h
  exact ⟨c, fun n z => ⟨fun k h => (by cases h), k, h2, comp, h3⟩, k, comp, h2, h3, h1, h4⟩
set_option maxRecDepth 100000 in
theorem zstart_t {s : State} {args : Array Value} (hts : ∀ w ∈ lw_tbl, w.before args s = true) : ∃ cA : Nat → ClassId, ∀ (k : Nat) (q : ClassId × FieldType), (ztys cA)[k]? = some q → ArrOfT s q.1 q.2 ∧ va_RA s q.1 q.2 := by
  obtain ⟨c0, h0⟩ := zstart_A (hts (.arrayClass .int) (List.mem_of_getElem? (i := 213) rfl)) (fun C h => by cases h)
  obtain ⟨c1, h1⟩ := zstart_A (hts (.arrayClass .long) (List.mem_of_getElem? (i := 186) rfl)) (fun C h => by cases h)
  obtain ⟨c2, h2⟩ := zstart_A (hts (.arrayClass .short) (List.mem_of_getElem? (i := 169) rfl)) (fun C h => by cases h)
  obtain ⟨c3, h3⟩ := zstart_A (hts (.arrayClass .byte) (List.mem_of_getElem? (i := 533) rfl)) (fun C h => by cases h)
  obtain ⟨c4, h4⟩ := zstart_A (hts (.arrayClass .boolean) (List.mem_of_getElem? (i := 279) rfl)) (fun C h => by cases h)
  obtain ⟨c5, h5⟩ := zstart_O (hts (.arrayOver (.object "LadderLots$Ladder")) (List.mem_of_getElem? (i := 188) rfl))
  refine ⟨fun k => [c0, c1, c2, c3, c4, c5].getD k 0, fun k q hq => ?_⟩
  rcases (show k = 0 ∨ k = 1 ∨ k = 2 ∨ k = 3 ∨ k = 4 ∨ k = 5 ∨ 6 ≤ k by omega) with e | e | e | e | e | e | e
  · subst e; cases hq; exact h0
  · subst e; cases hq; exact h1
  · subst e; cases hq; exact h2
  · subst e; cases hq; exact h3
  · subst e; cases hq; exact h4
  · subst e; cases hq; exact h5
  · rw [List.getElem?_eq_none (by exact e)] at hq; cases hq
abbrev zTF9 : Term := .static "LadderLots$Orders" "FACTORIALS" "[I"
abbrev zTP : Term := .static "LadderLots$BitRows" "PATTERNS" "[J"
abbrev zTS9 (i : Nat) : Term := .string "LadderLots$Tokens" (zstr.getD i (0, "")).1
abbrev zTV (i : Nat) : Term := .field (zTS9 i) "java/lang/String" "value" "[B"
def zG : Cond := Jvm.Cond.and given_1 narrow_1
def zFl : List Cond := flatC zG
set_option maxRecDepth 100000 in
theorem zg_fac : ∀ j, j < 8 → Cond.eq (.elem zTF9 (.int (Int32.ofNat j))) (.int (Int32.ofInt (zFac.getD j 0))) ∈ zFl := by decide +kernel
set_option maxRecDepth 100000 in
theorem zg_pat : ∀ j, j < 7 → Cond.eq (.elem zTP (.int (Int32.ofNat j))) (.long (Int64.ofInt (zPat.getD j 0))) ∈ zFl := by decide +kernel
set_option maxRecDepth 100000 in
theorem zg_mis : Cond.arrayOf zTF9 .int ∈ zFl ∧ Cond.eq (.length zTF9) (.int (Int32.ofNat 8)) ∈ zFl ∧ Cond.arrayOf zTP .long ∈ zFl ∧ Cond.eq (.length zTP) (.int (Int32.ofNat 7)) ∈ zFl ∧ Cond.eq (.static "java/lang/String" "COMPACT_STRINGS" "Z") (.int 1) ∈ zFl ∧ Cond.isRef (.static "jdk/internal/util/Preconditions" "SIOOBE_FORMATTER" "Ljava/util/function/BiFunction;") ∈ zFl := by decide +kernel
def zLenS : List Nat := zStr.map List.length
def zBytS : List (List Int32) := zStr.map (List.map Int32.ofInt)
set_option maxRecDepth 100000 in
theorem zg_s1 : ∀ i, i < 8 → Cond.exactly (zTS9 i) "java/lang/String" ∈ zFl ∧ Cond.eq (.field (zTS9 i) "java/lang/String" "coder" "B") (.int 0) ∈ zFl ∧ Cond.arrayOf (zTV i) .byte ∈ zFl ∧ Cond.eq (.length (zTV i)) (.int (Int32.ofNat (zLenS.getD i 0))) ∈ zFl := by decide +kernel
set_option maxRecDepth 100000 in
theorem zg_s2 : ∀ i, i < 8 → ∀ j, j < zLenS.getD i 0 → Cond.eq (.elem (zTV i) (.int (Int32.ofNat j))) (.int ((zBytS.getD i []).getD j 0)) ∈ zFl := by decide +kernel
set_option maxRecDepth 100000 in
theorem zg_s3 : ∀ i, i < 8 → ∀ j, j < 8 → i ≠ j → Cond.not (Cond.eq (zTS9 i) (zTS9 j)) ∈ zFl ∨ Cond.not (Cond.eq (zTS9 j) (zTS9 i)) ∈ zFl := by decide +kernel
set_option maxRecDepth 100000 in
theorem zg_s4 : ∀ i, i < 8 → Cond.stringRef "LadderLots$Tokens" (zstr.getD i (0, "")).1 (zstr.getD i (0, "")).2 ∈ lw_tbl := by decide +kernel
theorem zg_s5 : ∀ i, i < 8 → zLenS.getD i 0 < 2 ^ 31 := by decide +kernel
set_option maxRecDepth 100000 in
theorem zstart_C {s : State} {b L : Nat} {xs : Nat → Int32} (hts : ∀ w ∈ lw_tbl, w.before #[Value.ref b] s = true) (hX : va_X b L xs s s.heap) (hbl : b < s.heap.size) (hL : L ≤ 3072) (hgv : zG.before #[Value.ref b] s = true) : ∃ cv : Nat → Value, zCF s.heap.size cv ((List.range L).map fun j => (xs j).toInt) s s.heap ∧ cv 1900 = .ref b := by
  have hF := flat_of_before _ hgv
  have hA : ∀ a : Nat, a < s.heap.size → ¬ (fun q : Nat => s.heap.size ≤ q) a := fun a h => Nat.not_le.mpr h
  obtain ⟨m1, m2, m3, m4, m5, m6⟩ := zg_mis
  obtain ⟨tF, f1, f2⟩ := va_Tof (tm := zTF9) (N := 8) (f := fun j => .int (Int32.ofInt (zFac.getD j 0))) (A := fun q => s.heap.size ≤ q) (by decide) (hF _ m1) (va_eqt (hF _ m2)) (fun j hj => va_eqt (hF _ (zg_fac j hj))) hA
  obtain ⟨tP, p1, p2⟩ := va_Tof (tm := zTP) (N := 7) (f := fun j => .long (Int64.ofInt (zPat.getD j 0))) (A := fun q => s.heap.size ≤ q) (by decide) (hF _ m3) (va_eqt (hF _ m4)) (fun j hj => va_eqtl (hF _ (zg_pat j hj))) hA
  have z1 := va_Zof (hts _ (List.mem_of_getElem? (i := 892) rfl)) (hts _ (List.mem_of_getElem? (i := 127) rfl)) f1 hA
  have z2 := va_Zof (hts _ (List.mem_of_getElem? (i := 1406) rfl)) (hts _ (List.mem_of_getElem? (i := 134) rfl)) p1 hA
  have z3 := va_Zof (hts _ (List.mem_of_getElem? (i := 438) rfl)) (hts _ (List.mem_of_getElem? (i := 137) rfl)) (va_eqt (hF _ m5)) hA
  have z4 : ∃ v : Value, (v = .null ∨ ∃ a, v = .ref a) ∧ va_Z "jdk/internal/util/Preconditions" "SIOOBE_FORMATTER" "Ljava/util/function/BiFunction;" v (fun q => s.heap.size ≤ q) s s.heap := by
    rcases va_Zqof (hts _ (List.mem_of_getElem? (i := 454) rfl)) (hts _ (List.mem_of_getElem? (i := 139) rfl)) (hF _ m6) hA with h | ⟨t, h⟩
    · exact ⟨_, Or.inl rfl, h⟩
    · exact ⟨_, Or.inr ⟨t, rfl⟩, h⟩
  obtain ⟨vS, g1, g2⟩ := z4
  obtain ⟨adK, adV, q1, q2⟩ := vk_Sof (N := 8) (tm := zTS9) (len := zLenS) (byt := zBytS) (A := fun q => s.heap.size ≤ q) zg_s5 (fun i hi => hF _ (zg_s1 i hi).1) (fun i hi => hF _ (zg_s1 i hi).2.1) (fun i hi => hF _ (zg_s1 i hi).2.2.1) (fun i hi => hF _ (zg_s1 i hi).2.2.2) (fun i hi j hj => hF _ (zg_s2 i hi j hj))
    (fun i j hi hj hn => (zg_s3 i hi j hj hn).elim (fun z => Or.inl (hF _ z)) (fun z => Or.inr (hF _ z))) hA
  have hXX : ∃ scr : Cell, s.heap[b]? = some scr ∧ s.isArrayOf scr .int ∧ scr.vm ≠ .unknown ∧ scr.slots.size = L ∧ ∀ j : Nat, j < L → scr.slots[j]? = some (.int (xs j)) := hX
  obtain ⟨scr, x1, x2, x3, x4, x5⟩ := hXX
  refine ⟨fun k => if k = 1000 then .ref tF else if k = 1001 then .ref tP else if k = 1002 then vS else if k = 1900 then .ref b else if k < 1200 then .ref (adK (k - 1100)) else .ref (adV (k - 1200)), ?_, rfl⟩
  refine ⟨⟨tF, rfl, z1, f2⟩, ⟨tP, rfl, z2, p2⟩, ⟨b, rfl, scr, x1, x2, x3, by simp [x4], by simp [x4], fun j hj => ?_, hA b hbl⟩, g2, z3, fun j hj => ?_, fun k => ?_, fun j => ?_, by simp; exact hL, va_AO.of (hts _ (List.mem_of_getElem? (i := 188) rfl))⟩
  · have hj : j < L := by simpa using hj
    rw [x5 j hj]
    simp [hj, Int32.ofInt_toInt]
  · have hq := q1.1 j hj
    refine ⟨adK j, adV j, ?_, ?_, hq.1, hq.2.1, hq.2.2.1, ?_, vk_R.of (hts _ (zg_s4 j hj)) (q2 j hj)⟩
    · show (if 1100 + j = 1000 then _ else _) = _
      rw [if_neg (by omega), if_neg (by omega), if_neg (by omega), if_neg (by omega), if_pos (by omega), show 1100 + j - 1100 = j by omega]
    · show (if 1200 + j = 1000 then _ else _) = _
      rw [if_neg (by omega), if_neg (by omega), if_neg (by omega), if_neg (by omega), if_neg (by omega), show 1200 + j - 1200 = j by omega]
    · have h6 := hq.2.2.2
      have e1 : zLenS.getD j 0 = (zStr.getD j []).length := by
        rcases (show j = 0 ∨ j = 1 ∨ j = 2 ∨ j = 3 ∨ j = 4 ∨ j = 5 ∨ j = 6 ∨ j = 7 by omega) with e | e | e | e | e | e | e | e <;> subst e <;> rfl
      have e2 : (fun k => Value.int ((zBytS.getD j []).getD k 0)) = fun k => Value.int (Int32.ofInt ((zStr.getD j []).getD k 0)) := by
        funext k
        have e3 : zBytS.getD j [] = (zStr.getD j []).map Int32.ofInt := by
          rcases (show j = 0 ∨ j = 1 ∨ j = 2 ∨ j = 3 ∨ j = 4 ∨ j = 5 ∨ j = 6 ∨ j = 7 by omega) with e | e | e | e | e | e | e | e <;> subst e <;> rfl
        rw [e3]
        exact congrArg Value.int (zmapD _ _)
      rw [e1, e2] at h6
      exact h6
  · show (if k = 1000 then Value.ref tF else _) = .null ∨ ∃ a, (if k = 1000 then Value.ref tF else _) = .ref a
    repeat' split
    all_goals first | exact Or.inr ⟨_, rfl⟩ | exact g1
  · rw [List.getD_eq_getElem?_getD, List.getElem?_map]
    cases h9 : (List.range L)[j]? with
    | none => exact z32_0
    | some y => exact z32_i (xs y)
set_option maxRecDepth 100000 in
theorem whole_of (F : zFacts) (main : ∀ X : List Int, X.length ≤ 3072 → (∀ j, z32 (X.getD j 0)) → zAt X 342 0 600000 7302250 [some (zR 1900), none, none, none] [] [] (fun _ _ => 0) (fun v _ _ => v = some (zI 1)))
    {p : Program} {e : Env} {s : State} {m : MethodId} {below : List Frame} {meth : Method} {c : Code} (l : Launch) {b L : Nat} {xs : Nat → Int32} (hL : L ≤ 3072) (C0 : lw_At p s m meth c b L xs) : W p l e room_1 s m #[Value.ref b] below meth c s.heap [] 0 0 (lw_Z below #[Value.ref b] s) (entryFrame m ([Value.ref b] : List Value).toArray 4) := by
  obtain ⟨hx, hb, hr, hml, hown, hts, hX, hbl, hlocks, hgv⟩ := id C0
  obtain ⟨D, hD⟩ := zstart_K hts F.2.2.2.1
  obtain ⟨cA, hcA⟩ := zstart_t hts
  obtain ⟨cv, hC, hcv⟩ := zstart_C hts hX hbl hL hgv
  generalize hXX : (List.range L).map (fun j => (xs j).toInt) = X at hC
  have hXl : X.length ≤ 3072 := hC.2.2.2.2.2.2.2.2.1
  have at0 := zsound (D := D) (B := s.heap.size) (cv := cv) (cA := cA) F (main X hXl hC.2.2.2.2.2.2.2.1)
  have hl := lv_entry ([.ref b]) (n := 4) (Nat.le_of_ble_eq_true rfl)
  rw [lg_entry_eq]
  generalize (lg_sl ([.ref b]) ++ List.replicate (4 - (lg_sl ([.ref b])).length) Slot.unset).toArray = lsc at hl ⊢
  have L0 : zLR s.heap.size cv [some (zR 1900), none, none, none] lsc := by
    refine ⟨hl.1, hl.2.1, fun q hq => ?_⟩
    obtain ⟨v, e1, e2⟩ := zll_mem.mp hq
    rw [e2]
    have hl0 := hl.2.2 (0, .ref b) (by exact List.mem_cons_self)
    rcases hq1 : q.1 with _ | _ | _ | _ | k <;> rw [hq1] at e1
    · cases e1
      rw [show zcv s.heap.size cv (zR 1900) = .ref b from hcv]
      exact hl0
    all_goals (simp at e1)
  refine at0 p l e room_1 s m _ below meth c s.heap [] 0 0 lsc _ ⟨hx, hb, hml, hown, fun w hw => hts w (zT_in hw), (fun hz => absurd hz (by decide)), ⟨Nat.le_refl _, Nat.le_refl _⟩, Nat.le_refl _⟩ ⟨⟨hD, hcA⟩, hC⟩ ⟨rfl, (fun k q h => by simp [zws] at h), (fun k hk => absurd hk (Nat.not_lt_zero _)), Nat.zero_le _⟩ L0 rfl (fun v hv => by simp at hv; subst hv; trivial) (fun v hv => by cases hv) va_S.rf (Nat.le_of_ble_eq_true rfl) (Nat.le_of_ble_eq_true rfl) ?_
  · intro pc ins v sh h H locs cells slots ls2 hd hv ho hQ hW hS h1 h2
    subst hQ
    have hi : ins = .ireturn := by
      unfold zrv at hv
      split at hv
      · rfl
      · rename_i hz; cases hz
      · rename_i hz; cases hz
      · rename_i hz; cases hz
      · exact hv.elim
    subst hi
    refine W.widen h1 h2 ?_
    refine va_forget (fun q hq => hS.2.2 q hq) ?_
    exact lw_ret hx hb hr hlocks hd
