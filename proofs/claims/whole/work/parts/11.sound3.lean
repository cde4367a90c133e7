/-! THE RULES HOLD OF THE MACHINE: objects, new cells, what is left -/
section zSf
variable {D : va_G} {B : Nat} {cv : Nat → Value} {cA : Nat → ClassId} {X : List Int}
variable {i pc c sl n r1 r2 : Nat} {r3 : Int} {ls : zLL} {st : List zAV} {sh : zSH} {h : zHP} {Q : zPO}
theorem zrow_o {t m : Nat} {f : Nat → Int} (ht : 16 ≤ t) : zrow B cv cA (t, m) f = .inr (t - 16, (List.range m).map (fun j => zfv B cv (zft (t - 16) j) (f j))) := by
  rcases t with _ | _ | _ | _ | _ | _ | t <;> first | omega | rfl
theorem zokc_o {t j : Nat} {x : Int} (ht : 16 ≤ t) : zokc t j x = (match zft (t - 16) j with | 0 => z32 x | 1 => z64 x | _ => -1 ≤ x) := by
  rcases t with _ | _ | _ | _ | _ | _ | t <;> first | omega | rfl
theorem zcl13 {r1 : Nat} (h : r1 < 13) : ∃ C T N, vwCl[r1]? = some (C, T, N) := by
  have hl : r1 < vwCl.length := h
  exact ⟨vwCl[r1].1, vwCl[r1].2.1, vwCl[r1].2.2, by rw [List.getElem?_eq_getElem hl]⟩

theorem zCk_t0 {j k : Nat} (hj : j < 8) (hk : k ≠ 0) : zCk X (1100 + j) k = 0 := by
  have e : Nat.beq k 0 = false := by rw [← Bool.not_eq_true]; exact fun z => hk (Nat.eq_of_beq_eq_true z)
  rcases (show j = 0 ∨ j = 1 ∨ j = 2 ∨ j = 3 ∨ j = 4 ∨ j = 5 ∨ j = 6 ∨ j = 7 by omega) with e1 | e1 | e1 | e1 | e1 | e1 | e1 | e1 <;> subst e1 <;> (unfold zCk; rw [e]; rfl)
theorem zcat_r {x : Option Nat} (cvv : ∀ k, cv k = .null ∨ ∃ a, cv k = .ref a) : (zcv B cv (.inr (.inr x))).category = 1 := by
  rcases zcvR (B := B) (x := x) cvv with e | ⟨a, e⟩ <;> rw [e] <;> rfl
theorem zs_ifnull {o : Int} (ht : (pc : Int) + o = (r1 : Int)) (hd : decode (zb i) pc = .ok (.ifnull o, 3)) (q : zIfN (zSnd D B cv cA X) i pc c sl ls st sh h Q 3 r1) : zSnd D B cv cA X i pc c sl ls st sh h Q := by
  intro p l ev R s m args below meth cd H locs cells slots lsc QQ C K Wd L ll oL oS S b1 b2 E
  unfold zIfN at q
  split at q
  · rename_i k r
    obtain ⟨ha, q⟩ := q
    rw [List.map_cons, show zcv B cv (.inr (.inr (some k))) = .ref (B + k) from zcr_lo ha]
    refine lv_ifnull C.1 C.2.1 hd ?_
    exact q _ _ _ _ _ _ _ _ _ _ _ _ _ _ _ _ C K Wd L ll oL oS.t S b1 b2 E
  · refine lv_ifnullN C.1 C.2.1 hd ht ?_
    exact q _ _ _ _ _ _ _ _ _ _ _ _ _ _ _ _ C K Wd L ll oL oS.t S b1 b2 E
  · exact q.elim
theorem zs_ifnonnull {o : Int} (ht : (pc : Int) + o = (r1 : Int)) (hd : decode (zb i) pc = .ok (.ifnonnull o, 3)) (q : zIfNN (zSnd D B cv cA X) i pc c sl ls st sh h Q 3 r1) : zSnd D B cv cA X i pc c sl ls st sh h Q := by
  intro p l ev R s m args below meth cd H locs cells slots lsc QQ C K Wd L ll oL oS S b1 b2 E
  unfold zIfNN at q
  split at q
  · rename_i k r
    obtain ⟨ha, q⟩ := q
    rw [List.map_cons, show zcv B cv (.inr (.inr (some k))) = .ref (B + k) from zcr_lo ha]
    refine lv_ifnonnull C.1 C.2.1 hd ht ?_
    exact q _ _ _ _ _ _ _ _ _ _ _ _ _ _ _ _ C K Wd L ll oL oS.t S b1 b2 E
  · refine lv_ifnonnullN C.1 C.2.1 hd ?_
    exact q _ _ _ _ _ _ _ _ _ _ _ _ _ _ _ _ C K Wd L ll oL oS.t S b1 b2 E
  · exact q.elim
theorem zsm_rf {x : Option Nat} (h : zsm x) : zcv B cv (.inr (.inr x)) = va_rf (x.map (B + ·)) := by
  cases x with
  | none => rfl
  | some k => exact zcr_lo h
theorem zsm_eq {x y : Option Nat} : x.map (B + ·) = y.map (B + ·) ↔ x = y := by
  cases x <;> cases y <;> simp
theorem zs_acmp_eq {o : Int} (ht : (pc : Int) + o = (r1 : Int)) (hd : decode (zb i) pc = .ok (.if_acmp .eq o, 3)) (q : zIfA (zSnd D B cv cA X) i pc c sl ls st sh h Q 3 r1 .eq) : zSnd D B cv cA X i pc c sl ls st sh h Q := by
  intro p l ev R s m args below meth cd H locs cells slots lsc QQ C K Wd L ll oL oS S b1 b2 E
  unfold zIfA at q
  split at q
  · rename_i y x r
    obtain ⟨hx, hy, q⟩ := q
    rw [List.map_cons, List.map_cons, zsm_rf hx, zsm_rf hy]
    refine lv_acmp_eq C.1 C.2.1 hd ht (fun g => ?_) (fun g => ?_)
    · exact q.1 (zsm_eq.mp g) _ _ _ _ _ _ _ _ _ _ _ _ _ _ _ _ C K Wd L ll oL oS.t.t S b1 b2 E
    · exact q.2 (fun w => g (zsm_eq.mpr w)) _ _ _ _ _ _ _ _ _ _ _ _ _ _ _ _ C K Wd L ll oL oS.t.t S b1 b2 E
  · exact q.elim
theorem zs_acmp_ne {o : Int} (ht : (pc : Int) + o = (r1 : Int)) (hd : decode (zb i) pc = .ok (.if_acmp .ne o, 3)) (q : zIfA (zSnd D B cv cA X) i pc c sl ls st sh h Q 3 r1 .ne) : zSnd D B cv cA X i pc c sl ls st sh h Q := by
  intro p l ev R s m args below meth cd H locs cells slots lsc QQ C K Wd L ll oL oS S b1 b2 E
  unfold zIfA at q
  split at q
  · rename_i y x r
    obtain ⟨hx, hy, q⟩ := q
    rw [List.map_cons, List.map_cons, zsm_rf hx, zsm_rf hy]
    refine lv_acmp_ne C.1 C.2.1 hd ht (fun g => ?_) (fun g => ?_)
    · exact q.1 (fun w => g (zsm_eq.mpr w)) _ _ _ _ _ _ _ _ _ _ _ _ _ _ _ _ C K Wd L ll oL oS.t.t S b1 b2 E
    · exact q.2 (zsm_eq.mp g) _ _ _ _ _ _ _ _ _ _ _ _ _ _ _ _ C K Wd L ll oL oS.t.t S b1 b2 E
  · exact q.elim
theorem zs_tab {d lo hi : Int} {os : Array Int} (hd : decode (zb i) pc = .ok (.tableswitch d lo hi os, n)) (q : zTab (zSnd D B cv cA X) i pc c sl ls st sh h Q d lo hi os) : zSnd D B cv cA X i pc c sl ls st sh h Q := by
  intro p l ev R s m args below meth cd H locs cells slots lsc QQ C K Wd L ll oL oS S b1 b2 E
  unfold zTab at q
  split at q
  · rename_i x r
    by_cases g : x < lo ∨ hi < x
    · obtain ⟨g1, q⟩ := q.1 g
      refine lv_tableOut C.1 C.2.1 (x := Int32.ofInt x) (tgt := ((pc : Int) + d).toNat) hd (by rw [zi_to oS.h]; exact g) (by omega) ?_
      exact q _ _ _ _ _ _ _ _ _ _ _ _ _ _ _ _ C K Wd L ll oL oS.t S b1 b2 E
    · obtain ⟨o, g1, g2, q⟩ := q.2 (by omega) (by omega)
      refine lv_tableIn C.1 C.2.1 (x := Int32.ofInt x) (off := o) (tgt := ((pc : Int) + o).toNat) hd (by rw [zi_to oS.h]; omega) (by rw [zi_to oS.h]; omega) (by rw [zi_to oS.h]; exact g1) (by omega) ?_
      exact q _ _ _ _ _ _ _ _ _ _ _ _ _ _ _ _ C K Wd L ll oL oS.t S b1 b2 E
  · exact q.elim
theorem zs_look {d : Int} {ps : Array (Int × Int)} (hp : (ps.toList.zip (ps.toList.drop 1)).all (fun (a, next) => a.1 < next.1) = true) (hd : decode (zb i) pc = .ok (.lookupswitch d ps, n)) (q : zLook (zSnd D B cv cA X) i pc c sl ls st sh h Q d ps) : zSnd D B cv cA X i pc c sl ls st sh h Q := by
  intro p l ev R s m args below meth cd H locs cells slots lsc QQ C K Wd L ll oL oS S b1 b2 E
  unfold zLook at q
  split at q
  · rename_i x r
    obtain ⟨g1, q⟩ := q
    refine lv_lookup C.1 C.2.1 (x := Int32.ofInt x) (off := Op.lookupswitch.offset ps.toList d x) (tgt := ((pc : Int) + Op.lookupswitch.offset ps.toList d x).toNat) hd hp (by rw [zi_to oS.h]) (by omega) ?_
    exact q _ _ _ _ _ _ _ _ _ _ _ _ _ _ _ _ C K Wd L ll oL oS.t S b1 b2 E
  · exact q.elim
theorem zs_dup (hd : decode (zb i) pc = .ok (.dup, 1)) (q : zDup (zSnd D B cv cA X) i pc c sl ls st sh h Q 1) : zSnd D B cv cA X i pc c sl ls st sh h Q := by
  intro p l ev R s m args below meth cd H locs cells slots lsc QQ C K Wd L ll oL oS S b1 b2 E
  unfold zDup at q
  split at q
  · rename_i x r
    refine lv_dup C.1 C.2.1 hd rfl ?_
    exact q _ _ _ _ _ _ _ _ _ _ _ _ _ _ _ _ C K Wd L ll oL (zokS.c oS.h oS) S b1 b2 E
  · rename_i x r
    refine lv_dup C.1 C.2.1 hd (zcat_r K.cvv) ?_
    exact q _ _ _ _ _ _ _ _ _ _ _ _ _ _ _ _ C K Wd L ll oL (zokS.c (v := .inr (.inr x)) trivial oS) S b1 b2 E
  · exact q.elim
theorem zs_dup2 (hd : decode (zb i) pc = .ok (.dup2, 1)) (q : zDup2 (zSnd D B cv cA X) i pc c sl ls st sh h Q 1) : zSnd D B cv cA X i pc c sl ls st sh h Q := by
  intro p l ev R s m args below meth cd H locs cells slots lsc QQ C K Wd L ll oL oS S b1 b2 E
  unfold zDup2 at q
  split at q
  · refine lv_dup2_11 C.1 C.2.1 hd rfl rfl ?_
    exact q _ _ _ _ _ _ _ _ _ _ _ _ _ _ _ _ C K Wd L ll oL (zokS.c oS.h (zokS.c oS.t.h oS)) S b1 b2 E
  · refine lv_dup2_11 C.1 C.2.1 hd rfl (zcat_r K.cvv) ?_
    exact q _ _ _ _ _ _ _ _ _ _ _ _ _ _ _ _ C K Wd L ll oL (zokS.c oS.h (zokS.c oS.t.h oS)) S b1 b2 E
  · refine lv_dup2_2 C.1 C.2.1 hd rfl ?_
    exact q _ _ _ _ _ _ _ _ _ _ _ _ _ _ _ _ C K Wd L ll oL (zokS.c oS.h oS) S b1 b2 E
  · exact q.elim
theorem zs_pop (hd : decode (zb i) pc = .ok (.pop, 1)) (q : zPop (zSnd D B cv cA X) i pc c sl ls st sh h Q 1) : zSnd D B cv cA X i pc c sl ls st sh h Q := by
  intro p l ev R s m args below meth cd H locs cells slots lsc QQ C K Wd L ll oL oS S b1 b2 E
  unfold zPop at q
  split at q
  · refine lv_pop C.1 C.2.1 hd rfl ?_
    exact q _ _ _ _ _ _ _ _ _ _ _ _ _ _ _ _ C K Wd L ll oL oS.t S b1 b2 E
  · refine lv_pop C.1 C.2.1 hd (zcat_r K.cvv) ?_
    exact q _ _ _ _ _ _ _ _ _ _ _ _ _ _ _ _ C K Wd L ll oL oS.t S b1 b2 E
  · exact q.elim
theorem zs_ldc0 {k : Nat} (hw : Cond.constant (zy i).cls k (Int32.ofInt r3) ∈ zT) (h3 : z32 r3) (hd : decode (zb i) pc = .ok (.ldc k, 2)) (q : zPush (zSnd D B cv cA X) i pc c sl ls st sh h Q 2 (.inl r3)) : zSnd D B cv cA X i pc c sl ls st sh h Q := by
  intro p l ev R s m args below meth cd H locs cells slots lsc QQ C K Wd L ll oL oS S b1 b2 E
  refine lv_ldc C.1 C.2.1 C.2.2.2.1 (C.2.2.2.2.1 _ hw) hd ?_
  exact q _ _ _ _ _ _ _ _ _ _ _ _ _ _ _ _ C K Wd L ll oL (zokS.c (v := .inl r3) h3 oS) S b1 b2 E
theorem zs_ldcw {k : Nat} (hw : Cond.constant (zy i).cls k (Int32.ofInt r3) ∈ zT) (h3 : z32 r3) (hd : decode (zb i) pc = .ok (.ldc_w k, 3)) (q : zPush (zSnd D B cv cA X) i pc c sl ls st sh h Q 3 (.inl r3)) : zSnd D B cv cA X i pc c sl ls st sh h Q := by
  intro p l ev R s m args below meth cd H locs cells slots lsc QQ C K Wd L ll oL oS S b1 b2 E
  refine lv_ldcw C.1 C.2.1 C.2.2.2.1 (C.2.2.2.2.1 _ hw) hd ?_
  exact q _ _ _ _ _ _ _ _ _ _ _ _ _ _ _ _ C K Wd L ll oL (zokS.c (v := .inl r3) h3 oS) S b1 b2 E
theorem zs_ldc2 {k : Nat} (hw : Cond.constantLong (zy i).cls k (Int64.ofInt r3) ∈ zT) (h3 : z64 r3) (hd : decode (zb i) pc = .ok (.ldc2_w k, 3)) (q : zPush (zSnd D B cv cA X) i pc c sl ls st sh h Q 3 (.inr (.inl r3))) : zSnd D B cv cA X i pc c sl ls st sh h Q := by
  intro p l ev R s m args below meth cd H locs cells slots lsc QQ C K Wd L ll oL oS S b1 b2 E
  refine lv_ldc2 C.1 C.2.1 C.2.2.2.1 (C.2.2.2.2.1 _ hw) hd ?_
  exact q _ _ _ _ _ _ _ _ _ _ _ _ _ _ _ _ C K Wd L ll oL (zokS.c (v := .inr (.inl r3)) h3 oS) S b1 b2 E
theorem zs_ldcs {k : Nat} (ho : (zy i).cls = "LadderLots$Tokens") (h1 : 1100 ≤ r2) (h2 : r2 < 1108) (hk : (zstr.getD (r2 - 1100) (0, "")).1 = k) (hd : decode (zb i) pc = .ok (.ldc k, 2)) (q : zPush (zSnd D B cv cA X) i pc c sl ls st sh h Q 2 (.inr (.inr (some r2)))) : zSnd D B cv cA X i pc c sl ls st sh h Q := by
  intro p l ev R s m args below meth cd H locs cells slots lsc QQ C K Wd L ll oL oS S b1 b2 E
  obtain ⟨t, u, f1, -, -, -, -, -, f7⟩ := K.2.2.2.2.2.2.1 (r2 - 1100) (by omega)
  have hown := C.2.2.2.1
  have e5 : 1100 + (r2 - 1100) = r2 := by omega
  rw [e5] at f1
  rw [ho] at hown
  rw [hk] at f7
  have k2 := q _ _ _ _ _ _ _ _ _ _ _ _ _ _ _ _ C K Wd L ll oL (zokS.c (v := .inr (.inr (some r2))) trivial oS) S b1 b2 E
  rw [List.map_cons, show zcv B cv (.inr (.inr (some r2))) = .ref t from (zcr_hi (by omega)).trans f1] at k2
  exact va_ldcS C.1 C.2.1 hown f7 hd k2
theorem zs_gs0 {k : Nat} (hw : Cond.fieldLink (zy i).cls k "java/lang/String" "COMPACT_STRINGS" "Z" ∈ zT) (hd : decode (zb i) pc = .ok (.getstatic k, 3)) (q : zPush (zSnd D B cv cA X) i pc c sl ls st sh h Q 3 (.inl 1)) : zSnd D B cv cA X i pc c sl ls st sh h Q := by
  intro p l ev R s m args below meth cd H locs cells slots lsc QQ C K Wd L ll oL oS S b1 b2 E
  refine va_gets C.1 C.2.1 K.2.2.2.2.2.1 S C.2.2.2.1 (C.2.2.2.2.1 _ hw) (fun _ z => z) hd ?_
  exact q _ _ _ _ _ _ _ _ _ _ _ _ _ _ _ _ C K Wd L ll oL (zokS.c (v := .inl 1) ⟨by decide, by decide⟩ oS) S b1 b2 E
theorem zs_gs1 {k : Nat} (hw : Cond.fieldLink (zy i).cls k "LadderLots$Orders" "FACTORIALS" "[I" ∈ zT) (hd : decode (zb i) pc = .ok (.getstatic k, 3)) (q : zPush (zSnd D B cv cA X) i pc c sl ls st sh h Q 3 (.inr (.inr (some 1000)))) : zSnd D B cv cA X i pc c sl ls st sh h Q := by
  intro p l ev R s m args below meth cd H locs cells slots lsc QQ C K Wd L ll oL oS S b1 b2 E
  obtain ⟨t, f1, f2, -⟩ := K.2.1
  have k2 := q _ _ _ _ _ _ _ _ _ _ _ _ _ _ _ _ C K Wd L ll oL (zokS.c (v := .inr (.inr (some 1000))) trivial oS) S b1 b2 E
  rw [List.map_cons, show zcv B cv (.inr (.inr (some 1000))) = .ref t from f1] at k2
  exact va_gets C.1 C.2.1 f2 S C.2.2.2.1 (C.2.2.2.2.1 _ hw) (fun _ z => z) hd k2
theorem zs_gs2 {k : Nat} (hw : Cond.fieldLink (zy i).cls k "LadderLots$BitRows" "PATTERNS" "[J" ∈ zT) (hd : decode (zb i) pc = .ok (.getstatic k, 3)) (q : zPush (zSnd D B cv cA X) i pc c sl ls st sh h Q 3 (.inr (.inr (some 1001)))) : zSnd D B cv cA X i pc c sl ls st sh h Q := by
  intro p l ev R s m args below meth cd H locs cells slots lsc QQ C K Wd L ll oL oS S b1 b2 E
  obtain ⟨t, f1, f2, -⟩ := K.2.2.1
  have k2 := q _ _ _ _ _ _ _ _ _ _ _ _ _ _ _ _ C K Wd L ll oL (zokS.c (v := .inr (.inr (some 1001))) trivial oS) S b1 b2 E
  rw [List.map_cons, show zcv B cv (.inr (.inr (some 1001))) = .ref t from f1] at k2
  exact va_gets C.1 C.2.1 f2 S C.2.2.2.1 (C.2.2.2.2.1 _ hw) (fun _ z => z) hd k2
theorem zs_gs3 {k : Nat} (hw : Cond.fieldLink (zy i).cls k "jdk/internal/util/Preconditions" "SIOOBE_FORMATTER" "Ljava/util/function/BiFunction;" ∈ zT) (hd : decode (zb i) pc = .ok (.getstatic k, 3)) (q : zPush (zSnd D B cv cA X) i pc c sl ls st sh h Q 3 (.inr (.inr (some 1002)))) : zSnd D B cv cA X i pc c sl ls st sh h Q := by
  intro p l ev R s m args below meth cd H locs cells slots lsc QQ C K Wd L ll oL oS S b1 b2 E
  have k2 := q _ _ _ _ _ _ _ _ _ _ _ _ _ _ _ _ C K Wd L ll oL (zokS.c (v := .inr (.inr (some 1002))) trivial oS) S b1 b2 E
  exact va_gets C.1 C.2.1 K.2.2.2.2.1 S C.2.2.2.1 (C.2.2.2.2.1 _ hw) (fun _ z => z) hd k2
theorem zs_alen (hd : decode (zb i) pc = .ok (.arraylength, 1)) (q : zLen X (zSnd D B cv cA X) i pc c sl ls st sh h Q 1) : zSnd D B cv cA X i pc c sl ls st sh h Q := by
  intro p l ev R s m args below meth cd H locs cells slots lsc QQ C K Wd L ll oL oS S b1 b2 E
  unfold zLen at q
  split at q
  · rename_i a r
    obtain ⟨ht, q⟩ := q
    by_cases ha : a < 1000
    · obtain ⟨hl, e⟩ := zlo (X := X) (sh := sh) (t := (zsh X sh a).1) ha rfl (fun z => by rw [z] at ht; omega)
      have h6 := (Wd.ok hl e).1.1
      have k2 := q _ _ _ _ _ _ _ _ _ _ _ _ _ _ _ _ C K Wd L ll oL (zokS.c (v := .inl _) ⟨by omega, by omega⟩ oS.t) S b1 b2 E
      rw [List.map_cons, show zcv B cv (.inr (.inr (some a))) = .ref (B + a) from zcr_lo ha]
      have g := Wd.at hl e
      rcases (show (zsh X sh a).1 = 0 ∨ (zsh X sh a).1 = 1 ∨ (zsh X sh a).1 = 2 ∨ (zsh X sh a).1 = 3 ∨ (zsh X sh a).1 = 4 ∨ (zsh X sh a).1 = 5 by omega) with y | y | y | y | y | y <;> rw [y] at g
      · exact va_alen C.1 C.2.1 K.1 Wd.2.1 a 0 g rfl (zi_nat (by omega)) hd k2
      · exact va_alen C.1 C.2.1 K.1 Wd.2.1 a 1 g rfl (zi_nat (by omega)) hd k2
      · exact va_alen C.1 C.2.1 K.1 Wd.2.1 a 2 g rfl (zi_nat (by omega)) hd k2
      · exact va_alen C.1 C.2.1 K.1 Wd.2.1 a 3 g rfl (zi_nat (by omega)) hd k2
      · exact va_alen C.1 C.2.1 K.1 Wd.2.1 a 4 g rfl (zi_nat (by omega)) hd k2
      · exact va_alen C.1 C.2.1 K.1 Wd.2.1 a 5 g rfl (zi_nat (by omega)) hd k2
    · rcases zhi (X := X) (sh := sh) ha with ⟨e, g⟩ | ⟨e, g⟩ | ⟨e, g⟩ | ⟨j, -, e, g⟩ | ⟨j, hj, e, g⟩ | g
      · obtain ⟨t, f1, -, f3⟩ := K.2.1
        rw [g] at q
        subst e
        have k2 := q _ _ _ _ _ _ _ _ _ _ _ _ _ _ _ _ C K Wd L ll oL (zokS.c (v := .inl _) ⟨by decide, by decide⟩ oS.t) S b1 b2 E
        rw [List.map_cons, show zcv B cv (.inr (.inr (some 1000))) = .ref t from f1]
        exact va_tlen C.1 C.2.1 f3 S (zi_nat (by omega)) hd k2
      · obtain ⟨t, f1, -, f3⟩ := K.2.2.1
        rw [g] at q
        subst e
        have k2 := q _ _ _ _ _ _ _ _ _ _ _ _ _ _ _ _ C K Wd L ll oL (zokS.c (v := .inl _) ⟨by decide, by decide⟩ oS.t) S b1 b2 E
        rw [List.map_cons, show zcv B cv (.inr (.inr (some 1001))) = .ref t from f1]
        exact va_tlen C.1 C.2.1 f3 S (zi_nat (by omega)) hd k2
      · obtain ⟨t, f1, f3⟩ := K.2.2.2.1
        rw [g] at q
        subst e
        have hX := K.2.2.2.2.2.2.2.2.2.1
        have k2 := q _ _ _ _ _ _ _ _ _ _ _ _ _ _ _ _ C K Wd L ll oL (zokS.c (v := .inl _) ⟨by omega, by omega⟩ oS.t) S b1 b2 E
        rw [List.map_cons, show zcv B cv (.inr (.inr (some 1900))) = .ref t from f1]
        exact va_tlen C.1 C.2.1 f3 S (zi_nat (by omega)) hd k2
      · rw [g] at ht; omega
      · obtain ⟨t, u, -, f2, -, -, -, f6, -⟩ := K.2.2.2.2.2.2.1 j hj
        rw [g] at q
        subst e
        have hs : (zStr.getD j []).length < 100 := by
          rcases (show j = 0 ∨ j = 1 ∨ j = 2 ∨ j = 3 ∨ j = 4 ∨ j = 5 ∨ j = 6 ∨ j = 7 by omega) with e | e | e | e | e | e | e | e <;> subst e <;> decide
        have k2 := q _ _ _ _ _ _ _ _ _ _ _ _ _ _ _ _ C K Wd L ll oL (zokS.c (v := .inl _) ⟨by omega, by omega⟩ oS.t) S b1 b2 E
        rw [List.map_cons, show zcv B cv (.inr (.inr (some (1200 + j)))) = .ref u from (zcr_hi ha).trans f2]
        exact va_tlen C.1 C.2.1 f6 S (zi_nat (by omega)) hd k2
      · rw [g] at ht; omega
  · exact q.elim
theorem zfv_ok {t : Nat} {x : Int} (cvv : ∀ k, cv k = .null ∨ ∃ a, cv k = .ref a) {ty : FieldType} (h : ztc ty (t : Int) = true) : narrow ty (zfv B cv t x) = zfv B cv t x ∧ fits ty (zfv B cv t x) = true := by
  rcases t with _ | _ | t
  · cases ty <;> simp [ztc] at h <;> exact ⟨rfl, rfl⟩
  · cases ty <;> simp [ztc] at h <;> exact ⟨rfl, rfl⟩
  · have e : zfv B cv (t + 2) x = .null ∨ ∃ a, zfv B cv (t + 2) x = .ref a := by
      show (if x < 0 then Value.null else zcr B cv x.toNat) = .null ∨ ∃ a, (if x < 0 then Value.null else zcr B cv x.toNat) = .ref a
      by_cases hx : x < 0
      · rw [if_pos hx]; exact Or.inl rfl
      · rw [if_neg hx]; exact zcvR (x := some x.toNat) cvv
    rcases e with e | ⟨a, e⟩ <;> rw [e] <;> cases ty <;> simp [ztc] at h <;> first | exact ⟨rfl, rfl⟩ | omega
theorem zs_getfield {k : Nat} (hcw : zCW) (hf : zfl i k r1 r2 r3 = true) (hwd : ∀ w, zword i k = some w → goodWord w = true → w ∈ zT) (hd : decode (zb i) pc = .ok (.getfield k, 3)) (q : zGet X (zSnd D B cv cA X) i pc c sl ls st sh h Q 3 r1 r2 r3) : zSnd D B cv cA X i pc c sl ls st sh h Q := by
  intro p l ev R s m args below meth cd H locs cells slots lsc QQ C K Wd L ll oL oS S b1 b2 E
  unfold zGet at q
  split at q
  · rename_i o r
    obtain ⟨ht, q⟩ := q
    have h83 : r1 ≠ 83 := fun z => by rw [z] at hf; exact absurd hf (by rw [show zfl i k 83 r2 r3 = false from rfl]; decide)
    by_cases ha : o < 1000
    · obtain ⟨hl, e⟩ := zlo ha ht (by omega)
      have ok := Wd.ok hl e
      obtain ⟨g1, g2⟩ := ok.1.2 (by omega)
      rw [show 16 + r1 - 16 = r1 by omega] at g2
      obtain ⟨CC, T, N, hc⟩ := zcl13 (r1 := r1) (by omega)
      obtain ⟨w1, w2, w3, w4, w5, w6, w7, w8⟩ := hcw r1 CC T N hc
      have hz : Nat.beq r1 200 = false := by rw [← Bool.not_eq_true]; exact fun z => by have := Nat.eq_of_beq_eq_true z; omega
      unfold zfl at hf
      rw [hz, cond_false, hc] at hf
      simp only [Bool.and_eq_true, decide_eq_true_eq] at hf
      obtain ⟨⟨⟨f1, f2⟩, f3⟩, f4⟩ := hf
      have hw := hwd _ f2 rfl
      rw [List.map_cons, show zcv B cv (.inr (.inr (some o))) = .ref (B + o) from zcr_lo ha]
      have he := Wd.at hl e
      rw [zrow_o (by omega), show 16 + r1 - 16 = r1 by omega] at he
      have okk := ok.2 r2
      rw [zokc_o (by omega), show 16 + r1 - 16 = r1 by omega] at okk
      refine va_get C.1 C.2.1 C.2.2.2.2.1 w1 C.2.2.2.1 K.1 Wd.2.1 o he hc r2 f1 (C.2.2.2.2.1 _ hw) (fun _ z => z) (v := zfv B cv (zft r1 r2) (h o r2)) (by rw [List.getElem?_map, List.getElem?_range (by omega)]; rfl) hd ?_
      rw [zrd_lo ha] at q
      split at q
      · rw [show zft r1 r2 = 0 by omega] at okk ⊢
        exact q _ _ _ _ _ _ _ _ _ _ _ _ _ _ _ _ C K Wd L ll oL (zokS.c (v := .inl _) okk oS.t) S b1 b2 E
      · rw [show zft r1 r2 = 1 by omega] at okk ⊢
        exact q _ _ _ _ _ _ _ _ _ _ _ _ _ _ _ _ C K Wd L ll oL (zokS.c (v := .inr (.inl _)) okk oS.t) S b1 b2 E
      · rename_i z0 z1
        obtain ⟨t2, e2⟩ : ∃ t2, zft r1 r2 = t2 + 2 := ⟨zft r1 r2 - 2, by
          have : zft r1 r2 ≠ 0 := fun z => z0 (by omega)
          have : zft r1 r2 ≠ 1 := fun z => z1 (by omega)
          omega⟩
        rw [e2]
        show W p l ev R s m args below meth cd H locs cells slots QQ (F0 m (pc + 3) lsc ((if h o r2 < 0 then Value.null else zcr B cv (h o r2).toNat) :: r.map (zcv B cv)))
        rcases q with ⟨y, y1, q⟩ | ⟨y1, q⟩
        · rw [y1, if_neg (by omega), Int.toNat_natCast]
          exact q _ _ _ _ _ _ _ _ _ _ _ _ _ _ _ _ C K Wd L ll oL (zokS.c (v := .inr (.inr (some y))) trivial oS.t) S b1 b2 E
        · rw [y1, if_pos (by omega)]
          exact q _ _ _ _ _ _ _ _ _ _ _ _ _ _ _ _ C K Wd L ll oL (zokS.c (v := .inr (.inr none)) trivial oS.t) S b1 b2 E
    · rcases zhi (X := X) (sh := sh) ha with ⟨e, g⟩ | ⟨e, g⟩ | ⟨e, g⟩ | ⟨j, hj, e, g⟩ | ⟨j, hj, e, g⟩ | g
      · rw [g] at ht; simp only at ht; omega
      · rw [g] at ht; simp only at ht; omega
      · rw [g] at ht; simp only at ht; omega
      · have h200 : r1 = 200 := by rw [g] at ht; simp only at ht; omega
        subst h200
        obtain ⟨t, u, f1, f2, f3, f4, f5, -, -⟩ := K.2.2.2.2.2.2.1 j hj
        subst e
        rw [zrd_hi ha] at q
        rw [List.map_cons, show zcv B cv (.inr (.inr (some (1100 + j)))) = .ref t from (zcr_hi ha).trans f1]
        unfold zfl at hf
        rw [show Nat.beq 200 200 = true from rfl, cond_true] at hf
        cases hr : Nat.beq r2 0 with
        | true =>
          rw [hr, cond_true] at hf
          simp only [Bool.and_eq_true, decide_eq_true_eq] at hf
          obtain ⟨hf1, hf2⟩ := hf
          have hw := hwd _ hf1 rfl
          have h2 : r2 = 0 := Nat.eq_of_beq_eq_true hr
          subst h2
          subst hf2
          rw [(zCk_t hj).1] at q
          refine vk_getf C.1 C.2.1 f5 S C.2.2.2.1 (C.2.2.2.2.1 _ hw) (fun _ z => z) hd ?_
          rcases q with ⟨y, y1, q⟩ | ⟨y1, q⟩
          · have hy : y = 1200 + j := by omega
            subst hy
            have k2 := q _ _ _ _ _ _ _ _ _ _ _ _ _ _ _ _ C K Wd L ll oL (zokS.c (v := .inr (.inr (some (1200 + j)))) trivial oS.t) S b1 b2 E
            rw [List.map_cons, show zcv B cv (.inr (.inr (some (1200 + j)))) = .ref u from (zcr_hi (by omega)).trans f2] at k2
            exact k2
          · omega
        | false =>
          rw [hr, cond_false] at hf
          simp only [Bool.and_eq_true, decide_eq_true_eq] at hf
          obtain ⟨hf1, hf2⟩ := hf
          have hw := hwd _ hf1 rfl
          have h2 : r2 ≠ 0 := fun z => by rw [z] at hr; cases hr
          have e4 : zCk X (1100 + j) r2 = 0 := zCk_t0 hj h2
          subst hf2
          rw [e4] at q
          refine vk_getf C.1 C.2.1 f4 S C.2.2.2.1 (C.2.2.2.2.1 _ hw) (fun _ z => z) hd ?_
          exact q _ _ _ _ _ _ _ _ _ _ _ _ _ _ _ _ C K Wd L ll oL (zokS.c (v := .inl 0) z32_0 oS.t) S b1 b2 E
      · rw [g] at ht; simp only at ht; omega
      · rw [g] at ht; simp only at ht; omega
  · exact q.elim
end zSf
