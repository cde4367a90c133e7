/-! THE RULES HOLD OF THE MACHINE: writes to objects, new cells, ends, calls -/
section zSg
variable {D : va_G} {B : Nat} {cv : Nat → Value} {cA : Nat → ClassId} {X : List Int}
variable {i pc c sl n r1 r2 : Nat} {r3 : Int} {ls : zLL} {st : List zAV} {sh : zSH} {h : zHP} {Q : zPO}
variable {p : Program} {l : Launch} {ev : Env} {R : Room} {s : State} {m : MethodId} {args : Array Value} {below : List Frame} {meth : Method} {cd : Code} {H : Heap} {locs : List Loc} {cells slots : Nat} {lsc : Array Slot} {QQ : State → Prop}
theorem zvp {m j : Nat} {F : Nat → Value} (hj : j < m) : vp_V ((List.range m).map F) j = F j := by
  unfold vp_V
  rw [List.getD_eq_getElem?_getD, List.getElem?_map, List.getElem?_range hj]
  rfl
theorem zput_core {k o mm : Nat} {x : Int} {rest : List Value} (C : zCtx B p R s m args meth cd i) (K : zKS D B cv cA X s) (Wd : zWR D B cv cA sh h H) (S : va_S (fun q => B ≤ q) s.heap H locs) (hcw : zCW) (hf : zfl i k r1 r2 r3 = true) (h13 : r1 < 13) (hfi : zfin i r1 r2 = true) (hwd : ∀ w, zword i k = some w → goodWord w = true → w ∈ zT)
    (hl : o < sh.length) (e : sh.getD o (99, 0) = (16 + r1, mm)) (hx : zokc (16 + r1) r2 x) (hd : decode (zb i) pc = .ok (.putfield k, 3))
    (kk : ∀ (H1 : Heap) (locs1 : List Loc), zWR D B cv cA sh (zup h o r2 x) H1 → va_S (fun q => B ≤ q) s.heap H1 locs1 → W p l ev R s m args below meth cd H1 locs1 cells slots QQ (F0 m (pc + 3) lsc rest)) : W p l ev R s m args below meth cd H locs cells slots QQ (F0 m pc lsc (zfv B cv (zft r1 r2) x :: .ref (B + o) :: rest)) := by
  obtain ⟨CC, T, N, hc⟩ := zcl13 h13
  obtain ⟨w1, w2, w3, w4, w5, w6, w7, w8⟩ := hcw r1 CC T N hc
  have hz : Nat.beq r1 200 = false := by rw [← Bool.not_eq_true]; exact fun z => by have := Nat.eq_of_beq_eq_true z; omega
  unfold zfl at hf
  rw [hz, cond_false, hc] at hf
  simp only [Bool.and_eq_true, decide_eq_true_eq] at hf
  obtain ⟨⟨⟨f1, f2⟩, f3⟩, f4⟩ := hf
  have hw := hwd _ f2 rfl
  unfold zfin at hfi
  rw [hc] at hfi
  simp only [Bool.or_eq_true, Bool.not_eq_true', Bool.and_eq_true, decide_eq_true_eq] at hfi
  have ok := Wd.ok hl e
  obtain ⟨g1, g2⟩ := ok.1.2 (by omega)
  rw [show 16 + r1 - 16 = r1 by omega] at g2
  have he := Wd.at hl e
  rw [zrow_o (by omega), show 16 + r1 - 16 = r1 by omega] at he
  have hts := C.2.2.2.2.1
  have hown := C.2.2.2.1
  have hap := va_apart (own := (zy i).cls) hts w1 (zTy r1) w2 w3 K.1 hc
  obtain ⟨r, u1, cell, q1, q2, q3, q4⟩ := Wd.2.1 o _ he
  have hr : r = (CC, T, N) := Option.some.inj (u1.symm.trans hc)
  subst hr
  obtain ⟨hS, hfc, kC, hkC, hkind⟩ := K.1.1 r1 _ hc
  obtain ⟨cf, kf, fi, f, hi, hsl⟩ := hS r2 f1
  have hst := (u_facts hfc hkC (u_lays hts w1 f1) hi).1
  have hlink := hts _ hw
  obtain ⟨hn, hfit⟩ := zfv_ok (B := B) (x := x) K.cvv (w8 r2 f1)
  have fin : ∀ H1 : Heap, H1[B + o]? = some (cell.setSlot f.slot (zfv B cv (zft r1 r2) x)) → H1.size = H.size → (∀ q : Nat, q ≠ B + o → H1[q]? = H[q]?) → zWR D B cv cA sh (zup h o r2 x) H1 := by
    intro H1 e1 e2 e3
    rw [hsl] at e1
    refine Wd.put hl e hx ?_ e2 e3
    rw [zrow_o (by omega), show 16 + r1 - 16 = r1 by omega]
    refine ⟨_, hc, t_OB.to (V := updV (vp_V ((List.range mm).map (fun j => zfv B cv (zft r1 j) (h o j)))) r2 (zfv B cv (zft r1 r2) x)) ⟨_, e1, q2, q3, t_set q4 hap f1 _⟩ (fun j hj => ?_)⟩
    have hjm : j < mm := by rw [g2, ← w6]; exact hj
    show (if j = r2 then _ else _) = vp_V ((List.range mm).map (fun j => zfv B cv (zft r1 j) (if j = r2 then x else h o j))) j
    rw [zvp hjm, zvp hjm]
    by_cases hjr : j = r2
    · subst hjr; simp
    · rw [if_neg hjr, if_neg hjr]
  have hlay := hts _ (w1 _ (u_in_lay f1))
  unfold u_lay at hlay
  rcases hfi with hfin | ⟨hin2, hdecl⟩
  · rw [if_neg (by rw [hfin]; decide)] at hlay
    have h6 := u_store hfc hkC hkind hlay hi (w2 r2 f1) hn hfit
    refine W.putK C.1 C.2.1 (f := f) ⟨hown, hlink, ⟨_, _, _, hi⟩, hst⟩ (by rw [q2]; exact h6) q1 q3 (by rw [hsl]; exact k2_hasslot (q4 r2 f1)) rfl rfl hd fun H1 e1 e2 e3 => ?_
    exact kk H1 _ (fin H1 e1 e2 e3) (S.put e2 e3 (Nat.le_add_right B o))
  · by_cases hfin : (T r2).2.2.2 = true
    · rw [if_pos hfin] at hlay
      have hcf : m.cls = cf := by
        obtain ⟨_, _, c', _, _, _, -, -, hf', -, -, -, hown2, -⟩ := Cond.laysFinal_spec hlay
        have e1 : c' = cf := by have := hi.symm.trans hf'; simp at this; exact this.1.symm
        rw [hdecl] at hown2
        rw [← e1]; exact Option.some.inj (hown.symm.trans hown2)
      have h6 := u_fits hfc hkC hkind (Or.inr hlay) hi (w2 r2 f1) hn hfit
      refine W.putFinK C.1 C.2.1 hown hlink hi hst hcf (C.2.2.2.2.2.1 hin2) (by rw [q2]; exact h6) q1 q3 (by rw [hsl]; exact k2_hasslot (q4 r2 f1)) rfl rfl hd fun H1 e1 e2 e3 => ?_
      exact kk H1 _ (fin H1 e1 e2 e3) (S.put e2 e3 (Nat.le_add_right B o))
    · rw [if_neg hfin] at hlay
      have h6 := u_store hfc hkC hkind hlay hi (w2 r2 f1) hn hfit
      refine W.putK C.1 C.2.1 (f := f) ⟨hown, hlink, ⟨_, _, _, hi⟩, hst⟩ (by rw [q2]; exact h6) q1 q3 (by rw [hsl]; exact k2_hasslot (q4 r2 f1)) rfl rfl hd fun H1 e1 e2 e3 => ?_
      exact kk H1 _ (fin H1 e1 e2 e3) (S.put e2 e3 (Nat.le_add_right B o))
theorem zokc_0 {x : Int} (h : zft r1 r2 = 0) : zokc (16 + r1) r2 x = z32 x := by rw [zokc_o (by omega), show 16 + r1 - 16 = r1 by omega, h]; rfl
theorem zokc_1 {x : Int} (h : zft r1 r2 = 1) : zokc (16 + r1) r2 x = z64 x := by rw [zokc_o (by omega), show 16 + r1 - 16 = r1 by omega, h]; rfl
theorem zokc_2 {x : Int} (h : zft r1 r2 = 2) : zokc (16 + r1) r2 x = (-1 ≤ x) := by rw [zokc_o (by omega), show 16 + r1 - 16 = r1 by omega, h]; rfl
theorem zfl_t {k : Nat} (hf : zfl i k r1 r2 r3 = true) (h13 : r1 < 13) : (zft r1 r2 : Int) = r3 := by
  obtain ⟨CC, T, N, hc⟩ := zcl13 h13
  have hz : Nat.beq r1 200 = false := by rw [← Bool.not_eq_true]; exact fun z => by have := Nat.eq_of_beq_eq_true z; omega
  unfold zfl at hf
  rw [hz, cond_false, hc] at hf
  simp only [Bool.and_eq_true, decide_eq_true_eq] at hf
  exact hf.2
theorem zs_putfield {k : Nat} (hcw : zCW) (hf : zfl i k r1 r2 r3 = true) (h13 : r1 < 13) (hfi : zfin i r1 r2 = true) (hwd : ∀ w, zword i k = some w → goodWord w = true → w ∈ zT) (hd : decode (zb i) pc = .ok (.putfield k, 3)) (q : zPut X (zSnd D B cv cA X) i pc c sl ls st sh h Q 3 r1 r2 r3) : zSnd D B cv cA X i pc c sl ls st sh h Q := by
  intro p l ev R s m args below meth cd H locs cells slots lsc QQ C K Wd L ll oL oS S b1 b2 E
  unfold zPut at q
  split at q
  · rename_i v o r
    obtain ⟨ha, ht, q⟩ := q
    obtain ⟨hl, e⟩ := zlo ha ht (by omega)
    have ft := zfl_t hf h13
    rw [List.map_cons, List.map_cons, show zcv B cv (.inr (.inr (some o))) = .ref (B + o) from zcr_lo ha]
    have core := fun x hx kk => zput_core (l := l) (ev := ev) (below := below) (cells := cells) (slots := slots) (lsc := lsc) (QQ := QQ) (rest := r.map (zcv B cv)) (x := x) C K Wd S hcw hf h13 hfi hwd hl e hx hd kk
    split at q
    · rename_i x
      have t0 : zft r1 r2 = 0 := by omega
      have k2 := core x (by rw [zokc_0 t0]; exact oS.h) (fun H1 locs1 hW hS => q _ _ _ _ _ _ _ _ _ _ _ _ _ _ _ _ C K hW L ll oL oS.t.t hS b1 b2 E)
      rw [t0] at k2
      exact k2
    · rename_i x
      have t0 : zft r1 r2 = 1 := by omega
      have k2 := core x (by rw [zokc_1 t0]; exact oS.h) (fun H1 locs1 hW hS => q _ _ _ _ _ _ _ _ _ _ _ _ _ _ _ _ C K hW L ll oL oS.t.t hS b1 b2 E)
      rw [t0] at k2
      exact k2
    · rename_i y
      have t0 : zft r1 r2 = 2 := by omega
      have k2 := core (y : Int) (by rw [zokc_2 t0]; omega) (fun H1 locs1 hW hS => q _ _ _ _ _ _ _ _ _ _ _ _ _ _ _ _ C K hW L ll oL oS.t.t hS b1 b2 E)
      rw [t0] at k2
      have e2 : zfv B cv 2 (y : Int) = zcv B cv (.inr (.inr (some y))) := by
        show (if (y : Int) < 0 then Value.null else zcr B cv (y : Int).toNat) = zcr B cv y
        rw [if_neg (by omega), Int.toNat_natCast]
      rw [e2] at k2
      exact k2
    · have t0 : zft r1 r2 = 2 := by omega
      have k2 := core (-1) (by rw [zokc_2 t0]; omega) (fun H1 locs1 hW hS => q _ _ _ _ _ _ _ _ _ _ _ _ _ _ _ _ C K hW L ll oL oS.t.t hS b1 b2 E)
      rw [t0] at k2
      exact k2
    · exact q.elim
  · exact q.elim
theorem zWR.push {H1 : Heap} {t m : Nat} {h' : zHP} (Wd : zWR D B cv cA sh h H) (hlen : sh.length < 1000) (ho : ∀ k, k < sh.length → h' k = h k) (hn : zokt t m) (hf : ∀ j, zokc t j (h' sh.length j)) (z : H1.size = B + sh.length + 1) (old : ∀ q : Nat, q < B + sh.length → H1[q]? = H[q]?) (he : va_at D vwCl (B + sh.length, zrow B cv cA (t, m) (h' sh.length)) H1) : zWR D B cv cA (sh ++ [(t, m)]) h' H1 := by
  refine ⟨by rw [z, List.length_append]; rfl, ?_, zokh_push Wd.2.2.1 ho hn hf, by rw [List.length_append]; exact hlen⟩
  rw [← zws_push rfl ho rfl]
  refine (Wd.2.1.kept (fun k q hq => old q.1 ?_)).app (fun k q hq => ?_)
  · obtain ⟨g1, g2⟩ := zws_lt hq
    omega
  · have hk : k < 1 := (List.getElem?_eq_some_iff.mp hq).1
    rw [show k = 0 by omega] at hq
    cases hq
    exact he
theorem zS_push {H1 : Heap} (S : va_S (fun q => B ≤ q) s.heap H locs) (Wd : zWR D B cv cA sh h H) (z : H1.size = B + sh.length + 1) (old : ∀ q : Nat, q < B + sh.length → H1[q]? = H[q]?) : va_S (fun q => B ≤ q) s.heap H1 locs :=
  ⟨Nat.le_trans S.1 (by rw [z, Wd.1]; exact Nat.le_succ _), fun q h1 h2 => (old q (by have : ¬ B ≤ q := h2; omega)).trans (S.2.1 q h1 h2), S.2.2⟩
theorem zs_new {k : Nat} {CC : String} {T : u_T} (hcw : zCW) (hc : vwCl[r1]? = some (CC, T, r2)) (hw : Cond.classLink (zy i).cls k CC ∈ zT) (hd : decode (zb i) pc = .ok (.new k, 3)) (q : zNew (zSnd D B cv cA X) i pc c sl ls st sh h Q 3 r1 r2) : zSnd D B cv cA X i pc c sl ls st sh h Q := by
  intro p l ev R s m args below meth cd H locs cells slots lsc QQ C K Wd L ll oL oS S b1 b2 E
  unfold zNew at q
  obtain ⟨g1, g2, g3, q⟩ := q
  obtain ⟨w1, w2, w3, w4, w5, w6, w7, w8⟩ := hcw r1 CC T r2 hc
  have hts := C.2.2.2.2.1
  have hKn := K.1.1 r1 _ hc
  have h13 : r1 < 13 := (List.getElem?_eq_some_iff.mp hc).1
  refine W.newcK C.1 C.2.1 C.2.2.2.1 (hts _ hw) (hts _ w4) (hts _ w5) rfl hd (by omega) (by omega) hKn.2.1 Wd.1 fun H1 kC hkC e1 z1 o1 => ?_
  have hnew : zborn h r1 sh.length sh.length = fun j => if zft r1 j = 2 then -1 else 0 := by funext j; simp [zborn]
  have he : va_at D vwCl (B + sh.length, zrow B cv cA (16 + r1, r2) (zborn h r1 sh.length sh.length)) H1 := by
    rw [zrow_o (by omega), show 16 + r1 - 16 = r1 by omega, hnew]
    refine ⟨_, hc, (u_born (zTy r1) hts w1 hKn hkC e1 w2).to (fun j hj => ?_)⟩
    rw [zvp hj]
    have w9 := w8 j hj
    show defaultValue (zTy r1 j) = zfv B cv (zft r1 j) (if zft r1 j = 2 then -1 else 0)
    generalize zft r1 j = t at w9 ⊢
    generalize zTy r1 j = ty at w9 ⊢
    rcases t with _ | _ | _ | y
    · cases ty <;> simp [ztc] at w9 <;> rfl
    · cases ty <;> simp [ztc] at w9 <;> rfl
    · cases ty <;> simp [ztc] at w9 <;> rfl
    · cases ty <;> simp [ztc] at w9 <;> omega
  have Wn := Wd.push (h' := zborn h r1 sh.length) g1 (fun k hk => by funext j; simp [zborn, Nat.ne_of_lt hk]) ⟨w7, fun _ => ⟨by omega, by rw [show 16 + r1 - 16 = r1 by omega]; exact w6⟩⟩ (fun j => by
    rw [zokc_o (by omega), show 16 + r1 - 16 = r1 by omega, hnew]
    dsimp only
    generalize zft r1 j = t
    rcases t with _ | _ | t
    · exact z32_0
    · exact (show z64 0 from ⟨by decide, by decide⟩)
    · show (-1 : Int) ≤ (if t + 1 + 1 = 2 then -1 else 0)
      split <;> decide) z1 o1 he
  have k2 := q _ _ _ _ _ _ _ _ _ _ _ _ _ _ _ _ C K Wn L ll oL (zokS.c (v := .inr (.inr (some sh.length))) trivial oS) (zS_push S Wd z1 o1) (show cells + 1 + (c - 1) ≤ R.cells by omega) (show slots + r2 + (sl - r2) ≤ R.slots by omega) E
  rw [List.map_cons, show zcv B cv (.inr (.inr (some sh.length))) = .ref (B + sh.length) from zcr_lo g1] at k2
  exact k2
theorem zs_newarray_int (hac : Cond.arrayClass (newarray.typeOf .int) ∈ zT) (hd : decode (zb i) pc = .ok (.newarray .int, 2)) (q : zNewA (zSnd D B cv cA X) i pc c sl ls st sh h Q 2 0 0) : zSnd D B cv cA X i pc c sl ls st sh h Q := by
  intro p l ev R s m args below meth cd H locs cells slots lsc QQ C K Wd L ll oL oS S b1 b2 E
  unfold zNewA at q
  split at q
  · rename_i k r
    obtain ⟨g1, -, g3, g4, g5, g6, q⟩ := q
    rw [List.map_cons]
    refine va_newaK C.1 C.2.1 (atype := .int) (C.2.2.2.2.1 _ hac) rfl hd (n := Int32.ofInt k) (N := k.toNat) rfl (fun z => by rw [Int32.lt_iff_toInt_lt, zi_to oS.h] at z; have : (0 : Int32).toInt = 0 := rfl; omega) (zi_cl oS.h) (by show k.toNat * 4 ≤ 536870912; omega) (by omega) (by omega) Wd.1 fun H1 c1 e1 z1 o1 hA hN => ?_
    have hc1 : c1 = cA 0 := Option.some.inj (hN.symm.trans (K.1.2 0 _ rfl).2)
    subst hc1
    have hnew : znul h sh.length 0 sh.length = fun _ => 0 := by funext j; simp [znul]
    have Wn := Wd.push (t := 0) (h' := znul h sh.length 0) g1 (fun k hk => by funext j; simp [znul, Nat.ne_of_lt hk]) (m := k.toNat) ⟨by omega, fun z => by omega⟩ (fun j => by rw [hnew]; exact z32_0) z1 o1 (by rw [hnew]; exact e1)
    have k2 := q _ _ _ _ _ _ _ _ _ _ _ _ _ _ _ _ C K Wn L ll oL (zokS.c (v := .inr (.inr (some sh.length))) trivial oS.t) (zS_push S Wd z1 o1) (show cells + 1 + (c - 1) ≤ R.cells by omega) (show slots + k.toNat + (sl - k.toNat) ≤ R.slots by omega) E
    rw [List.map_cons, show zcv B cv (.inr (.inr (some sh.length))) = .ref (B + sh.length) from zcr_lo g1] at k2
    exact k2
  · exact q.elim
theorem zs_newarray_long (hac : Cond.arrayClass (newarray.typeOf .long) ∈ zT) (hd : decode (zb i) pc = .ok (.newarray .long, 2)) (q : zNewA (zSnd D B cv cA X) i pc c sl ls st sh h Q 2 1 0) : zSnd D B cv cA X i pc c sl ls st sh h Q := by
  intro p l ev R s m args below meth cd H locs cells slots lsc QQ C K Wd L ll oL oS S b1 b2 E
  unfold zNewA at q
  split at q
  · rename_i k r
    obtain ⟨g1, -, g3, g4, g5, g6, q⟩ := q
    rw [List.map_cons]
    refine va_newaK C.1 C.2.1 (atype := .long) (C.2.2.2.2.1 _ hac) rfl hd (n := Int32.ofInt k) (N := k.toNat) rfl (fun z => by rw [Int32.lt_iff_toInt_lt, zi_to oS.h] at z; have : (0 : Int32).toInt = 0 := rfl; omega) (zi_cl oS.h) (by show k.toNat * 8 ≤ 536870912; omega) (by omega) (by omega) Wd.1 fun H1 c1 e1 z1 o1 hA hN => ?_
    have hc1 : c1 = cA 1 := Option.some.inj (hN.symm.trans (K.1.2 1 _ rfl).2)
    subst hc1
    have hnew : znul h sh.length 0 sh.length = fun _ => 0 := by funext j; simp [znul]
    have Wn := Wd.push (t := 1) (h' := znul h sh.length 0) g1 (fun k hk => by funext j; simp [znul, Nat.ne_of_lt hk]) (m := k.toNat) ⟨by omega, fun z => by omega⟩ (fun j => by rw [hnew]; exact (show z64 0 from ⟨by decide, by decide⟩)) z1 o1 (by rw [hnew]; exact e1)
    have k2 := q _ _ _ _ _ _ _ _ _ _ _ _ _ _ _ _ C K Wn L ll oL (zokS.c (v := .inr (.inr (some sh.length))) trivial oS.t) (zS_push S Wd z1 o1) (show cells + 1 + (c - 1) ≤ R.cells by omega) (show slots + k.toNat + (sl - k.toNat) ≤ R.slots by omega) E
    rw [List.map_cons, show zcv B cv (.inr (.inr (some sh.length))) = .ref (B + sh.length) from zcr_lo g1] at k2
    exact k2
  · exact q.elim
theorem zs_newarray_short (hac : Cond.arrayClass (newarray.typeOf .short) ∈ zT) (hd : decode (zb i) pc = .ok (.newarray .short, 2)) (q : zNewA (zSnd D B cv cA X) i pc c sl ls st sh h Q 2 2 0) : zSnd D B cv cA X i pc c sl ls st sh h Q := by
  intro p l ev R s m args below meth cd H locs cells slots lsc QQ C K Wd L ll oL oS S b1 b2 E
  unfold zNewA at q
  split at q
  · rename_i k r
    obtain ⟨g1, -, g3, g4, g5, g6, q⟩ := q
    rw [List.map_cons]
    refine va_newaK C.1 C.2.1 (atype := .short) (C.2.2.2.2.1 _ hac) rfl hd (n := Int32.ofInt k) (N := k.toNat) rfl (fun z => by rw [Int32.lt_iff_toInt_lt, zi_to oS.h] at z; have : (0 : Int32).toInt = 0 := rfl; omega) (zi_cl oS.h) (by show k.toNat * 2 ≤ 536870912; omega) (by omega) (by omega) Wd.1 fun H1 c1 e1 z1 o1 hA hN => ?_
    have hc1 : c1 = cA 2 := Option.some.inj (hN.symm.trans (K.1.2 2 _ rfl).2)
    subst hc1
    have hnew : znul h sh.length 0 sh.length = fun _ => 0 := by funext j; simp [znul]
    have Wn := Wd.push (t := 2) (h' := znul h sh.length 0) g1 (fun k hk => by funext j; simp [znul, Nat.ne_of_lt hk]) (m := k.toNat) ⟨by omega, fun z => by omega⟩ (fun j => by rw [hnew]; exact (show (-32768 : Int) ≤ 0 ∧ (0 : Int) ≤ 32767 from ⟨by decide, by decide⟩)) z1 o1 (by rw [hnew]; exact e1)
    have k2 := q _ _ _ _ _ _ _ _ _ _ _ _ _ _ _ _ C K Wn L ll oL (zokS.c (v := .inr (.inr (some sh.length))) trivial oS.t) (zS_push S Wd z1 o1) (show cells + 1 + (c - 1) ≤ R.cells by omega) (show slots + k.toNat + (sl - k.toNat) ≤ R.slots by omega) E
    rw [List.map_cons, show zcv B cv (.inr (.inr (some sh.length))) = .ref (B + sh.length) from zcr_lo g1] at k2
    exact k2
  · exact q.elim
theorem zs_newarray_byte (hac : Cond.arrayClass (newarray.typeOf .byte) ∈ zT) (hd : decode (zb i) pc = .ok (.newarray .byte, 2)) (q : zNewA (zSnd D B cv cA X) i pc c sl ls st sh h Q 2 3 0) : zSnd D B cv cA X i pc c sl ls st sh h Q := by
  intro p l ev R s m args below meth cd H locs cells slots lsc QQ C K Wd L ll oL oS S b1 b2 E
  unfold zNewA at q
  split at q
  · rename_i k r
    obtain ⟨g1, -, g3, g4, g5, g6, q⟩ := q
    rw [List.map_cons]
    refine va_newaK C.1 C.2.1 (atype := .byte) (C.2.2.2.2.1 _ hac) rfl hd (n := Int32.ofInt k) (N := k.toNat) rfl (fun z => by rw [Int32.lt_iff_toInt_lt, zi_to oS.h] at z; have : (0 : Int32).toInt = 0 := rfl; omega) (zi_cl oS.h) (by show k.toNat * 1 ≤ 536870912; omega) (by omega) (by omega) Wd.1 fun H1 c1 e1 z1 o1 hA hN => ?_
    have hc1 : c1 = cA 3 := Option.some.inj (hN.symm.trans (K.1.2 3 _ rfl).2)
    subst hc1
    have hnew : znul h sh.length 0 sh.length = fun _ => 0 := by funext j; simp [znul]
    have Wn := Wd.push (t := 3) (h' := znul h sh.length 0) g1 (fun k hk => by funext j; simp [znul, Nat.ne_of_lt hk]) (m := k.toNat) ⟨by omega, fun z => by omega⟩ (fun j => by rw [hnew]; exact (show (-128 : Int) ≤ 0 ∧ (0 : Int) ≤ 127 from ⟨by decide, by decide⟩)) z1 o1 (by rw [hnew]; exact e1)
    have k2 := q _ _ _ _ _ _ _ _ _ _ _ _ _ _ _ _ C K Wn L ll oL (zokS.c (v := .inr (.inr (some sh.length))) trivial oS.t) (zS_push S Wd z1 o1) (show cells + 1 + (c - 1) ≤ R.cells by omega) (show slots + k.toNat + (sl - k.toNat) ≤ R.slots by omega) E
    rw [List.map_cons, show zcv B cv (.inr (.inr (some sh.length))) = .ref (B + sh.length) from zcr_lo g1] at k2
    exact k2
  · exact q.elim
theorem zs_newarray_boolean (hac : Cond.arrayClass (newarray.typeOf .boolean) ∈ zT) (hd : decode (zb i) pc = .ok (.newarray .boolean, 2)) (q : zNewA (zSnd D B cv cA X) i pc c sl ls st sh h Q 2 4 0) : zSnd D B cv cA X i pc c sl ls st sh h Q := by
  intro p l ev R s m args below meth cd H locs cells slots lsc QQ C K Wd L ll oL oS S b1 b2 E
  unfold zNewA at q
  split at q
  · rename_i k r
    obtain ⟨g1, -, g3, g4, g5, g6, q⟩ := q
    rw [List.map_cons]
    refine va_newaK C.1 C.2.1 (atype := .boolean) (C.2.2.2.2.1 _ hac) rfl hd (n := Int32.ofInt k) (N := k.toNat) rfl (fun z => by rw [Int32.lt_iff_toInt_lt, zi_to oS.h] at z; have : (0 : Int32).toInt = 0 := rfl; omega) (zi_cl oS.h) (by show k.toNat * 1 ≤ 536870912; omega) (by omega) (by omega) Wd.1 fun H1 c1 e1 z1 o1 hA hN => ?_
    have hc1 : c1 = cA 4 := Option.some.inj (hN.symm.trans (K.1.2 4 _ rfl).2)
    subst hc1
    have hnew : znul h sh.length 0 sh.length = fun _ => 0 := by funext j; simp [znul]
    have Wn := Wd.push (t := 4) (h' := znul h sh.length 0) g1 (fun k hk => by funext j; simp [znul, Nat.ne_of_lt hk]) (m := k.toNat) ⟨by omega, fun z => by omega⟩ (fun j => by rw [hnew]; exact Or.inl rfl) z1 o1 (by rw [hnew]; exact e1)
    have k2 := q _ _ _ _ _ _ _ _ _ _ _ _ _ _ _ _ C K Wn L ll oL (zokS.c (v := .inr (.inr (some sh.length))) trivial oS.t) (zS_push S Wd z1 o1) (show cells + 1 + (c - 1) ≤ R.cells by omega) (show slots + k.toNat + (sl - k.toNat) ≤ R.slots by omega) E
    rw [List.map_cons, show zcv B cv (.inr (.inr (some sh.length))) = .ref (B + sh.length) from zcr_lo g1] at k2
    exact k2
  · exact q.elim
theorem zs_anewarray {k : Nat} (hw : Cond.classLink (zy i).cls k "LadderLots$Ladder" ∈ zT) (hd : decode (zb i) pc = .ok (.anewarray k, 3)) (q : zNewA (zSnd D B cv cA X) i pc c sl ls st sh h Q 3 5 (-1)) : zSnd D B cv cA X i pc c sl ls st sh h Q := by
  intro p l ev R s m args below meth cd H locs cells slots lsc QQ C K Wd L ll oL oS S b1 b2 E
  unfold zNewA at q
  split at q
  · rename_i k r
    obtain ⟨g1, -, g3, g4, g5, g6, q⟩ := q
    rw [List.map_cons]
    have hnn : (Int32.ofInt k).toNatClampNeg = k.toNat := zi_cl oS.h
    refine W.anew C.1 C.2.1 C.2.2.2.1 (C.2.2.2.2.1 _ hw) (va_AO.use K.2.2.2.2.2.2.2.2.2.2) rfl hd (n := Int32.ofInt k) rfl (fun z => by rw [Int32.lt_iff_toInt_lt, zi_to oS.h] at z; have : (0 : Int32).toInt = 0 := rfl; omega) (by rw [hnn]; omega) (by omega) (by rw [hnn]; omega) fun c1 kA comp f1 f2 f3 f4 => ?_
    rw [hnn]
    generalize hH1 : H.push ({ cls := c1, slots := Array.replicate k.toNat .null, vm := .none } : Cell) = H1
    have z1 : H1.size = B + sh.length + 1 := by rw [← hH1, Array.size_push, Wd.1]
    have e1 : H1[B + sh.length]? = some (arrV c1 k.toNat (fun _ => .null)) := by rw [← hH1, ← Wd.1, Array.getElem?_push_size, ← arrV_new]
    have o1 : ∀ q : Nat, q < B + sh.length → H1[q]? = H[q]? := fun q hq => by rw [← hH1, Array.getElem?_push, if_neg (by rw [Wd.1]; exact Nat.ne_of_lt hq)]
    obtain ⟨-, -, -, -, -, h5⟩ := (K.1.2 5 _ rfl).2
    have hc1 : c1 = cA 5 := Option.some.inj (f1.symm.trans h5)
    subst hc1
    have hnew : znul h sh.length (-1) sh.length = fun _ => -1 := by funext j; simp [znul]
    have Wn := Wd.push (t := 5) (h' := znul h sh.length (-1)) g1 (fun k hk => by funext j; simp [znul, Nat.ne_of_lt hk]) (m := k.toNat) ⟨by omega, fun z => by omega⟩ (fun j => by rw [hnew]; exact (show (-1 : Int) ≤ -1 ∧ (-1 : Int) < 1000 from ⟨by decide, by decide⟩)) z1 o1 (by
      rw [hnew]
      show H1[B + sh.length]? = some (vp_cell (cA 5) (k.toNat, .inr (.inr (.inr (.inr (fun _ => if (-1 : Int) < 0 then none else some (B + (-1 : Int).toNat)))))))
      rw [vp_cell_q, e1]
      rfl)
    have k2 := q _ _ _ _ _ _ _ _ _ _ _ _ _ _ _ _ C K Wn L ll oL (zokS.c (v := .inr (.inr (some sh.length))) trivial oS.t) (zS_push S Wd z1 o1) (show cells + 1 + (c - 1) ≤ R.cells by omega) (show slots + k.toNat + (sl - k.toNat) ≤ R.slots by omega) E
    rw [List.map_cons, show zcv B cv (.inr (.inr (some sh.length))) = .ref (B + sh.length) from zcr_lo g1, Wd.1.symm] at k2
    exact k2
  · exact q.elim
theorem zs_aastore (hd : decode (zb i) pc = .ok (.aastore, 1)) (q : zAStR X (zSnd D B cv cA X) i pc c sl ls st sh h Q 1) : zSnd D B cv cA X i pc c sl ls st sh h Q := by
  intro p l ev R s m args below meth cd H locs cells slots lsc QQ C K Wd L ll oL oS S b1 b2 E
  unfold zAStR at q
  split at q
  · rename_i v k a r
    obtain ⟨ha, ht, hv, hvt, k0, k1, q⟩ := q
    obtain ⟨hl, e⟩ := zlo ha ht (by decide)
    obtain ⟨hl2, e2⟩ := zlo hv hvt (by decide)
    rw [List.map_cons, List.map_cons, List.map_cons, show zcv B cv (.inr (.inr (some a))) = .ref (B + a) from zcr_lo ha, show zcv B cv (.inr (.inr (some v))) = .ref (B + v) from zcr_lo hv]
    have hin := zi_in (n := (zsh X sh a).2) oS.t.h k0 k1
    have hcl := zi_cl (k := k) oS.t.h
    have hvv := Wd.at hl2 e2
    rw [zrow_o (by omega)] at hvv
    obtain ⟨r', hr', cellV, g1, g2, g3, -⟩ := Wd.2.1 v _ hvv
    have hr2 : r' = (RX1, TX1, 6) := Option.some.inj (hr'.symm.trans rfl)
    subst hr2
    have hcls := (K.1.1 1 _ rfl).2
    obtain ⟨kA, comp, y1, y2, y3, -⟩ := (K.1.2 5 _ rfl).2
    have hcomp : comp = D.1 1 := Option.some.inj (y3.symm.trans hcls.1)
    subst hcomp
    obtain ⟨kC, hkC, -⟩ := hcls.2
    refine W.aast C.1 C.2.1 (Wd.2.1 a _ (Wd.at hl e)) (fun q h => by cases h) (fun h => by cases h) y1 y2 rfl hkC ⟨fun z => hin (Or.inl z), by show _ < (arrV _ _ _).slots.size; rw [arrV_size]; exact Nat.not_le.mp fun z => hin (Or.inr z)⟩ g1 (fun q h => by rw [g3] at h; cases h) (by rw [g2]; exact hkC) (by rw [g2]; exact va_assign hcls) rfl rfl hd fun H1 g z oq => ?_
    refine q _ _ _ _ _ _ _ _ _ _ _ _ _ _ _ _ C K (Wd.put hl e (x := (v : Int)) ⟨by omega, by omega⟩ ?_ z oq) L ll oL oS.t.t.t (S.put z oq (Nat.le_add_right B a)) b1 b2 E
    show H1[B + a]? = some (vp_cell (cA 5) ((zsh X sh a).2, .inr (.inr (.inr (.inr (fun j => if (if j = k.toNat then (v : Int) else h a j) < 0 then none else some (B + (if j = k.toNat then (v : Int) else h a j).toNat)))))))
    rw [g, hcl, vp_cell_q, vp_cell_q, arrV_store]
    congr 2
    funext j
    by_cases hj : j = k.toNat
    · simp only [updV, if_pos hj]
      rw [if_neg (by omega), Int.toNat_natCast]
      rfl
    · simp only [updV, if_neg hj]
  · exact q.elim
end zSg
