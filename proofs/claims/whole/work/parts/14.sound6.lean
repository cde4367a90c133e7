/-! THE RULES HOLD OF THE MACHINE: all together -/
theorem zLk_mem {pc : Nat} {e : Instr × Nat × Nat × Nat × Int} : ∀ {l : List zE}, zLk pc l = some e → (pc, e) ∈ l
  | [], h => by cases h
  | a :: l, h => by
    unfold zLk at h
    cases hb : Nat.beq a.1 pc with
    | true =>
      rw [hb, cond_true] at h
      have := Nat.eq_of_beq_eq_true hb
      cases h
      subst this
      exact List.mem_cons_self
    | false =>
      rw [hb, cond_false] at h
      exact List.mem_cons_of_mem _ (zLk_mem h)
theorem zword_in {i k : Nat} {w : Cond} (h : zword i k = some w) (hg : goodWord w = true) : w ∈ zT := by
  unfold zword at h
  split at h
  · exact zmem h hg
  · cases h
section zSi
variable {D : va_G} {B : Nat} {cv : Nat → Value} {cA : Nat → ClassId} {X : List Int}
theorem zcg {P : zPT} {i pc c s : Nat} {ls : zLL} {st : List zAV} {sh : zSH} {h : zHP} {Q : zPO} {r1 r2 : Nat} {ok : Prop} (hr : r1 < 342) (q : zCallG P i pc c s ls st sh h Q r1 r2 ok) : zCall P i pc c s ls st sh h Q r1 r2 ok := by
  unfold zCallG at q
  rw [show Nat.blt r1 342 = true from Nat.ble_eq_true_of_le hr] at q
  exact q
theorem zog {P : zPT} {i pc c s : Nat} {ls : zLL} {st : List zAV} {sh : zSH} {h : zHP} {Q : zPO} {n r1 : Nat} (q : zObjG P i pc c s ls st sh h Q n r1) : zObj P i pc c s ls st sh h Q n := by
  unfold zObjG at q
  cases hb : Nat.beq r1 9999 with
  | false => rw [hb] at q; exact q.elim
  | true => rw [hb] at q; exact q
set_option maxHeartbeats 4000000 in
theorem zstep_ok (F : zFacts) {i pc c sl : Nat} {ls : zLL} {st : List zAV} {sh : zSH} {h : zHP} {Q : zPO} (q : zStep X (zSnd D B cv cA X) i pc c sl ls st sh h Q) : zSnd D B cv cA X i pc c sl ls st sh h Q := by
  unfold zStep at q
  cases hb : Nat.blt i 343 with
  | false => rw [hb] at q; exact q.elim
  | true =>
  rw [hb, cond_true] at q
  have hi : i < 343 := Nat.le_of_ble_eq_true hb
  cases hk : zLk pc (zcode i) with
  | none => rw [hk] at q; exact q.elim
  | some e =>
  rw [hk] at q
  obtain ⟨ins, n, r1, r2, r3⟩ := e
  have hc : zck i (pc, ins, n, r1, r2, r3) = true := List.all_eq_true.mp (F.2.1 i hi) _ (zLk_mem hk)
  unfold zck at hc
  rw [Bool.and_eq_true] at hc
  obtain ⟨hd, hc⟩ := hc
  replace hd : decode (zb i) pc = .ok (ins, n) := of_decide_eq_true hd
  replace hc : zck1 i pc n r1 r2 r3 ins = true := hc
  replace q : zDo X (zSnd D B cv cA X) i pc c sl ls st sh h Q n r1 r2 r3 ins := q
  have hwd : ∀ k w, zword i k = some w → goodWord w = true → w ∈ zT := fun k w => zword_in
  cases ins with
  | aload_n k =>
    have hn : n = 1 := of_decide_eq_true hc
    subst hn
    exact zs_aload_n hd q
  | aload k =>
    have hn : n = 2 := of_decide_eq_true hc
    subst hn
    exact zs_aload hd q
  | iload_n k =>
    have hn : n = 1 := of_decide_eq_true hc
    subst hn
    exact zs_iload_n hd q
  | iload k =>
    have hn : n = 2 := of_decide_eq_true hc
    subst hn
    exact zs_iload hd q
  | lload_n k =>
    have hn : n = 1 := of_decide_eq_true hc
    subst hn
    exact zs_lload_n hd q
  | lload k =>
    have hn : n = 2 := of_decide_eq_true hc
    subst hn
    exact zs_lload hd q
  | astore_n k =>
    have hn : n = 1 := of_decide_eq_true hc
    subst hn
    exact zs_astore_n hd q
  | astore k =>
    have hn : n = 2 := of_decide_eq_true hc
    subst hn
    exact zs_astore hd q
  | istore_n k =>
    have hn : n = 1 := of_decide_eq_true hc
    subst hn
    exact zs_istore_n hd q
  | istore k =>
    have hn : n = 2 := of_decide_eq_true hc
    subst hn
    exact zs_istore hd q
  | lstore_n k =>
    have hn : n = 1 := of_decide_eq_true hc
    subst hn
    exact zs_lstore_n hd q
  | lstore k =>
    have hn : n = 2 := of_decide_eq_true hc
    subst hn
    exact zs_lstore hd q
  | iconst k =>
    replace hc : (decide (n = 1) && _ && _) = true := hc
    simp only [Bool.and_eq_true, decide_eq_true_eq] at hc
    obtain ⟨⟨hn, h1⟩, h2⟩ := hc
    subst hn
    exact zs_iconst h1 h2 hd q
  | bipush k =>
    replace hc : (decide (n = 2) && _ && _) = true := hc
    simp only [Bool.and_eq_true, decide_eq_true_eq] at hc
    obtain ⟨⟨hn, h1⟩, h2⟩ := hc
    subst hn
    exact zs_bipush h1 h2 hd q
  | sipush k =>
    replace hc : (decide (n = 3) && _ && _) = true := hc
    simp only [Bool.and_eq_true, decide_eq_true_eq] at hc
    obtain ⟨⟨hn, h1⟩, h2⟩ := hc
    subst hn
    exact zs_sipush h1 h2 hd q
  | lconst k =>
    have hn : n = 1 := of_decide_eq_true hc
    subst hn
    exact zs_lconst hd q
  | aconst_null =>
    have hn : n = 1 := of_decide_eq_true hc
    subst hn
    exact zs_null hd q
  | iadd =>
    have hn : n = 1 := of_decide_eq_true hc
    subst hn
    exact zs_iadd hd q
  | isub =>
    have hn : n = 1 := of_decide_eq_true hc
    subst hn
    exact zs_isub hd q
  | imul =>
    have hn : n = 1 := of_decide_eq_true hc
    subst hn
    exact zs_imul hd q
  | iand =>
    have hn : n = 1 := of_decide_eq_true hc
    subst hn
    exact zs_iand hd q
  | ior =>
    have hn : n = 1 := of_decide_eq_true hc
    subst hn
    exact zs_ior hd q
  | ixor =>
    have hn : n = 1 := of_decide_eq_true hc
    subst hn
    exact zs_ixor hd q
  | ishl =>
    have hn : n = 1 := of_decide_eq_true hc
    subst hn
    exact zs_ishl hd q
  | ishr =>
    have hn : n = 1 := of_decide_eq_true hc
    subst hn
    exact zs_ishr hd q
  | iushr =>
    have hn : n = 1 := of_decide_eq_true hc
    subst hn
    exact zs_iushr hd q
  | idiv =>
    have hn : n = 1 := of_decide_eq_true hc
    subst hn
    exact zs_idiv hd q
  | irem =>
    have hn : n = 1 := of_decide_eq_true hc
    subst hn
    exact zs_irem hd q
  | ineg =>
    have hn : n = 1 := of_decide_eq_true hc
    subst hn
    exact zs_ineg hd q
  | i2b =>
    have hn : n = 1 := of_decide_eq_true hc
    subst hn
    exact zs_i2b hd q
  | i2s =>
    have hn : n = 1 := of_decide_eq_true hc
    subst hn
    exact zs_i2s hd q
  | i2c =>
    have hn : n = 1 := of_decide_eq_true hc
    subst hn
    exact zs_i2c hd q
  | i2l =>
    have hn : n = 1 := of_decide_eq_true hc
    subst hn
    exact zs_i2l hd q
  | l2i =>
    have hn : n = 1 := of_decide_eq_true hc
    subst hn
    exact zs_l2i hd q
  | ladd =>
    have hn : n = 1 := of_decide_eq_true hc
    subst hn
    exact zs_ladd hd q
  | lsub =>
    have hn : n = 1 := of_decide_eq_true hc
    subst hn
    exact zs_lsub hd q
  | lmul =>
    have hn : n = 1 := of_decide_eq_true hc
    subst hn
    exact zs_lmul hd q
  | land =>
    have hn : n = 1 := of_decide_eq_true hc
    subst hn
    exact zs_land hd q
  | lor =>
    have hn : n = 1 := of_decide_eq_true hc
    subst hn
    exact zs_lor hd q
  | lxor =>
    have hn : n = 1 := of_decide_eq_true hc
    subst hn
    exact zs_lxor hd q
  | lshl =>
    have hn : n = 1 := of_decide_eq_true hc
    subst hn
    exact zs_lshl hd q
  | lushr =>
    have hn : n = 1 := of_decide_eq_true hc
    subst hn
    exact zs_lushr hd q
  | lcmp =>
    have hn : n = 1 := of_decide_eq_true hc
    subst hn
    exact zs_lcmp hd q
  | ldc k =>
    rcases r1 with _ | r1
    · replace hc : (decide (n = 2) && (decide (_ = _) && decide (_ ≤ r3) && decide (r3 < _))) = true := hc
      simp only [Bool.and_eq_true, decide_eq_true_eq] at hc
      obtain ⟨hn, ⟨h1, h2⟩, h3⟩ := hc
      subst hn
      exact zs_ldc0 (hwd k _ h1 rfl) ⟨h2, h3⟩ hd q
    · replace hc : (decide (n = 2) && (decide ((zy i).cls = "LadderLots$Tokens") && decide (1100 ≤ r2) && decide (r2 < 1108) && decide ((zstr.getD (r2 - 1100) (0, "")).1 = k))) = true := hc
      simp only [Bool.and_eq_true, decide_eq_true_eq] at hc
      obtain ⟨hn, ⟨⟨h1, h2⟩, h3⟩, h4⟩ := hc
      subst hn
      exact zs_ldcs h1 h2 h3 h4 hd q
  | ldc_w k =>
    replace hc : (decide (n = 3) && decide (_ = _) && decide (_ ≤ r3) && decide (r3 < _)) = true := hc
    simp only [Bool.and_eq_true, decide_eq_true_eq] at hc
    obtain ⟨⟨⟨hn, h1⟩, h2⟩, h3⟩ := hc
    subst hn
    exact zs_ldcw (hwd k _ h1 rfl) ⟨h2, h3⟩ hd q
  | ldc2_w k =>
    replace hc : (decide (n = 3) && decide (_ = _) && decide (_ ≤ r3) && decide (r3 < _)) = true := hc
    simp only [Bool.and_eq_true, decide_eq_true_eq] at hc
    obtain ⟨⟨⟨hn, h1⟩, h2⟩, h3⟩ := hc
    subst hn
    exact zs_ldc2 (hwd k _ h1 rfl) ⟨h2, h3⟩ hd q
  | getstatic k =>
    rcases r1 with _ | _ | r1
    · replace hc : (decide (n = 3) && (decide (_ = _) && decide (r3 = 1))) = true := hc
      simp only [Bool.and_eq_true, decide_eq_true_eq] at hc
      obtain ⟨hn, h1, h2⟩ := hc
      subst hn
      subst h2
      exact zs_gs0 (hwd k _ h1 rfl) hd q
    · replace hc : (decide (n = 3) && ((decide (r2 = 1000) && decide (_ = _)) || (decide (r2 = 1001) && decide (_ = _)) || (decide (r2 = 1002) && decide (_ = _)))) = true := hc
      simp only [Bool.and_eq_true, Bool.or_eq_true, decide_eq_true_eq] at hc
      obtain ⟨hn, (⟨h1, h2⟩ | ⟨h1, h2⟩) | ⟨h1, h2⟩⟩ := hc
      · subst hn; subst h1
        exact zs_gs1 (hwd k _ h2 rfl) hd q
      · subst hn; subst h1
        exact zs_gs2 (hwd k _ h2 rfl) hd q
      · subst hn; subst h1
        exact zs_gs3 (hwd k _ h2 rfl) hd q
    · exact q.elim
  | iinc k d =>
    replace hc : (decide (n = 3) && _ && _) = true := hc
    simp only [Bool.and_eq_true, decide_eq_true_eq] at hc
    obtain ⟨⟨hn, h1⟩, h2⟩ := hc
    subst hn
    exact zs_iinc hd q
  | ifCond qq o =>
    replace hc : (decide (n = 3) && decide ((pc : Int) + o = (r1 : Int))) = true := hc
    simp only [Bool.and_eq_true, decide_eq_true_eq] at hc
    obtain ⟨hn, h1⟩ := hc
    subst hn
    cases qq
    case eq => exact zs_if_eq h1 hd q
    case ne => exact zs_if_ne h1 hd q
    case lt => exact zs_if_lt h1 hd q
    case ge => exact zs_if_ge h1 hd q
    case gt => exact zs_if_gt h1 hd q
    case le => exact zs_if_le h1 hd q
  | if_icmp qq o =>
    replace hc : (decide (n = 3) && decide ((pc : Int) + o = (r1 : Int))) = true := hc
    simp only [Bool.and_eq_true, decide_eq_true_eq] at hc
    obtain ⟨hn, h1⟩ := hc
    subst hn
    cases qq
    case eq => exact zs_icmp_eq h1 hd q
    case ne => exact zs_icmp_ne h1 hd q
    case lt => exact zs_icmp_lt h1 hd q
    case ge => exact zs_icmp_ge h1 hd q
    case gt => exact zs_icmp_gt h1 hd q
    case le => exact zs_icmp_le h1 hd q
  | if_acmp qq o =>
    replace hc : (decide (n = 3) && decide ((pc : Int) + o = (r1 : Int))) = true := hc
    simp only [Bool.and_eq_true, decide_eq_true_eq] at hc
    obtain ⟨hn, h1⟩ := hc
    subst hn
    cases qq
    case eq => exact zs_acmp_eq h1 hd q
    case ne => exact zs_acmp_ne h1 hd q
  | ifnull o =>
    replace hc : (decide (n = 3) && decide ((pc : Int) + o = (r1 : Int))) = true := hc
    simp only [Bool.and_eq_true, decide_eq_true_eq] at hc
    obtain ⟨hn, h1⟩ := hc
    subst hn
    exact zs_ifnull h1 hd q
  | ifnonnull o =>
    replace hc : (decide (n = 3) && decide ((pc : Int) + o = (r1 : Int))) = true := hc
    simp only [Bool.and_eq_true, decide_eq_true_eq] at hc
    obtain ⟨hn, h1⟩ := hc
    subst hn
    exact zs_ifnonnull h1 hd q
  | goto o =>
    replace hc : (decide (n = 3) && decide ((pc : Int) + o = (r1 : Int))) = true := hc
    simp only [Bool.and_eq_true, decide_eq_true_eq] at hc
    obtain ⟨hn, h1⟩ := hc
    subst hn
    exact zs_goto h1 hd q
  | tableswitch d lo hi os => exact zs_tab hd q
  | lookupswitch d ps => exact zs_look hc hd q
  | iaload =>
    have hn : n = 1 := of_decide_eq_true hc
    subst hn
    exact zs_iaload hd q
  | baload =>
    have hn : n = 1 := of_decide_eq_true hc
    subst hn
    exact zs_baload hd q
  | saload =>
    have hn : n = 1 := of_decide_eq_true hc
    subst hn
    exact zs_saload hd q
  | laload =>
    have hn : n = 1 := of_decide_eq_true hc
    subst hn
    exact zs_laload hd q
  | aaload =>
    have hn : n = 1 := of_decide_eq_true hc
    subst hn
    exact zs_aaload hd q
  | iastore =>
    have hn : n = 1 := of_decide_eq_true hc
    subst hn
    exact zs_iastore hd q
  | sastore =>
    have hn : n = 1 := of_decide_eq_true hc
    subst hn
    exact zs_sastore hd q
  | bastore =>
    have hn : n = 1 := of_decide_eq_true hc
    subst hn
    exact zs_bastore hd q
  | lastore =>
    have hn : n = 1 := of_decide_eq_true hc
    subst hn
    exact zs_lastore hd q
  | aastore =>
    have hn : n = 1 := of_decide_eq_true hc
    subst hn
    exact zs_aastore hd q
  | arraylength =>
    have hn : n = 1 := of_decide_eq_true hc
    subst hn
    exact zs_alen hd q
  | getfield k =>
    replace hc : (decide (n = 3) && zfl i k r1 r2 r3) = true := hc
    simp only [Bool.and_eq_true, decide_eq_true_eq] at hc
    obtain ⟨hn, h1⟩ := hc
    subst hn
    exact zs_getfield F.2.2.2.1 h1 (hwd k) hd q
  | putfield k =>
    replace hc : (decide (n = 3) && decide (r1 < 13) && zfl i k r1 r2 r3 && zfin i r1 r2) = true := hc
    simp only [Bool.and_eq_true, decide_eq_true_eq] at hc
    obtain ⟨⟨⟨hn, h0⟩, h1⟩, h2⟩ := hc
    subst hn
    exact zs_putfield F.2.2.2.1 h1 h0 h2 (hwd k) hd q
  | new k =>
    replace hc : (decide (n = 3) && (match vwCl[r1]? with | some (CC, _, N) => decide (N = r2) && decide (zword i k = some (.classLink (zy i).cls k CC)) | none => false)) = true := hc
    cases hv : vwCl[r1]? with
    | none => rw [hv] at hc; simp at hc
    | some t =>
      obtain ⟨CC, T, N⟩ := t
      rw [hv] at hc
      simp only [Bool.and_eq_true, decide_eq_true_eq] at hc
      obtain ⟨hn, h1, h2⟩ := hc
      subst hn
      subst h1
      exact zs_new F.2.2.2.1 hv (hwd k _ h2 rfl) hd q
  | newarray t =>
    have hn : n = 2 := of_decide_eq_true hc
    subst hn
    cases t
    case int => exact zs_newarray_int (F.2.2.2.2.1 _ (by decide)) hd q
    case long => exact zs_newarray_long (F.2.2.2.2.1 _ (by decide)) hd q
    case short => exact zs_newarray_short (F.2.2.2.2.1 _ (by decide)) hd q
    case byte => exact zs_newarray_byte (F.2.2.2.2.1 _ (by decide)) hd q
    case boolean => exact zs_newarray_boolean (F.2.2.2.2.1 _ (by decide)) hd q
    all_goals (exfalso; replace q : zNewA (zSnd D B cv cA X) i pc c sl ls st sh h Q 2 90 0 := q; unfold zNewA at q; split at q <;> first | exact q | exact absurd q.2.1 (by decide))
  | anewarray k =>
    replace hc : (decide (n = 3) && decide (_ = _)) = true := hc
    simp only [Bool.and_eq_true, decide_eq_true_eq] at hc
    obtain ⟨hn, h1⟩ := hc
    subst hn
    exact zs_anewarray (hwd k _ h1 rfl) hd q
  | invokevirtual k =>
    cases hz : Nat.beq r1 9998 with
    | true =>
      have : r1 = 9998 := Nat.eq_of_beq_eq_true hz
      subst this
      exact q.elim
    | false =>
      replace hc : (bif Nat.beq r1 9998 then true else (decide (n = 3) && zcl i k r1 r2 1 && decide (0 ≤ r3) && decide (zcn r3.toNat = (zy r1).cls) && (decide (r3.toNat < 13) || decide (r3.toNat = 200)))) = true := hc
      rw [hz, cond_false] at hc
      unfold zcl at hc
      simp only [Bool.and_eq_true, Bool.or_eq_true, decide_eq_true_eq] at hc
      obtain ⟨⟨⟨⟨hn, ⟨⟨⟨⟨⟨h1, h2⟩, h3⟩, h4⟩, h5⟩, h6⟩⟩, -⟩, h8⟩, h9⟩ := hc
      subst hn
      exact zs_virtual (hwd k _ h3 rfl) (F.2.2.1 r1 h1) h2 h4 h5 h6 h8 h9 hd (zcg h1 q)
  | invokestatic k =>
    cases hz : Nat.beq r1 9998 with
    | true =>
      have : r1 = 9998 := Nat.eq_of_beq_eq_true hz
      subst this
      exact q.elim
    | false =>
      replace hc : (bif Nat.beq r1 9998 then true else bif Nat.blt 9000 r1 then (decide (n = 3) && decide (1 ≤ (zrm i).1) && decide (23 ≤ (zrm i).2) && zmth i k r1) else (decide (n = 3) && zcl i k r1 r2 2)) = true := hc
      replace q : (bif Nat.blt 9000 r1 then zMath (zSnd D B cv cA X) i pc c sl ls st sh h Q r1 else zCallG (zSnd D B cv cA X) i pc c sl ls st sh h Q r1 r2 True) := q
      rw [hz, cond_false] at hc
      cases h9 : Nat.blt 9000 r1 with
      | false =>
        rw [h9, cond_false] at hc q
        unfold zcl at hc
        simp only [Bool.and_eq_true, decide_eq_true_eq] at hc
        obtain ⟨hn, ⟨⟨⟨⟨⟨h1, h2⟩, h3⟩, h4⟩, h5⟩, h6⟩⟩ := hc
        subst hn
        exact zs_static (hwd k _ h3 rfl) (F.2.2.1 r1 h1) h2 h4 h5 h6 hd (zcg h1 q)
      | true =>
        rw [h9, cond_true] at hc q
        simp only [Bool.and_eq_true, decide_eq_true_eq] at hc
        obtain ⟨⟨⟨hn, h1⟩, h2⟩, h3⟩ := hc
        subst hn
        unfold zMath at q
        unfold zmth at h3
        obtain ⟨f0, ⟨f1, g1⟩, ⟨f2, g2⟩, ⟨f3, g3⟩, ⟨f4, g4⟩, ⟨f5, g5⟩⟩ := F.1
        cases m1 : Nat.beq r1 9001 with
        | true => rw [m1, cond_true] at q h3; exact zs_mmax (hwd k _ (of_decide_eq_true h3) rfl) f1 f0 g1 h1 h2 hd q
        | false =>
        rw [m1, cond_false] at q h3
        cases m2 : Nat.beq r1 9002 with
        | true => rw [m2, cond_true] at q h3; exact zs_mmin (hwd k _ (of_decide_eq_true h3) rfl) f2 f0 g2 h1 h2 hd q
        | false =>
        rw [m2, cond_false] at q h3
        cases m3 : Nat.beq r1 9003 with
        | true => rw [m3, cond_true] at q h3; exact zs_mabs (hwd k _ (of_decide_eq_true h3) rfl) f3 f0 g3 h1 h2 hd q
        | false =>
        rw [m3, cond_false] at q h3
        cases m4 : Nat.beq r1 9004 with
        | true => rw [m4, cond_true] at q h3; exact zs_lmax (hwd k _ (of_decide_eq_true h3) rfl) f4 f0 g4 h1 h2 hd q
        | false =>
        rw [m4, cond_false] at q h3
        cases m5 : Nat.beq r1 9005 with
        | true => rw [m5, cond_true] at q; exact zs_lmin (hwd k _ (of_decide_eq_true h3) rfl) f5 f0 g5 h1 h2 hd q
        | false => rw [m5] at q; exact q.elim
  | invokespecial k =>
    rcases r2 with _ | r2
    · cases hz : Nat.beq r1 9998 with
      | true =>
        have : r1 = 9998 := Nat.eq_of_beq_eq_true hz
        subst this
        exact q.elim
      | false =>
        replace hc : (bif Nat.beq r1 9998 then true else (decide (n = 3) && decide (zword i k = some (.methodLink (zy i).cls k Jvm.Lib.objectInit)) && decide (1 ≤ (zrm i).1) && decide (20 ≤ (zrm i).2))) = true := hc
        rw [hz, cond_false] at hc
        simp only [Bool.and_eq_true, decide_eq_true_eq] at hc
        obtain ⟨⟨⟨hn, h1⟩, h2⟩, h3⟩ := hc
        subst hn
        exact zs_objinit (hwd k _ h1 rfl) F.2.2.2.2.2.1 F.2.2.2.2.2.2 h2 h3 hd (zog q)
    · cases hz : Nat.beq r1 9998 with
      | true =>
        have : r1 = 9998 := Nat.eq_of_beq_eq_true hz
        subst this
        exact q.elim
      | false =>
        replace hc : (bif Nat.beq r1 9998 then true else (decide (n = 3) && zcl i k r1 (r2 + 1) 0)) = true := hc
        rw [hz, cond_false] at hc
        unfold zcl at hc
        simp only [Bool.and_eq_true, decide_eq_true_eq] at hc
        obtain ⟨hn, ⟨⟨⟨⟨⟨h1, h2⟩, h3⟩, h4⟩, h5⟩, h6⟩⟩ := hc
        subst hn
        exact zs_special (hwd k _ h3 rfl) (F.2.2.1 r1 h1) h2 h4 h5 h6 hd (zcg h1 q)
  | ireturn =>
    have hn : n = 1 := of_decide_eq_true hc
    subst hn
    exact zs_ireturn hd q
  | lreturn =>
    replace hc : (decide (n = 1) && decide ((zinfo i).2.1 = 2)) = true := hc
    simp only [Bool.and_eq_true, decide_eq_true_eq] at hc
    obtain ⟨hn, h1⟩ := hc
    subst hn
    exact zs_lreturn h1 hd q
  | areturn =>
    replace hc : (decide (n = 1) && decide ((zinfo i).2.1 = 7)) = true := hc
    simp only [Bool.and_eq_true, decide_eq_true_eq] at hc
    obtain ⟨hn, h1⟩ := hc
    subst hn
    exact zs_areturn h1 hd q
  | return_ =>
    replace hc : (decide (n = 1) && decide ((zinfo i).2.1 = 0)) = true := hc
    simp only [Bool.and_eq_true, decide_eq_true_eq] at hc
    obtain ⟨hn, h1⟩ := hc
    subst hn
    exact zs_vreturn h1 hd q
  | dup =>
    have hn : n = 1 := of_decide_eq_true hc
    subst hn
    exact zs_dup hd q
  | dup2 =>
    have hn : n = 1 := of_decide_eq_true hc
    subst hn
    exact zs_dup2 hd q
  | pop =>
    have hn : n = 1 := of_decide_eq_true hc
    subst hn
    exact zs_pop hd q
  | _ => exact q.elim
theorem zsound (F : zFacts) {i pc c sl : Nat} {ls : zLL} {st : List zAV} {sh : zSH} {h : zHP} {Q : zPO} (q : zAt X i pc c sl ls st sh h Q) : zSnd D B cv cA X i pc c sl ls st sh h Q := zAt.ind q _ (fun _ _ _ _ _ _ _ _ _ z => zstep_ok F z)
end zSi
