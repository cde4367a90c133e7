/-! THE RULES HOLD OF THE MACHINE: cells -/
section zSe
variable {D : va_G} {B : Nat} {cv : Nat → Value} {cA : Nat → ClassId} {X : List Int}
variable {i pc c sl n r1 r2 : Nat} {r3 : Int} {ls : zLL} {st : List zAV} {sh : zSH} {h : zHP} {Q : zPO}
theorem zsh_lo {a : Nat} (ha : a < 1000) : zsh X sh a = sh.getD a (99, 0) := by
  unfold zsh
  rw [show Nat.blt a 1000 = true from Nat.ble_eq_true_of_le ha]
  rfl
theorem zsh_hi {a : Nat} (ha : ¬ a < 1000) : zsh X sh a = zCs X a := by
  unfold zsh
  rw [show Nat.blt a 1000 = false from by rw [← Bool.not_eq_true]; exact fun z => ha (Nat.le_of_ble_eq_true z)]
  rfl
theorem zrd_lo {a k : Nat} (ha : a < 1000) : zrd X h a k = h a k := by
  unfold zrd
  rw [show Nat.blt a 1000 = true from Nat.ble_eq_true_of_le ha]
  rfl
theorem zrd_hi {a k : Nat} (ha : ¬ a < 1000) : zrd X h a k = zCk X a k := by
  unfold zrd
  rw [show Nat.blt a 1000 = false from by rw [← Bool.not_eq_true]; exact fun z => ha (Nat.le_of_ble_eq_true z)]
  rfl
theorem zcr_lo {a : Nat} (ha : a < 1000) : zcr B cv a = .ref (B + a) := by
  unfold zcr
  rw [show Nat.blt a 1000 = true from Nat.ble_eq_true_of_le ha]
  rfl
theorem zcr_hi {a : Nat} (ha : ¬ a < 1000) : zcr B cv a = cv a := by
  unfold zcr
  rw [show Nat.blt a 1000 = false from by rw [← Bool.not_eq_true]; exact fun z => ha (Nat.le_of_ble_eq_true z)]
  rfl
/-- a cell that is made, of kind t -/
theorem zlo {a t : Nat} (ha : a < 1000) (ht : (zsh X sh a).1 = t) (h99 : t ≠ 99) : a < sh.length ∧ sh.getD a (99, 0) = (t, (zsh X sh a).2) := by
  rw [zsh_lo ha] at ht ⊢
  by_cases hl : a < sh.length
  · exact ⟨hl, by rw [← ht]⟩
  · rw [List.getD_eq_getElem?_getD, List.getElem?_eq_none (by omega)] at ht
    exact absurd ht.symm h99
theorem zhi {a : Nat} (ha : ¬ a < 1000) : (a = 1000 ∧ zsh X sh a = (0, 8)) ∨ (a = 1001 ∧ zsh X sh a = (1, 7)) ∨ (a = 1900 ∧ zsh X sh a = (0, X.length)) ∨ (∃ j, j < 8 ∧ a = 1100 + j ∧ zsh X sh a = (216, 2)) ∨ (∃ j, j < 8 ∧ a = 1200 + j ∧ zsh X sh a = (3, (zStr.getD j []).length)) ∨ zsh X sh a = (99, 0) := by
  rw [zsh_hi ha]
  unfold zCs
  by_cases e1 : a = 1000
  · subst e1; exact Or.inl ⟨rfl, rfl⟩
  · rw [show Nat.beq a 1000 = false from by rw [← Bool.not_eq_true]; exact fun z => e1 (Nat.eq_of_beq_eq_true z)]
    by_cases e2 : a = 1001
    · subst e2; exact Or.inr (Or.inl ⟨rfl, rfl⟩)
    · rw [show Nat.beq a 1001 = false from by rw [← Bool.not_eq_true]; exact fun z => e2 (Nat.eq_of_beq_eq_true z)]
      by_cases e3 : a = 1900
      · subst e3; exact Or.inr (Or.inr (Or.inl ⟨rfl, rfl⟩))
      · rw [show Nat.beq a 1900 = false from by rw [← Bool.not_eq_true]; exact fun z => e3 (Nat.eq_of_beq_eq_true z)]
        by_cases e4 : 1100 ≤ a ∧ a < 1108
        · rw [show (Nat.ble 1100 a && Nat.blt a 1108) = true from by rw [Bool.and_eq_true]; exact ⟨Nat.ble_eq_true_of_le e4.1, Nat.ble_eq_true_of_le e4.2⟩]
          exact Or.inr (Or.inr (Or.inr (Or.inl ⟨a - 1100, by omega, by omega, rfl⟩)))
        · rw [show (Nat.ble 1100 a && Nat.blt a 1108) = false from by rw [← Bool.not_eq_true, Bool.and_eq_true]; exact fun z => e4 ⟨Nat.le_of_ble_eq_true z.1, Nat.le_of_ble_eq_true z.2⟩]
          by_cases e5 : 1200 ≤ a ∧ a < 1208
          · rw [show (Nat.ble 1200 a && Nat.blt a 1208) = true from by rw [Bool.and_eq_true]; exact ⟨Nat.ble_eq_true_of_le e5.1, Nat.ble_eq_true_of_le e5.2⟩]
            exact Or.inr (Or.inr (Or.inr (Or.inr (Or.inl ⟨a - 1200, by omega, by omega, rfl⟩))))
          · rw [show (Nat.ble 1200 a && Nat.blt a 1208) = false from by rw [← Bool.not_eq_true, Bool.and_eq_true]; exact fun z => e5 ⟨Nat.le_of_ble_eq_true z.1, Nat.le_of_ble_eq_true z.2⟩]
            exact Or.inr (Or.inr (Or.inr (Or.inr (Or.inr rfl))))
theorem zgetD_ok {l : List Int} {P : Int → Prop} (hl : ∀ x ∈ l, P x) (h0 : P 0) (j : Nat) : P (l.getD j 0) := by
  rw [List.getD_eq_getElem?_getD]
  cases e : l[j]? with
  | none => exact h0
  | some x => exact hl x (List.mem_of_getElem? e)
theorem zWR.at {H : Heap} {a t m : Nat} (Wd : zWR D B cv cA sh h H) (hl : a < sh.length) (e : sh.getD a (99, 0) = (t, m)) : (zws B cv cA sh h)[a]? = some (B + a, zrow B cv cA (t, m) (h a)) := by rw [zws_get hl, e]
theorem zWR.ok {H : Heap} {a t m : Nat} (Wd : zWR D B cv cA sh h H) (hl : a < sh.length) (e : sh.getD a (99, 0) = (t, m)) : zokt t m ∧ ∀ j, zokc t j (h a j) := by
  have := Wd.2.2.1 a hl
  rw [e] at this
  exact this
theorem zWR.put {H H1 : Heap} {a t m j : Nat} {x : Int} (Wd : zWR D B cv cA sh h H) (hl : a < sh.length) (e : sh.getD a (99, 0) = (t, m)) (hx : zokc t j x) (he : va_at D vwCl (B + a, zrow B cv cA (t, m) (fun q => if q = j then x else h a q)) H1) (z : H1.size = H.size) (oq : ∀ q : Nat, q ≠ B + a → H1[q]? = H[q]?) : zWR D B cv cA sh (zup h a j x) H1 := by
  refine ⟨by rw [z]; exact Wd.1, ?_, zokh_up Wd.2.2.1 (by rw [e]; exact hx), Wd.2.2.2⟩
  rw [← zws_set hl rfl, e]
  exact Wd.2.1.set zws_D (zws_get hl) he oq

theorem zFac_ok : ∀ x ∈ zFac, z32 x := by
  have h : ∀ x ∈ zFac, -2147483648 ≤ x ∧ x < 2147483648 := by decide +kernel
  exact h
theorem zPat_ok : ∀ x ∈ zPat, z64 x := by
  have h : ∀ x ∈ zPat, -9223372036854775808 ≤ x ∧ x < 9223372036854775808 := by decide +kernel
  exact h
theorem zr16 {x : Int} (h : -32768 ≤ x ∧ x ≤ 32767) : z32 x := ⟨by omega, by omega⟩
theorem zr8 {x : Int} (h : -128 ≤ x ∧ x ≤ 127) : z32 x := ⟨by omega, by omega⟩
theorem zr01 {x : Int} (h : x = 0 ∨ x = 1) : z32 x := ⟨by omega, by omega⟩
theorem zb16_c (x : Int) : -32768 ≤ Int.bmod x 65536 ∧ Int.bmod x 65536 ≤ 32767 := by rw [Int.bmod_def]; omega
theorem zb8_c (x : Int) : -128 ≤ Int.bmod x 256 ∧ Int.bmod x 256 ≤ 127 := by rw [Int.bmod_def]; omega
theorem zCk_s {j k : Nat} (hj : j < 8) : zCk X (1200 + j) k = (zStr.getD j []).getD k 0 := by
  rcases (show j = 0 ∨ j = 1 ∨ j = 2 ∨ j = 3 ∨ j = 4 ∨ j = 5 ∨ j = 6 ∨ j = 7 by omega) with e | e | e | e | e | e | e | e <;> subst e <;> rfl
theorem zStr_ok {j : Nat} (hj : j < 8) : ∀ x ∈ zStr.getD j [], z32 x := by
  have h : ∀ l ∈ zStr, ∀ x ∈ l, -2147483648 ≤ x ∧ x < 2147483648 := by decide +kernel
  intro x hx
  rw [List.getD_eq_getElem?_getD] at hx
  cases e : zStr[j]? with
  | none => rw [e] at hx; cases hx
  | some l => rw [e] at hx; exact h l (List.mem_of_getElem? e) x hx
theorem zCk_t {j : Nat} (hj : j < 8) : zCk X (1100 + j) 0 = ((1200 + j : Nat) : Int) ∧ zCk X (1100 + j) 1 = 0 := by
  rcases (show j = 0 ∨ j = 1 ∨ j = 2 ∨ j = 3 ∨ j = 4 ∨ j = 5 ∨ j = 6 ∨ j = 7 by omega) with e | e | e | e | e | e | e | e <;> subst e <;> exact ⟨rfl, rfl⟩
theorem zs_iaload (hd : decode (zb i) pc = .ok (.iaload, 1)) (q : zALd X (zSnd D B cv cA X) i pc c sl ls st sh h Q 1 0 0) : zSnd D B cv cA X i pc c sl ls st sh h Q := by
  intro p l e R s m args below meth cd H locs cells slots lsc QQ C K Wd L ll oL oS S b1 b2 E
  unfold zALd at q
  split at q
  · rename_i k a r
    obtain ⟨ht, k0, k1, q⟩ := q
    have ht : (zsh X sh a).1 = 0 := ht.elim id id
    by_cases ha : a < 1000
    · obtain ⟨hl, e⟩ := zlo ha ht (by decide)
      rw [zrd_lo ha] at q
      have k2 := q _ _ _ _ _ _ _ _ _ _ _ _ _ _ _ _ C K Wd L ll oL (zokS.c (v := .inl _) ((Wd.ok hl e).2 _) oS.t.t) S b1 b2 E
      rw [List.map_cons, List.map_cons, show zcv B cv (.inr (.inr (some a))) = .ref (B + a) from zcr_lo ha]
      refine va_iald C.1 C.2.1 K.1 Wd.2.1 a 0 (Wd.at hl e) rfl (zi_in oS.h k0 k1) hd ?_
      rw [zi_cl oS.h]
      exact k2
    · rw [zrd_hi ha] at q
      rcases zhi (X := X) (sh := sh) ha with ⟨e, g⟩ | ⟨e, g⟩ | ⟨e, g⟩ | ⟨j, -, e, g⟩ | ⟨j, -, e, g⟩ | g
      · obtain ⟨t, f1, -, f3⟩ := K.2.1
        rw [g] at k1
        subst e
        have k2 := q _ _ _ _ _ _ _ _ _ _ _ _ _ _ _ _ C K Wd L ll oL (zokS.c (v := .inl _) (zgetD_ok (P := z32) zFac_ok z32_0 _) oS.t.t) S b1 b2 E
        rw [List.map_cons, List.map_cons, show zcv B cv (.inr (.inr (some 1000))) = .ref t from f1]
        refine va_ti C.1 C.2.1 f3 S (zi_in oS.h k0 k1) rfl hd ?_
        rw [zi_cl oS.h]
        exact k2
      · rw [g] at ht; cases ht
      · obtain ⟨t, f1, f3⟩ := K.2.2.2.1
        rw [g] at k1
        subst e
        have k2 := q _ _ _ _ _ _ _ _ _ _ _ _ _ _ _ _ C K Wd L ll oL (zokS.c (v := .inl _) (K.2.2.2.2.2.2.2.2.1 _) oS.t.t) S b1 b2 E
        rw [List.map_cons, List.map_cons, show zcv B cv (.inr (.inr (some 1900))) = .ref t from f1]
        refine va_ti C.1 C.2.1 f3 S (zi_in oS.h k0 k1) rfl hd ?_
        rw [zi_cl oS.h]
        exact k2
      · rw [g] at ht; cases ht
      · rw [g] at ht; cases ht
      · rw [g] at ht; cases ht
  · exact q.elim
theorem zs_saload (hd : decode (zb i) pc = .ok (.saload, 1)) (q : zALd X (zSnd D B cv cA X) i pc c sl ls st sh h Q 1 2 2) : zSnd D B cv cA X i pc c sl ls st sh h Q := by
  intro p l e R s m args below meth cd H locs cells slots lsc QQ C K Wd L ll oL oS S b1 b2 E
  unfold zALd at q
  split at q
  · rename_i k a r
    obtain ⟨ht, k0, k1, q⟩ := q
    have ht : (zsh X sh a).1 = 2 := ht.elim id id
    by_cases ha : a < 1000
    · obtain ⟨hl, e⟩ := zlo ha ht (by decide)
      rw [zrd_lo ha] at q
      have k2 := q _ _ _ _ _ _ _ _ _ _ _ _ _ _ _ _ C K Wd L ll oL (zokS.c (v := .inl _) (zr16 ((Wd.ok hl e).2 _)) oS.t.t) S b1 b2 E
      rw [List.map_cons, List.map_cons, show zcv B cv (.inr (.inr (some a))) = .ref (B + a) from zcr_lo ha]
      refine va_sald C.1 C.2.1 K.1 Wd.2.1 a 2 (Wd.at hl e) rfl (zi_in oS.h k0 k1) hd ?_
      rw [zi_cl oS.h]
      exact k2
    · rcases zhi (X := X) (sh := sh) ha with ⟨e, g⟩ | ⟨e, g⟩ | ⟨e, g⟩ | ⟨j, -, e, g⟩ | ⟨j, -, e, g⟩ | g <;> (rw [g] at ht; cases ht)
  · exact q.elim
theorem zs_baload (hd : decode (zb i) pc = .ok (.baload, 1)) (q : zALd X (zSnd D B cv cA X) i pc c sl ls st sh h Q 1 3 4) : zSnd D B cv cA X i pc c sl ls st sh h Q := by
  intro p l e R s m args below meth cd H locs cells slots lsc QQ C K Wd L ll oL oS S b1 b2 E
  unfold zALd at q
  split at q
  · rename_i k a r
    obtain ⟨ht, k0, k1, q⟩ := q
    by_cases ha : a < 1000
    · rw [zrd_lo ha] at q
      rw [List.map_cons, List.map_cons, show zcv B cv (.inr (.inr (some a))) = .ref (B + a) from zcr_lo ha]
      rcases ht with ht | ht
      · obtain ⟨hl, e⟩ := zlo ha ht (by decide)
        have k2 := q _ _ _ _ _ _ _ _ _ _ _ _ _ _ _ _ C K Wd L ll oL (zokS.c (v := .inl _) (zr8 ((Wd.ok hl e).2 _)) oS.t.t) S b1 b2 E
        refine va_bald C.1 C.2.1 K.1 Wd.2.1 a 3 (Wd.at hl e) rfl (zi_in oS.h k0 k1) hd ?_
        rw [zi_cl oS.h]
        exact k2
      · obtain ⟨hl, e⟩ := zlo ha ht (by decide)
        have k2 := q _ _ _ _ _ _ _ _ _ _ _ _ _ _ _ _ C K Wd L ll oL (zokS.c (v := .inl _) (zr01 ((Wd.ok hl e).2 _)) oS.t.t) S b1 b2 E
        refine va_zald C.1 C.2.1 K.1 Wd.2.1 a 4 (Wd.at hl e) rfl (zi_in oS.h k0 k1) hd ?_
        rw [zi_cl oS.h]
        exact k2
    · rw [zrd_hi ha] at q
      rcases zhi (X := X) (sh := sh) ha with ⟨e, g⟩ | ⟨e, g⟩ | ⟨e, g⟩ | ⟨j, -, e, g⟩ | ⟨j, hj, e, g⟩ | g
      · rw [g] at ht; rcases ht with ht | ht <;> cases ht
      · rw [g] at ht; rcases ht with ht | ht <;> cases ht
      · rw [g] at ht; rcases ht with ht | ht <;> cases ht
      · rw [g] at ht; rcases ht with ht | ht <;> cases ht
      · obtain ⟨t, u, -, f2, -, -, -, f6, -⟩ := K.2.2.2.2.2.2.1 j hj
        rw [g] at k1
        subst e
        have e3 : zCk X (1200 + j) k.toNat = (zStr.getD j []).getD k.toNat 0 := zCk_s hj
        rw [e3] at q
        have k2 := q _ _ _ _ _ _ _ _ _ _ _ _ _ _ _ _ C K Wd L ll oL (zokS.c (v := .inl _) (zgetD_ok (P := z32) (zStr_ok hj) z32_0 _) oS.t.t) S b1 b2 E
        rw [List.map_cons, List.map_cons, show zcv B cv (.inr (.inr (some (1200 + j)))) = .ref u from (zcr_hi ha).trans f2]
        refine va_tb C.1 C.2.1 f6 S (zi_in oS.h k0 k1) rfl hd ?_
        rw [zi_cl oS.h]
        exact k2
      · rw [g] at ht; rcases ht with ht | ht <;> cases ht
  · exact q.elim
theorem zs_laload (hd : decode (zb i) pc = .ok (.laload, 1)) (q : zALdL X (zSnd D B cv cA X) i pc c sl ls st sh h Q 1) : zSnd D B cv cA X i pc c sl ls st sh h Q := by
  intro p l e R s m args below meth cd H locs cells slots lsc QQ C K Wd L ll oL oS S b1 b2 E
  unfold zALdL at q
  split at q
  · rename_i k a r
    obtain ⟨ht, k0, k1, q⟩ := q
    by_cases ha : a < 1000
    · obtain ⟨hl, e⟩ := zlo ha ht (by decide)
      rw [zrd_lo ha] at q
      have k2 := q _ _ _ _ _ _ _ _ _ _ _ _ _ _ _ _ C K Wd L ll oL (zokS.c (v := .inr (.inl _)) ((Wd.ok hl e).2 _) oS.t.t) S b1 b2 E
      rw [List.map_cons, List.map_cons, show zcv B cv (.inr (.inr (some a))) = .ref (B + a) from zcr_lo ha]
      refine va_lald C.1 C.2.1 K.1 Wd.2.1 a 1 (Wd.at hl e) rfl (zi_in oS.h k0 k1) hd ?_
      rw [zi_cl oS.h]
      exact k2
    · rw [zrd_hi ha] at q
      rcases zhi (X := X) (sh := sh) ha with ⟨e, g⟩ | ⟨e, g⟩ | ⟨e, g⟩ | ⟨j, -, e, g⟩ | ⟨j, -, e, g⟩ | g
      · rw [g] at ht; cases ht
      · obtain ⟨t, f1, -, f3⟩ := K.2.2.1
        rw [g] at k1
        subst e
        have k2 := q _ _ _ _ _ _ _ _ _ _ _ _ _ _ _ _ C K Wd L ll oL (zokS.c (v := .inr (.inl _)) (zgetD_ok (P := z64) zPat_ok ⟨by decide, by decide⟩ _) oS.t.t) S b1 b2 E
        rw [List.map_cons, List.map_cons, show zcv B cv (.inr (.inr (some 1001))) = .ref t from f1]
        refine va_tl C.1 C.2.1 f3 S (zi_in oS.h k0 k1) rfl hd ?_
        rw [zi_cl oS.h]
        exact k2
      · rw [g] at ht; cases ht
      · rw [g] at ht; cases ht
      · rw [g] at ht; cases ht
      · rw [g] at ht; cases ht
  · exact q.elim
theorem zs_aaload (hd : decode (zb i) pc = .ok (.aaload, 1)) (q : zALdR X (zSnd D B cv cA X) i pc c sl ls st sh h Q 1) : zSnd D B cv cA X i pc c sl ls st sh h Q := by
  intro p l e R s m args below meth cd H locs cells slots lsc QQ C K Wd L ll oL oS S b1 b2 E
  unfold zALdR at q
  split at q
  · rename_i k a r
    obtain ⟨ha, ht, k0, k1, q⟩ := q
    obtain ⟨hl, e⟩ := zlo ha ht (by decide)
    rw [zrd_lo ha] at q
    rw [List.map_cons, List.map_cons, show zcv B cv (.inr (.inr (some a))) = .ref (B + a) from zcr_lo ha]
    refine va_aldq C.1 C.2.1 K.1 Wd.2.1 a 5 (Wd.at hl e) rfl (zi_in oS.h k0 k1) hd ?_
    rw [zi_cl oS.h]
    have o5 : -1 ≤ h a k.toNat ∧ h a k.toNat < 1000 := (Wd.ok hl e).2 k.toNat
    rcases q with ⟨y, y1, q⟩ | ⟨y1, q⟩
    · have k2 := q _ _ _ _ _ _ _ _ _ _ _ _ _ _ _ _ C K Wd L ll oL (zokS.c (v := .inr (.inr (some y))) trivial oS.t.t) S b1 b2 E
      rw [List.map_cons, show zcv B cv (.inr (.inr (some y))) = .ref (B + y) from zcr_lo (by omega)] at k2
      rw [y1] at o5 ⊢
      rw [if_neg (by omega), Int.toNat_natCast]
      exact k2
    · have k2 := q _ _ _ _ _ _ _ _ _ _ _ _ _ _ _ _ C K Wd L ll oL (zokS.c (v := .inr (.inr none)) trivial oS.t.t) S b1 b2 E
      rw [y1, if_pos (by omega)]
      exact k2
  · exact q.elim
theorem zs_iastore (hd : decode (zb i) pc = .ok (.iastore, 1)) (q : zASt X (zSnd D B cv cA X) i pc c sl ls st sh h Q 1 0 (fun x => x)) : zSnd D B cv cA X i pc c sl ls st sh h Q := by
  intro p l e R s m args below meth cd H locs cells slots lsc QQ C K Wd L ll oL oS S b1 b2 E
  unfold zASt at q
  split at q
  · rename_i v k a r
    obtain ⟨ha, ht, k0, k1, q⟩ := q
    obtain ⟨hl, e⟩ := zlo ha ht (by decide)
    rw [List.map_cons, List.map_cons, List.map_cons, show zcv B cv (.inr (.inr (some a))) = .ref (B + a) from zcr_lo ha]
    have hin := zi_in (n := (zsh X sh a).2) oS.t.h k0 k1
    refine W.iast C.1 C.2.1 (Wd.2.1 a _ (Wd.at hl e)) ((K.1.2 0 _ rfl).1 (zsh X sh a).2 (fun j => .int (Int32.ofInt (h a j)))) (fun q => by cases q) (by show ¬ (_ < 0 ∨ (arrV _ _ _).slots.size ≤ _); rw [arrV_size]; exact hin) rfl rfl hd fun H1 g z oq => ?_
    refine q _ _ _ _ _ _ _ _ _ _ _ _ _ _ _ _ C K (Wd.put hl e (x := v) (oS.h) ?_ z oq) L ll oL oS.t.t.t (S.put z oq (Nat.le_add_right B a)) b1 b2 E
    show H1[B + a]? = some (vp_cell (cA 0) ((zsh X sh a).2, .inl (fun j => Int32.ofInt (if j = k.toNat then v else h a j))))
    rw [g, zi_cl oS.t.h]
    have vc := vp_cell_i
    rw [show vp_cell (cA 0) ((zsh X sh a).2, .inl (fun j => Int32.ofInt (h a j))) = arrV (cA 0) (zsh X sh a).2 (fun j => .int (Int32.ofInt (h a j))) from rfl, show vp_cell (cA 0) ((zsh X sh a).2, .inl (fun j => Int32.ofInt (if j = k.toNat then v else h a j))) = arrV (cA 0) (zsh X sh a).2 (fun j => .int (Int32.ofInt (if j = k.toNat then v else h a j))) from rfl, arrV_store]
    congr 2
    funext j
    by_cases hj : j = k.toNat
    · simp only [updV, if_pos hj]
    · simp only [updV, if_neg hj]
  · exact q.elim
theorem zs_sastore (hd : decode (zb i) pc = .ok (.sastore, 1)) (q : zASt X (zSnd D B cv cA X) i pc c sl ls st sh h Q 1 2 (fun x => Int.bmod x 65536)) : zSnd D B cv cA X i pc c sl ls st sh h Q := by
  intro p l e R s m args below meth cd H locs cells slots lsc QQ C K Wd L ll oL oS S b1 b2 E
  unfold zASt at q
  split at q
  · rename_i v k a r
    obtain ⟨ha, ht, k0, k1, q⟩ := q
    obtain ⟨hl, e⟩ := zlo ha ht (by decide)
    rw [List.map_cons, List.map_cons, List.map_cons, show zcv B cv (.inr (.inr (some a))) = .ref (B + a) from zcr_lo ha]
    have hin := zi_in (n := (zsh X sh a).2) oS.t.h k0 k1
    refine W.sast C.1 C.2.1 (Wd.2.1 a _ (Wd.at hl e)) ((K.1.2 2 _ rfl).1 (zsh X sh a).2 (fun j => .int (Int32.ofInt (h a j)))) (fun q => by cases q) (by show ¬ (_ < 0 ∨ (arrV _ _ _).slots.size ≤ _); rw [arrV_size]; exact hin) rfl rfl hd fun H1 g z oq => ?_
    refine q _ _ _ _ _ _ _ _ _ _ _ _ _ _ _ _ C K (Wd.put hl e (x := Int.bmod v 65536) (zb16_c v) ?_ z oq) L ll oL oS.t.t.t (S.put z oq (Nat.le_add_right B a)) b1 b2 E
    show H1[B + a]? = some (vp_cell (cA 2) ((zsh X sh a).2, .inl (fun j => Int32.ofInt (if j = k.toNat then Int.bmod v 65536 else h a j))))
    rw [g, zi_cl oS.t.h]
    have vc := vp_cell_i
    rw [show vp_cell (cA 2) ((zsh X sh a).2, .inl (fun j => Int32.ofInt (h a j))) = arrV (cA 2) (zsh X sh a).2 (fun j => .int (Int32.ofInt (h a j))) from rfl, show vp_cell (cA 2) ((zsh X sh a).2, .inl (fun j => Int32.ofInt (if j = k.toNat then Int.bmod v 65536 else h a j))) = arrV (cA 2) (zsh X sh a).2 (fun j => .int (Int32.ofInt (if j = k.toNat then Int.bmod v 65536 else h a j))) from rfl, arrV_store]
    congr 2
    funext j
    by_cases hj : j = k.toNat
    · simp only [updV, if_pos hj]; exact congrArg Value.int (zi_i2s oS.h)
    · simp only [updV, if_neg hj]
  · exact q.elim
theorem zs_bastore (hd : decode (zb i) pc = .ok (.bastore, 1)) (q : zAStB X (zSnd D B cv cA X) i pc c sl ls st sh h Q 1) : zSnd D B cv cA X i pc c sl ls st sh h Q := by
  intro p l e R s m args below meth cd H locs cells slots lsc QQ C K Wd L ll oL oS S b1 b2 E
  unfold zAStB at q
  split at q
  · rename_i v k a r
    obtain ⟨ha, k0, k1, q⟩ := q
    rw [List.map_cons, List.map_cons, List.map_cons, show zcv B cv (.inr (.inr (some a))) = .ref (B + a) from zcr_lo ha]
    have hin := zi_in (n := (zsh X sh a).2) oS.t.h k0 k1
    rcases q with ⟨ht, q⟩ | ⟨ht, hv, q⟩
    · obtain ⟨hl, e⟩ := zlo ha ht (by decide)
      refine W.bast C.1 C.2.1 (Wd.2.1 a _ (Wd.at hl e)) ((K.1.2 3 _ rfl).1 (zsh X sh a).2 (fun j => .int (Int32.ofInt (h a j)))) (fun q => by cases q) (by show ¬ (_ < 0 ∨ (arrV _ _ _).slots.size ≤ _); rw [arrV_size]; exact hin) rfl rfl hd fun H1 g z oq => ?_
      refine q _ _ _ _ _ _ _ _ _ _ _ _ _ _ _ _ C K (Wd.put hl e (x := Int.bmod v 256) (zb8_c v) ?_ z oq) L ll oL oS.t.t.t (S.put z oq (Nat.le_add_right B a)) b1 b2 E
      show H1[B + a]? = some (vp_cell (cA 3) ((zsh X sh a).2, .inl (fun j => Int32.ofInt (if j = k.toNat then Int.bmod v 256 else h a j))))
      rw [g, zi_cl oS.t.h]
      rw [show vp_cell (cA 3) ((zsh X sh a).2, .inl (fun j => Int32.ofInt (h a j))) = arrV (cA 3) (zsh X sh a).2 (fun j => .int (Int32.ofInt (h a j))) from rfl, show vp_cell (cA 3) ((zsh X sh a).2, .inl (fun j => Int32.ofInt (if j = k.toNat then Int.bmod v 256 else h a j))) = arrV (cA 3) (zsh X sh a).2 (fun j => .int (Int32.ofInt (if j = k.toNat then Int.bmod v 256 else h a j))) from rfl, arrV_store]
      congr 2
      funext j
      by_cases hj : j = k.toNat
      · simp only [updV, if_pos hj]; exact congrArg Value.int (zi_i2b oS.h)
      · simp only [updV, if_neg hj]
    · obtain ⟨hl, e⟩ := zlo ha ht (by decide)
      refine W.zast C.1 C.2.1 (Wd.2.1 a _ (Wd.at hl e)) ((K.1.2 4 _ rfl).1 (zsh X sh a).2 (fun j => .int (Int32.ofInt (h a j)))) (fun q => by cases q) (by show ¬ (_ < 0 ∨ (arrV _ _ _).slots.size ≤ _); rw [arrV_size]; exact hin) rfl rfl hd fun H1 g z oq => ?_
      refine q _ _ _ _ _ _ _ _ _ _ _ _ _ _ _ _ C K (Wd.put hl e (x := v) (hv) ?_ z oq) L ll oL oS.t.t.t (S.put z oq (Nat.le_add_right B a)) b1 b2 E
      show H1[B + a]? = some (vp_cell (cA 4) ((zsh X sh a).2, .inl (fun j => Int32.ofInt (if j = k.toNat then v else h a j))))
      rw [g, zi_cl oS.t.h]
      rw [show vp_cell (cA 4) ((zsh X sh a).2, .inl (fun j => Int32.ofInt (h a j))) = arrV (cA 4) (zsh X sh a).2 (fun j => .int (Int32.ofInt (h a j))) from rfl, show vp_cell (cA 4) ((zsh X sh a).2, .inl (fun j => Int32.ofInt (if j = k.toNat then v else h a j))) = arrV (cA 4) (zsh X sh a).2 (fun j => .int (Int32.ofInt (if j = k.toNat then v else h a j))) from rfl, arrV_store]
      congr 2
      funext j
      by_cases hj : j = k.toNat
      · simp only [updV, if_pos hj]; rcases hv with hv | hv <;> subst hv <;> rfl
      · simp only [updV, if_neg hj]
  · exact q.elim
theorem zs_lastore (hd : decode (zb i) pc = .ok (.lastore, 1)) (q : zAStL X (zSnd D B cv cA X) i pc c sl ls st sh h Q 1) : zSnd D B cv cA X i pc c sl ls st sh h Q := by
  intro p l e R s m args below meth cd H locs cells slots lsc QQ C K Wd L ll oL oS S b1 b2 E
  unfold zAStL at q
  split at q
  · rename_i v k a r
    obtain ⟨ha, ht, k0, k1, q⟩ := q
    obtain ⟨hl, e⟩ := zlo ha ht (by decide)
    rw [List.map_cons, List.map_cons, List.map_cons, show zcv B cv (.inr (.inr (some a))) = .ref (B + a) from zcr_lo ha]
    have hin := zi_in (n := (zsh X sh a).2) oS.t.h k0 k1
    refine W.last C.1 C.2.1 (Wd.2.1 a _ (Wd.at hl e)) ((K.1.2 1 _ rfl).1 (zsh X sh a).2 (fun j => .long (Int64.ofInt (h a j)))) (fun q => by cases q) (by show ¬ (_ < 0 ∨ (arrV _ _ _).slots.size ≤ _); rw [arrV_size]; exact hin) rfl rfl hd fun H1 g z oq => ?_
    refine q _ _ _ _ _ _ _ _ _ _ _ _ _ _ _ _ C K (Wd.put hl e (x := v) oS.h ?_ z oq) L ll oL oS.t.t.t (S.put z oq (Nat.le_add_right B a)) b1 b2 E
    show H1[B + a]? = some (vp_cell (cA 1) ((zsh X sh a).2, .inr (.inl (fun j => Int64.ofInt (if j = k.toNat then v else h a j)))))
    rw [g, zi_cl oS.t.h]
    rw [show vp_cell (cA 1) ((zsh X sh a).2, .inr (.inl (fun j => Int64.ofInt (h a j)))) = arrV (cA 1) (zsh X sh a).2 (fun j => .long (Int64.ofInt (h a j))) from rfl, show vp_cell (cA 1) ((zsh X sh a).2, .inr (.inl (fun j => Int64.ofInt (if j = k.toNat then v else h a j)))) = arrV (cA 1) (zsh X sh a).2 (fun j => .long (Int64.ofInt (if j = k.toNat then v else h a j))) from rfl, arrV_store]
    congr 2
    funext j
    by_cases hj : j = k.toNat
    · simp only [updV, if_pos hj]
    · simp only [updV, if_neg hj]
  · exact q.elim
end zSe
