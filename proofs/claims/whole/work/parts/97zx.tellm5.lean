/-! TEXTS, THE REFERENCE: A PART IS USED -/
section
variable {X : List Int} {h : zHP} {K : Option zAV → zHP → Prop} {tb : Nat → Nat} {T L n : Nat} {i : Nat} {ft : Int × Int} {P : List (Int × List zTe)} {op : Option Nat} {B : List zTe} {st : List (Int × Nat)} {I : List zTe} {m d : Nat}
theorem zTKm.wd {H : zHP} {j : Nat} {w q : Int} (t : zTKm h tb T L) (f : H 120 = h 120 ∧ H 122 = h 122) (e19 : H 108 19 = (j : Int)) (hj : j ≤ L) (hw : (w = 7 ∧ q = 117) ∨ (w = 8 ∧ q = 116)) : (H 120 (H 108 19).toNat = 3 ∧ H 122 (H 108 19).toNat = w) ↔ zkdT tb T j = q := by
  have m := t.2.2.2 j hj
  have m1 : h 120 j = zsoT (zkdT tb T j) := m.1
  have m2 : zsoT (zkdT tb T j) = 3 → h 122 j = zwxT (zkdT tb T j) := m.2.2.2.2.1
  rw [show (H 108 19).toNat = j by omega, f.1, f.2]
  constructor
  · rintro ⟨z1, z2⟩
    rw [m1] at z1
    rw [m2 z1] at z2
    exact zwx_u z2 (by omega)
  · intro z
    have z1 : zsoT (zkdT tb T j) = 3 := by
      rcases hw with ⟨_, e⟩ | ⟨_, e⟩ <;> rw [z, e] <;> rfl
    refine ⟨m1.trans z1, (m2 z1).trans ?_⟩
    rcases hw with ⟨a, e⟩ | ⟨a, e⟩ <;> rw [z, e, a] <;> rfl
theorem zifc {a b : Prop} [Decidable a] [Decidable b] (e : a ↔ b) : (if a then (1 : Int) else 0) = if b then 1 else 0 := by
  by_cases c : a
  · rw [if_pos c, if_pos (e.mp c)]
  · rw [if_neg c, if_neg fun z => c (e.mpr z)]
/-- tellUse -/
theorem cm_234 (F : zFin h) (t : zTKm h tb T L) (S : zMSa h n i ft P.length op st.length) (R : zMRe h tb T n P op B st I) (PL : ∀ e ∈ P, e.2.length ≤ 200) (h8 : P.length + zo1 op ≤ 8) (hn : 2 ≤ n ∧ n ≤ 7) (hi : zj2 (zkdT tb T) i + 1 ≤ L) (hk : zkdT tb T (i + 1) = 110) (k : ∀ h', zMb h h' → zMSa h' n (zj2 (zkdT tb T) i + 1) (if zlk2 P (zvlT tb T (i + 1)) = none then zno ft 4 (zpcT tb T (i + 1) : Int) else ft) P.length op st.length → zMRe h' tb T n P op B st (zuI zlk2 (n : Int) (zkdT tb T) (zvlT tb T) i P I) → K none h') : zC X 234 [zR 108] h K := by
  have tl := t.1
  have o9 := zot9 h8
  have j12 : i + 2 ≤ zj2 (zkdT tb T) i ∧ zj1 (zkdT tb T) i ≤ zj2 (zkdT tb T) i := by
    unfold zj2 zj1
    split <;> split <;> omega
  /- elements of a part, one by one -/
  have copy : ∀ (H : zHP) (f1 : Int × Int) (f : Nat) (x1 x2 x3 x4 : Int), zMb h H → zMSa H n (zj2 (zkdT tb T) i + 1) f1 P.length op st.length → zMRe H tb T n P op B st I → f < P.length → f1 = (if zlk2 P (zvlT tb T (i + 1)) = none then zno ft 4 (zpcT tb T (i + 1) : Int) else ft) → zlk2 P (zvlT tb T (i + 1)) = some (P.getD f (0, [])).2 → x1 = (f : Int) → x2 = (if decide (zkdT tb T (i + 2) = 117) = true then 1 else 0) → x3 = (if decide (zkdT tb T (zj1 (zkdT tb T) i) = 116) = true then 1 else 0) → x4 = ((P.getD f (0, [])).2.length : Int) → zAt X 234 146 0 0 [some (zR 108), some (zI x1), some (zI x2), some (zI x3), some (zI x4), some (zI 0), none, none] [] zSHc H (fun v sh' h' => sh' = zSHc ∧ K v h') := fun H f1 f x1 x2 x3 x4 b S1 R1 hf ef ek e1 e2 e3 e4 => by
    have l200 : (P.getD f (0, [])).2.length ≤ 200 := PL _ (by rw [List.getD_eq_getElem?_getD, List.getElem?_eq_getElem hf]; exact List.getElem_mem hf)
    have fo : f ≠ zot op P.length := by
      by_cases c : op = none
      · have : zo1 op = 0 := if_pos c
        rw [show zot op P.length = 8 from if_pos c]; omega
      · rw [show zot op P.length = P.length from if_neg c]; omega
    have eI : zuI zlk2 (n : Int) (zkdT tb T) (zvlT tb T) i P I = I ++ zuseL (decide (zkdT tb T (i + 2) = 117)) (decide (zkdT tb T (zj1 (zkdT tb T) i) = 116)) (n : Int) (P.getD f (0, [])).2 := by
      unfold zuI
      rw [ek]
      rfl
    have hb := R1.2.2.2.2.2.2.2.2 f hf
    have Mf := R1.2.2.2.2.2.1 f hf
    rw [ef] at S1
    generalize hl2 : (P.getD f (0, [])).2 = l2 at *
    generalize hub : decide (zkdT tb T (i + 2) = 117) = ub at *
    generalize htb : decide (zkdT tb T (zj1 (zkdT tb T) i) = 116) = tbb at *
    rw [eI] at k
    have loop : ∀ (p q : Nat) (h9 : zHP) (x5 : Int), l2.length - q = p → q ≤ l2.length → x5 = (q : Int) → zFin h9 → zfr [127, 128, 129, 130, 131] H h9 → zME h9 (zot op P.length) (I ++ (zuseL ub tbb (n : Int) l2).take q) → (∀ t' l', t' ≠ zot op P.length → zME H t' l' → zME h9 t' l') → zAt X 234 146 0 0 [some (zR 108), some (zI x1), some (zI x2), some (zI x3), some (zI x4), some (zI x5), none, none] [] zSHc h9 (fun v sh' h' => sh' = zSHc ∧ K v h') := by
      intro p
      induction p with
      | zero =>
        intro q h9 x5 hp hq e5 F9 fr9 M9 oth
        have eq : q = l2.length := by omega
        rw [eq, List.take_of_length_le (by rw [zuse_len]; exact Nat.le_refl _)] at M9
        have kk := k h9 (b.tr (zMb.put F9 fr9)) (S1.fr fr9 (by decide)) (R1.add h8 fr9 M9 oth (zuse_b hn.1 hb))
        apply sg_234_146 F9 <;> intros <;> first | omega | exact ⟨rfl, kk⟩
      | succ p ih =>
        intro q h9 x5 hp hq e5 F9 fr9 M9 oth
        have S9 := S1.fr fr9 (by decide)
        have g34 := S9.2.2.2.1
        have g35 := S9.2.2.2.2
        have ql : q < l2.length := by omega
        have M2 := oth f l2 fo Mf
        have hidx : (if ub = true then l2.length - 1 - q else q) < l2.length := by split <;> omega
        have src := M2.2 _ hidx (by omega)
        have bnd := hb _ (zget_in hidx)
        have eg := zuse_get (up := ub) (tu := tbb) (n := n) (j := q) (l := l2) ql
        have et : (zuseL ub tbb (n : Int) l2).take (q + 1) = (zuseL ub tbb (n : Int) l2).take q ++ [(zuseL ub tbb (n : Int) l2).getD q ze0] := by
          have : q < (zuseL ub tbb (n : Int) l2).length := by rw [zuse_len]; exact ql
          rw [List.take_succ, List.getD_eq_getElem?_getD, List.getElem?_eq_getElem this]
          rfl
        have nx : ∀ h7, zFin h7 → zfr [127, 128, 129, 130, 131] h9 h7 → zME h7 (zot op P.length) ((I ++ (zuseL ub tbb (n : Int) l2).take q) ++ [(zuseL ub tbb (n : Int) l2).getD q ze0]) → (∀ t' l', t' ≠ zot op P.length → zME h9 t' l' → zME h7 t' l') → zAt X 234 256 0 0 [some (zR 108), some (zI x1), some (zI x2), some (zI x3), some (zI x4), some (zI x5), none, none] [] zSHc h7 (fun v sh' h' => sh' = zSHc ∧ K v h') := fun h7 F7 fr7 M7 oth7 => sg_234_256c (by omega) (ih (q + 1) h7 (x5 + 1) (by omega) (by omega) (by omega) F7 (fr9.trans fr7) (by rw [et, ← List.append_assoc]; exact M7) fun t' l' ne w => oth7 t' l' ne (oth t' l' ne w))
        /- one element put, from the place a -/
        have one : ∀ (a : Nat), a = 201 * f + (if ub = true then l2.length - 1 - q else q) → (tbb = false → zC X 229 [zR 108, zI (h9 128 a), zI (h9 129 a), zI (h9 130 a), zI (h9 131 a)] h9 (fun v h9 => zAt X 234 256 0 0 [some (zR 108), some (zI x1), some (zI x2), some (zI x3), some (zI x4), some (zI x5), none, none] (zpush v []) zSHc h9 (fun v sh' h' => sh' = zSHc ∧ K v h'))) ∧ (tbb = true → (h9 128 a = 1 ∨ h9 128 a = 2) → zC X 229 [zR 108, zI (3 - h9 128 a), zI (((h9 108 35) - 2) - h9 129 a), zI (h9 130 a), zI (h9 131 a)] h9 (fun v h9 => zAt X 234 256 0 0 [some (zR 108), some (zI x1), some (zI x2), some (zI x3), some (zI x4), some (zI x5), none, none] (zpush v []) zSHc h9 (fun v sh' h' => sh' = zSHc ∧ K v h'))) ∧ (tbb = true → ¬ h9 128 a = 1 → ¬ h9 128 a = 2 → zC X 229 [zR 108, zI (h9 128 a), zI (((h9 108 35) - 2) - h9 129 a), zI (h9 130 a), zI (h9 131 a)] h9 (fun v h9 => zAt X 234 256 0 0 [some (zR 108), some (zI x1), some (zI x2), some (zI x3), some (zI x4), some (zI x5), none, none] (zpush v []) zSHc h9 (fun v sh' h' => sh' = zSHc ∧ K v h'))) := fun a ea => by
          rw [← ea] at src
          generalize hel : l2.getD (if ub = true then l2.length - 1 - q else q) ze0 = el at src eg bnd
          obtain ⟨s1, s2, s3⟩ := src
          refine ⟨fun c => ?_, fun c y => ?_, fun c y1 y2 => ?_⟩
          · rw [if_neg (by rw [c]; decide)] at eg
            refine cm_229 (kd := el.1) (e := (zuseL ub tbb (n : Int) l2).getD q ze0) F9 g34 o9 M9 s1 ?_ nx
            rw [eg]
            exact ⟨rfl, s2.symm, fun z => ⟨(s3 z).1.symm, (s3 z).2.symm⟩⟩
          · rw [if_pos c] at eg
            refine cm_229 (kd := 3 - el.1) (e := (zuseL ub tbb (n : Int) l2).getD q ze0) F9 g34 o9 M9 (by omega) ?_ nx
            rw [eg]
            refine ⟨?_, ?_, fun z => by omega⟩
            · show (if el.1 = 1 then 2 else if el.1 = 2 then 1 else el.1) = 3 - el.1
              split
              · omega
              · split <;> omega
            · show (n : Int) - 2 - el.2.1 = _
              rw [g35, s2]
          · rw [if_pos c] at eg
            refine cm_229 (kd := el.1) (e := (zuseL ub tbb (n : Int) l2).getD q ze0) F9 g34 o9 M9 s1 ?_ nx
            rw [eg]
            refine ⟨?_, ?_, fun z => ⟨(s3 z).1.symm, (s3 z).2.symm⟩⟩
            · show (if el.1 = 1 then 2 else if el.1 = 2 then 1 else el.1) = el.1
              rw [if_neg (by omega), if_neg (by omega)]
            · show (n : Int) - 2 - el.2.1 = _
              rw [g35, s2]
        have s2' := src.2.1
        obtain ⟨bb1, bb2, bb3⟩ := bnd
        have s1' := src.1
        by_cases cu : ub = true
        · rw [if_pos cu] at e2
          have ea : ((201 * x1) + ((x4 - 1) - x5)).toNat = 201 * f + (if ub = true then l2.length - 1 - q else q) := by rw [if_pos cu]; omega
          obtain ⟨o1, o2, o3⟩ := one _ ea
          rw [← ea] at s1' s2'
          by_cases ct : tbb = true
          · rw [if_pos ct] at e3
            have o2 := o2 ct
            have o3 := o3 ct
            clear one o1 nx ih M9 M2 src et eg
            apply sg_234_146 F9 <;> intros <;> first | omega | exact o2 (by omega) | exact o3 (by omega) (by omega)
          · rw [if_neg ct] at e3
            have o1 := o1 (Bool.eq_false_iff.mpr ct)
            clear one o2 o3 nx ih M9 M2 src et eg
            apply sg_234_146 F9 <;> intros <;> first | omega | exact o1
        · rw [if_neg cu] at e2
          have ea : ((201 * x1) + x5).toNat = 201 * f + (if ub = true then l2.length - 1 - q else q) := by rw [if_neg cu]; omega
          obtain ⟨o1, o2, o3⟩ := one _ ea
          rw [← ea] at s1' s2'
          by_cases ct : tbb = true
          · rw [if_pos ct] at e3
            have o2 := o2 ct
            have o3 := o3 ct
            clear one o1 nx ih M9 M2 src et eg
            apply sg_234_146 F9 <;> intros <;> first | omega | exact o2 (by omega) | exact o3 (by omega) (by omega)
          · rw [if_neg ct] at e3
            have o1 := o1 (Bool.eq_false_iff.mpr ct)
            clear one o2 o3 nx ih M9 M2 src et eg
            apply sg_234_146 F9 <;> intros <;> first | omega | exact o1
    exact loop l2.length 0 H 0 rfl (Nat.zero_le _) rfl b.1 zfr.rfl (by rw [List.take_zero, List.append_nil]; exact R1.2.2.2.1) fun _ _ _ w => w
  /- the four ways that up and turned can stand -/
  have e19 := S.1.1
  have fin : ∀ (H : zHP) (x1 x2 x3 : Int), zFin H → K none H → zAt X 234 146 0 0 [some (zR 108), some (zI x1), some (zI x2), some (zI x3), some (zI 0), some (zI 0), none, none] [] zSHc H (fun v sh' h' => sh' = zSHc ∧ K v h') := fun H x1 x2 x3 FH kk => by
    apply sg_234_146 FH <;> intros <;> first | omega | exact ⟨rfl, kk⟩
  have ih2 : i + 2 ≤ L := by omega
  have done : ∀ (x1 : Int), (x1 = -1 ∧ zlk2 P (zvlT tb T (i + 1)) = none) ∨ (∃ f : Nat, f < P.length ∧ x1 = (f : Int) ∧ zlk2 P (zvlT tb T (i + 1)) = some (P.getD f (0, [])).2) → zAt X 234 4 0 0 [some (zR 108), some (zI x1), some (zI ((P.length + zo1 op : Nat) : Int)), none, none, none, none, none] [] zSHc h (fun v sh' h' => sh' = zSHc ∧ K v h') := by
    intro x1 hx
    have e22 : h 108 22 ≤ ((P.length + zo1 op : Nat) : Int) := Int.le_of_eq S.2.1
    rcases hx with ⟨ex, no⟩ | ⟨f, hf, ex, yes⟩
    · subst ex
      have eI : zuI zlk2 (n : Int) (zkdT tb T) (zvlT tb T) i P I = I := by
        unfold zuI
        rw [no]
        show I ++ zuseL _ _ _ [] = I
        rw [zuse_nil, List.append_nil]
      rw [eI, if_pos no] at k
      have g : zC X 228 [zR 108, zI 4, zI ((h 108 19) + 1)] h (fun v h9 => zAt X 234 65 0 0 [some (zR 108), some (zI (-1)), none, none, none, none, none, none] (zpush v []) zSHc h9 (fun v sh' h' => sh' = zSHc ∧ K v h')) := by
        refine cm_228 (j := i + 1) F t S.1.2.1 S.1.2.2 (by omega) (by omega) fun h1 N => ?_
        have S1 := S.nt N
        have R1 := R.nt N
        have t1 := t.mb N.mb
        have F1 := N.1
        have b1 := N.mb
        have f19 := S1.1.1
        have z1 : zup h1 108 19 (h1 108 19 + 2) 108 19 = h1 108 19 + 2 := zup_eq
        have z2 : zup (zup h1 108 19 (h1 108 19 + 2)) 108 19 (h1 108 19 + 2 + 1) 108 19 = h1 108 19 + 2 + 1 := zup_eq
        have y7 := t1.wd (H := zup h1 108 19 (h1 108 19 + 2)) (j := i + 2) ⟨funext fun _ => zup_c (by decide), funext fun _ => zup_c (by decide)⟩ (by omega) ih2 (Or.inl ⟨rfl, rfl⟩)
        have y8 := t1.wd (H := zup h1 108 19 (h1 108 19 + 2)) (j := i + 2) ⟨funext fun _ => zup_c (by decide), funext fun _ => zup_c (by decide)⟩ (by omega) ih2 (Or.inr ⟨rfl, rfl⟩)
        have Fa := fun (H : zHP) (FH : zFin H) (x : Int) => (FH.up (by decide) : zFin (zup H 108 19 x))
        clear copy t R S N eI no
        by_cases c7 : zkdT tb T (i + 2) = 117
        · have ej1 : zj1 (zkdT tb T) i = i + 3 := if_pos c7
          have y7 := y7.mpr c7
          have y9 := t1.wd (H := zup (zup h1 108 19 (h1 108 19 + 2)) 108 19 (h1 108 19 + 2 + 1)) (j := i + 3) ⟨funext fun _ => (zup_c (by decide)).trans (zup_c (by decide)), funext fun _ => (zup_c (by decide)).trans (zup_c (by decide))⟩ (by omega) (by omega) (Or.inr ⟨rfl, rfl⟩)
          by_cases c6 : zkdT tb T (i + 3) = 116
          · have ej2 : zj2 (zkdT tb T) i = i + 4 := by unfold zj2; rw [ej1, if_pos c6]
            have y9 := y9.mpr c6
            have g := fun x2 x3 => fin _ (-1) x2 x3 (Fa _ (Fa _ (Fa _ (Fa h1 F1 (h1 108 19 + 2)) (h1 108 19 + 2 + 1)) (h1 108 19 + 2 + 1 + 1)) (h1 108 19 + 2 + 1 + 1 + 1)) (k _ ((((b1.up (Or.inl rfl)).up (Or.inl rfl)).up (Or.inl rfl)).up (Or.inl rfl)) ((((S1.at (j := i + 2) (by omega)).at (j := i + 3) (by omega)).at (j := i + 4) (by omega)).at (by omega)) R1.up.up.up.up)
            clear k R1 t1 S1 b1
            apply sg_234_65c F1 <;> intros <;> first | omega | exact g _ _
          · have ej2 : zj2 (zkdT tb T) i = i + 3 := by unfold zj2; rw [ej1, if_neg c6]
            have y9 := fun z => c6 (y9.mp z)
            have g := fun x2 x3 => fin _ (-1) x2 x3 (Fa _ (Fa _ (Fa h1 F1 (h1 108 19 + 2)) (h1 108 19 + 2 + 1)) (h1 108 19 + 2 + 1 + 1)) (k _ (((b1.up (Or.inl rfl)).up (Or.inl rfl)).up (Or.inl rfl)) (((S1.at (j := i + 2) (by omega)).at (j := i + 3) (by omega)).at (by omega)) R1.up.up.up)
            clear k R1 t1 S1 b1
            apply sg_234_65c F1 <;> intros <;> first | omega | exact g _ _
        · have ej1 : zj1 (zkdT tb T) i = i + 2 := if_neg c7
          have y7 := fun z => c7 (y7.mp z)
          by_cases c6 : zkdT tb T (i + 2) = 116
          · have ej2 : zj2 (zkdT tb T) i = i + 3 := by unfold zj2; rw [ej1, if_pos c6]
            have y8 := y8.mpr c6
            have g := fun x2 x3 => fin _ (-1) x2 x3 (Fa _ (Fa _ (Fa h1 F1 (h1 108 19 + 2)) (h1 108 19 + 2 + 1)) (h1 108 19 + 2 + 1 + 1)) (k _ (((b1.up (Or.inl rfl)).up (Or.inl rfl)).up (Or.inl rfl)) (((S1.at (j := i + 2) (by omega)).at (j := i + 3) (by omega)).at (by omega)) R1.up.up.up)
            clear k R1 t1 S1 b1
            apply sg_234_65c F1 <;> intros <;> first | omega | exact g _ _
          · have ej2 : zj2 (zkdT tb T) i = i + 2 := by unfold zj2; rw [ej1, if_neg c6]
            have y8 := fun z => c6 (y8.mp z)
            have g := fun x2 x3 => fin _ (-1) x2 x3 (Fa _ (Fa h1 F1 (h1 108 19 + 2)) (h1 108 19 + 2 + 1)) (k _ ((b1.up (Or.inl rfl)).up (Or.inl rfl)) ((S1.at (j := i + 2) (by omega)).at (by omega)) R1.up.up)
            clear k R1 t1 S1 b1
            apply sg_234_65c F1 <;> intros <;> first | omega | exact g _ _
      clear fin copy t R k
      apply sg_234_4 F <;> intros <;> first | omega | exact g
    · have nn : ¬ zlk2 P (zvlT tb T (i + 1)) = none := by rw [yes]; simp
      rw [if_neg nn] at k copy
      have l4 : h 127 x1.toNat = ((P.getD f (0, [])).2.length : Int) := by
        rw [show x1.toNat = f by omega]
        have l200 : (P.getD f (0, [])).2.length ≤ 200 := PL _ (by rw [List.getD_eq_getElem?_getD, List.getElem?_eq_getElem hf]; exact List.getElem_mem hf)
        exact (R.2.2.2.2.2.1 f hf).1.trans (by omega)
      have z1 : zup h 108 19 (h 108 19 + 2) 108 19 = h 108 19 + 2 := zup_eq
      have z2 : zup (zup h 108 19 (h 108 19 + 2)) 108 19 (h 108 19 + 2 + 1) 108 19 = h 108 19 + 2 + 1 := zup_eq
      have y7 := t.wd (H := zup h 108 19 (h 108 19 + 2)) (j := i + 2) ⟨funext fun _ => zup_c (by decide), funext fun _ => zup_c (by decide)⟩ (by omega) ih2 (Or.inl ⟨rfl, rfl⟩)
      have y8 := t.wd (H := zup h 108 19 (h 108 19 + 2)) (j := i + 2) ⟨funext fun _ => zup_c (by decide), funext fun _ => zup_c (by decide)⟩ (by omega) ih2 (Or.inr ⟨rfl, rfl⟩)
      have b1 := zMb.rf F
      have f8 : f < 8 := by omega
      by_cases c7 : zkdT tb T (i + 2) = 117
      · have ej1 : zj1 (zkdT tb T) i = i + 3 := if_pos c7
        have e1 := y7.trans (decide_eq_true_iff (p := zkdT tb T (i + 2) = 117)).symm
        have y7 := y7.mpr c7
        have y9 := t.wd (H := zup (zup h 108 19 (h 108 19 + 2)) 108 19 (h 108 19 + 2 + 1)) (j := i + 3) ⟨funext fun _ => (zup_c (by decide)).trans (zup_c (by decide)), funext fun _ => (zup_c (by decide)).trans (zup_c (by decide))⟩ (by omega) (by omega) (Or.inr ⟨rfl, rfl⟩)
        have d2 := zifc (y9.trans (decide_eq_true_iff (p := zkdT tb T (i + 3) = 116)).symm)
        rw [← ej1] at d2
        by_cases c6 : zkdT tb T (i + 3) = 116
        · have ej2 : zj2 (zkdT tb T) i = i + 4 := by unfold zj2; rw [ej1, if_pos c6]
          have y9 := y9.mpr c6
          have g := copy _ ft f x1 _ _ _ ((((b1.up (Or.inl rfl)).up (Or.inl rfl)).up (Or.inl rfl)).up (Or.inl rfl)) ((((S.at (x := h 108 19 + 2) (j := i + 2) (by omega)).at (x := h 108 19 + 2 + 1) (j := i + 3) (by omega)).at (x := h 108 19 + 2 + 1 + 1) (j := i + 4) (by omega)).at (x := h 108 19 + 2 + 1 + 1 + 1) (by omega)) R.up.up.up.up hf rfl yes ex (zifc e1) d2 l4
          clear k R t copy fin
          apply sg_234_4 F <;> intros <;> first | omega | exact g
        · have ej2 : zj2 (zkdT tb T) i = i + 3 := by unfold zj2; rw [ej1, if_neg c6]
          have y9 := fun z => c6 (y9.mp z)
          have g := copy _ ft f x1 _ _ _ (((b1.up (Or.inl rfl)).up (Or.inl rfl)).up (Or.inl rfl)) (((S.at (x := h 108 19 + 2) (j := i + 2) (by omega)).at (x := h 108 19 + 2 + 1) (j := i + 3) (by omega)).at (x := h 108 19 + 2 + 1 + 1) (by omega)) R.up.up.up hf rfl yes ex (zifc e1) d2 l4
          clear k R t copy fin
          apply sg_234_4 F <;> intros <;> first | omega | exact g
      · have ej1 : zj1 (zkdT tb T) i = i + 2 := if_neg c7
        have e1 := y7.trans (decide_eq_true_iff (p := zkdT tb T (i + 2) = 117)).symm
        have d2 := zifc (y8.trans (decide_eq_true_iff (p := zkdT tb T (i + 2) = 116)).symm)
        rw [← ej1] at d2
        have y7 := fun z => c7 (y7.mp z)
        by_cases c6 : zkdT tb T (i + 2) = 116
        · have ej2 : zj2 (zkdT tb T) i = i + 3 := by unfold zj2; rw [ej1, if_pos c6]
          have y8 := y8.mpr c6
          have g := copy _ ft f x1 _ _ _ (((b1.up (Or.inl rfl)).up (Or.inl rfl)).up (Or.inl rfl)) (((S.at (x := h 108 19 + 2) (j := i + 2) (by omega)).at (x := h 108 19 + 2 + 1) (j := i + 3) (by omega)).at (x := h 108 19 + 2 + 1 + 1) (by omega)) R.up.up.up hf rfl yes ex (zifc e1) d2 l4
          clear k R t copy fin
          apply sg_234_4 F <;> intros <;> first | omega | exact g
        · have ej2 : zj2 (zkdT tb T) i = i + 2 := by unfold zj2; rw [ej1, if_neg c6]
          have y8 := fun z => c6 (y8.mp z)
          have g := copy _ ft f x1 _ _ _ ((b1.up (Or.inl rfl)).up (Or.inl rfl)) ((S.at (x := h 108 19 + 2) (j := i + 2) (by omega)).at (x := h 108 19 + 2 + 1) (by omega)) R.up.up hf rfl yes ex (zifc e1) d2 l4
          clear k R t copy fin
          apply sg_234_4 F <;> intros <;> first | omega | exact g
  have scan : ∀ (p q : Nat) (x1 x2 : Int), P.length + zo1 op - q = p → q ≤ P.length + zo1 op → x2 = (q : Int) → ((x1 = -1 ∧ zlk2 (P.take q) (zvlT tb T (i + 1)) = none) ∨ (∃ f : Nat, f < P.length ∧ x1 = (f : Int) ∧ zlk2 (P.take q) (zvlT tb T (i + 1)) = some (P.getD f (0, [])).2)) → zAt X 234 4 0 0 [some (zR 108), some (zI x1), some (zI x2), none, none, none, none, none] [] zSHc h (fun v sh' h' => sh' = zSHc ∧ K v h') := by
    intro p
    induction p with
    | zero =>
      intro q x1 x2 hp hq e2 hx
      have eq : q = P.length + zo1 op := by omega
      rw [List.take_of_length_le (by omega)] at hx
      rw [e2, eq]
      exact done x1 hx
    | succ p ih =>
      intro q x1 x2 hp hq e2 hx
      have e22 := S.2.1
      have l1 : ¬ h 108 22 ≤ x2 := by omega
      have tn : x2.toNat = q := by omega
      by_cases c : q < P.length
      · obtain ⟨⟨r, kr, er, e124⟩, e125⟩ := R.1 q c
        have nm := t.nm (j := i + 1) (x := h 108 19 + 1) (by omega) (by omega) hk
        have et : P.take (q + 1) = P.take q ++ [P.getD q (0, [])] := by
          rw [List.take_succ, List.getD_eq_getElem?_getD, List.getElem?_eq_getElem c]
          rfl
        have e3 : zlk2 (P.take (q + 1)) (zvlT tb T (i + 1)) = if (P.getD q (0, [])).1 = zvlT tb T (i + 1) then some (P.getD q (0, [])).2 else zlk2 (P.take q) (zvlT tb T (i + 1)) := by rw [et, zlk2_app]
        rw [← tn] at e124 e125
        by_cases same : zvlT tb T r = zvlT tb T (i + 1)
        · rw [if_pos (er.trans same)] at e3
          have e124 := e124.trans (((znm_eq kr hk).mpr same).trans nm.symm)
          have g := ih (q + 1) x2 (x2 + 1) (by clear hx; omega) (by clear hx; omega) (by clear hx; omega) (Or.inr ⟨q, c, e2, e3⟩)
          clear ih done copy k R t hx
          apply sg_234_4 F <;> intros <;> first | omega | exact g
        · rw [if_neg (fun z => same (er.symm.trans z))] at e3
          have e124 : ¬ h 124 x2.toNat = h 123 (h 108 19 + 1).toNat := fun z => same ((znm_eq kr hk).mp (e124.symm.trans (z.trans nm)))
          rw [← e3] at hx
          have g := ih (q + 1) x1 (x2 + 1) (by clear hx; omega) (by clear hx; omega) (by clear hx; omega) hx
          clear ih done copy k R t hx
          apply sg_234_4 F <;> intros <;> first | omega | exact g
      · by_cases o : op = none
        · have : zo1 op = 0 := if_pos o
          omega
        · have z1 : zo1 op = 1 := if_neg o
          obtain ⟨j, oj⟩ := Option.ne_none_iff_exists'.mp o
          have eq : q = P.length := by omega
          have e125 := (R.2.1 j oj).2.2.1
          rw [← eq, ← tn] at e125
          have g := ih (q + 1) x1 (x2 + 1) (by clear hx; omega) (by clear hx; omega) (by clear hx; omega) (by rw [List.take_of_length_le (by omega)] at hx ⊢; exact hx)
          clear ih done copy k R t hx
          apply sg_234_4 F <;> intros <;> first | omega | exact g
  refine sg_234_0 ?_
  exact scan _ 0 (-1) 0 rfl (Nat.zero_le _) rfl (Or.inl ⟨rfl, rfl⟩)
end
