/-! TEXTS, THE REFERENCE: ENDS OF TIMES AND OF PARTS -/
theorem zrpt_1 {m : Nat} {l : List zTe} : zrptL m 1 l = l := by
  unfold zrptL
  rw [List.replicate_succ, List.replicate_zero, List.flatten_cons, List.flatten_nil, List.append_nil, List.take_append_drop]
theorem zrpt_add {m c : Nat} {l : List zTe} : ∀ d, ∃ r, zrptL m (c + d) l = zrptL m c l ++ r
  | 0 => ⟨[], (List.append_nil _).symm⟩
  | d + 1 => by
    obtain ⟨r, e⟩ := zrpt_add (m := m) (c := c) (l := l) d
    refine ⟨r ++ l.drop m, ?_⟩
    rw [← List.append_assoc, ← e]
    unfold zrptL
    rw [show c + (d + 1) = (c + d) + 1 by omega, List.replicate_succ', List.flatten_append, List.flatten_cons, List.flatten_nil, List.append_nil, List.append_assoc]
theorem zrpt_s {m c : Nat} {l : List zTe} : zrptL m (c + 1) l = zrptL m c l ++ l.drop m := by
  unfold zrptL
  rw [List.replicate_succ', List.flatten_append, List.flatten_cons, List.flatten_nil, List.append_nil, List.append_assoc]
theorem zME.ext {h : zHP} {t : Nat} {l r : List zTe} (M : zME h t l) (big : 201 ≤ l.length) : zME h t (l ++ r) := by
  refine ⟨?_, fun q _ q2 => ?_⟩
  · rw [M.1, List.length_append]; omega
  · rw [zget_l (by omega)]
    exact M.2 q (by omega) q2
section
variable {X : List Int} {h : zHP} {K : Option zAV → zHP → Prop} {tb : Nat → Nat} {T L n : Nat} {i : Nat} {ft : Int × Int} {P : List (Int × List zTe)} {op : Option Nat} {B : List zTe} {st : List (Int × Nat)} {I : List zTe} {m d : Nat}
theorem zMRe.set {h' : zHP} {st' : List (Int × Nat)} {J : List zTe} (R : zMRe h tb T n P op B st I) (h8 : P.length + zo1 op ≤ 8) (fr : zfr [127, 128, 129, 130, 131] h h') (M2 : zME h' (zot op P.length) J) (oth : ∀ t' l', t' ≠ zot op P.length → zME h t' l' → zME h' t' l') (hJ : ∀ e ∈ J, zeb n e) (hs : zMKs h (zo1 op) st') : zMRe h' tb T n P op B st' J := by
  obtain ⟨r1, r2, r3, r4, r5, r6, r7, r8, r9⟩ := R
  have oc : zot op P.length = 8 ∧ op = none ∨ zot op P.length = P.length ∧ op ≠ none := by
    by_cases c : op = none
    · exact Or.inl ⟨if_pos c, c⟩
    · exact Or.inr ⟨if_neg c, c⟩
  refine ⟨by rw [fr 124 (by decide), fr 125 (by decide)]; exact r1, by rw [fr 124 (by decide), fr 125 (by decide), fr 126 (by decide), fr 132 (by decide)]; exact r2, hs.lt fun q _ => by rw [fr 132 (by decide), fr 133 (by decide)]; exact ⟨rfl, rfl⟩, M2, fun o => ?_, fun p hp => ?_, hJ, r8, r9⟩
  · rcases oc with ⟨z, w⟩ | ⟨z, w⟩
    · exact absurd w o
    · have : zo1 op = 1 := if_neg w
      exact oth 8 B (by omega) (r5 o)
  · rcases oc with ⟨z, w⟩ | ⟨z, w⟩
    · have : zo1 op = 0 := if_pos w
      exact oth p _ (by omega) (r6 p hp)
    · exact oth p _ (by omega) (r6 p hp)
/-- shut: times -/
theorem cm_237t {t : Int} {r : List (Int × Nat)} (F : zFin h) (S : zMSa h n i ft P.length op (r.length + 1)) (R : zMRe h tb T n P op B ((t, m) :: r) I) (sv : zsvd I.length ((t, m) :: r)) (h8 : P.length + zo1 op ≤ 8) (hd : r.length + 1 + zo1 op ≤ 4) (hi : i ≤ 400) (k : ∀ h', zMb h h' → zMSa h' n (i + 1) ft P.length op r.length → zMRe h' tb T n P op B r (zrptL m t.toNat I) → K none h') : zC X 237 [zR 108] h K := by
  have o9 := zot9 h8
  obtain ⟨s1, s2, s3, s4⟩ := sv
  have s1 : m ≤ I.length := s1
  have s2 : 0 ≤ t := s2
  have s3 : t < 10000 := s3
  have e19 := S.1.1
  have e31 := S.2.2.1
  have e34 := S.2.2.2.1
  obtain ⟨⟨q1, q2⟩, q3⟩ := R.2.2.1
  have q1 : h 132 (r.length + zo1 op) = t := q1
  have q2 : h 133 (r.length + zo1 op) = ((min m 201 : Nat) : Int) := q2
  have ix : ((h 108 31) - 1).toNat = r.length + zo1 op := by omega
  have M := R.2.2.2.1
  have e127 : h 127 ((h 108 34).toNat) = ((min I.length 201 : Nat) : Int) := by rw [show (h 108 34).toNat = zot op P.length by omega]; exact M.1
  have hI := R.2.2.2.2.2.2.1
  /- the cells that the loops start from -/
  have b0 : zMb h (zup (zup h 108 31 ((h 108 31) - 1)) 108 19 ((h 108 19) + 1)) := ((zMb.rf F).up (by decide)).up (by decide)
  have S0 : zMSa (zup (zup h 108 31 ((h 108 31) - 1)) 108 19 ((h 108 19) + 1)) n (i + 1) ft P.length op r.length := by
    obtain ⟨⟨a1, a2, a3⟩, b1, b2, b3, b4⟩ := S
    refine ⟨⟨by rw [zup_eq]; omega, ?_, ?_⟩, ?_, by rw [zup_k (by decide), zup_eq]; omega, ?_, ?_⟩
    all_goals rw [zup_k (by decide), zup_k (by decide)]; assumption
  have R0 : zMRe (zup (zup h 108 31 ((h 108 31) - 1)) 108 19 ((h 108 19) + 1)) tb T n P op B ((t, m) :: r) I := R.up.up
  have g132 : (zup (zup h 108 31 ((h 108 31) - 1)) 108 19 ((h 108 19) + 1)) 132 (r.length + zo1 op) = t := by rw [zup_c (by decide), zup_c (by decide)]; exact q1
  generalize hH : zup (zup h 108 31 ((h 108 31) - 1)) 108 19 ((h 108 19) + 1) = H at b0 S0 R0 g132
  have fin : ∀ (h9 : zHP), zFin h9 → zfr [127, 128, 129, 130, 131] H h9 → zME h9 (zot op P.length) (zrptL m t.toNat I) → (∀ t' l', t' ≠ zot op P.length → zME H t' l' → zME h9 t' l') → (fun v sh' h' => sh' = zSHc ∧ K v h') none zSHc h9 := fun h9 F9 fr9 M9 oth => ⟨rfl, k h9 (b0.tr (zMb.put F9 fr9)) (S0.fr fr9 (by decide)) (R0.set h8 fr9 M9 oth (zrpt_m hI) R0.2.2.1.2)⟩
  have loop : ∀ (q c : Nat) (h9 : zHP) (x3 : Int), t.toNat - c = q → 1 ≤ c → c ≤ t.toNat → x3 = (c : Int) → zFin h9 → zfr [127, 128, 129, 130, 131] H h9 → zME h9 (zot op P.length) (zrptL m c I) → (∀ t' l', t' ≠ zot op P.length → zME H t' l' → zME h9 t' l') → zAt X 237 143 0 0 [some (zR 108), some (zI ((min m 201 : Nat) : Int)), some (zI ((min I.length 201 : Nat) : Int)), some (zI x3), none] [] zSHc h9 (fun v sh' h' => sh' = zSHc ∧ K v h') := by
    intro q
    induction q with
    | zero =>
      intro c h9 x3 hq h1 hc e3 F9 fr9 M9 oth
      have ec : c = t.toNat := by omega
      rw [ec] at M9
      have S9 := S0.fr fr9 (by decide)
      have g31 := S9.2.2.1
      have g34 := S9.2.2.2.1
      have w132 : h9 132 ((h9 108 31).toNat) = t := by rw [show (h9 108 31).toNat = r.length + zo1 op by omega, fr9 132 (by decide)]; exact g132
      have f := fin h9 F9 fr9 M9 oth
      exact sg_237_143 F9 (by omega) (fun _ => f) (fun z => by omega) (fun z => by omega) (fun z => by omega) (fun z => by omega)
    | succ q ih =>
      intro c h9 x3 hq h1 hc e3 F9 fr9 M9 oth
      have S9 := S0.fr fr9 (by decide)
      have g31 := S9.2.2.1
      have g34 := S9.2.2.2.1
      have w132 : h9 132 ((h9 108 31).toNat) = t := by rw [show (h9 108 31).toNat = r.length + zo1 op by omega, fr9 132 (by decide)]; exact g132
      have w127 : h9 127 ((h9 108 34).toNat) = ((min (zrptL m c I).length 201 : Nat) : Int) := by rw [show (h9 108 34).toNat = zot op P.length by omega]; exact M9.1
      have len := zrpt_len (t := c) s1
      have lc : I.length ≤ (zrptL m c I).length := by
        obtain ⟨rr, e⟩ := zrpt_add (m := m) (c := 1) (l := I) (c - 1)
        rw [show 1 + (c - 1) = c by omega, zrpt_1] at e
        rw [e, List.length_append]; omega
      have early : 201 ≤ (zrptL m c I).length ∨ I.length = m → (fun v sh' h' => sh' = zSHc ∧ K v h') none zSHc h9 := fun z => by
        refine fin h9 F9 fr9 ?_ oth
        rcases z with z | z
        · obtain ⟨rr, e⟩ := zrpt_add (m := m) (c := c) (l := I) (t.toNat - c)
          rw [show c + (t.toNat - c) = t.toNat by omega] at e
          rw [e]
          exact M9.ext z
        · have d0 : I.drop m = [] := List.drop_eq_nil_of_le (by omega)
          have al : ∀ c, zrptL m c I = I.take m := fun c => by
            unfold zrptL
            rw [d0]
            have : ∀ c, (List.replicate c ([] : List zTe)).flatten = [] := by
              intro c
              induction c with
              | zero => rfl
              | succ c ih => rw [List.replicate_succ, List.flatten_cons, ih]; rfl
            rw [this, List.append_nil]
          rw [al] at M9 ⊢
          exact M9
      by_cases ge : min I.length 201 ≤ min m 201
      · have f := early (by
          by_cases z : I.length = m
          · exact Or.inr z
          · left; omega)
        exact sg_237_143 F9 (by omega) (fun z => by omega) (fun _ _ => f) (fun _ z => by omega) (fun _ z => by omega) (fun _ z => by omega)
      · by_cases big : 200 < (zrptL m c I).length
        · have f := early (Or.inl (by omega))
          exact sg_237_143 F9 (by omega) (fun z => by omega) (fun _ z => by omega) (fun _ _ => by omega) (fun _ _ _ => f) (fun _ _ z => by omega)
        · have Il : I.length ≤ 200 := by omega
          have copy : ∀ (p j : Nat) (h8' : zHP) (x4 : Int), I.length - j = p → m ≤ j → j ≤ I.length → x4 = (j : Int) → zFin h8' → zfr [127, 128, 129, 130, 131] H h8' → zME h8' (zot op P.length) (zrptL m c I ++ (I.drop m).take (j - m)) → (∀ t' l', t' ≠ zot op P.length → zME H t' l' → zME h8' t' l') → zAt X 237 179 0 0 [some (zR 108), some (zI ((min m 201 : Nat) : Int)), some (zI ((min I.length 201 : Nat) : Int)), some (zI x3), some (zI x4)] [] zSHc h8' (fun v sh' h' => sh' = zSHc ∧ K v h') := by
            intro p
            induction p with
            | zero =>
              intro j h8' x4 hp hmj hj e4 F8 fr8 M8 oth8
              have ej : j = I.length := by omega
              rw [ej, List.take_of_length_le (by rw [List.length_drop]; omega), ← zrpt_s] at M8
              exact sg_237_179 F8 (fun _ => by omega) (fun _ => ih (c + 1) h8' (x3 + 1) (by omega) (by omega) (by omega) (by omega) F8 fr8 M8 oth8) (fun z => by omega) (fun z => by omega) (fun z => by omega) (fun z => by omega)
            | succ p ihp =>
              intro j h8' x4 hp hmj hj e4 F8 fr8 M8 oth8
              have S8 := S0.fr fr8 (by decide)
              have y34 := S8.2.2.2.1
              have jl : j < I.length := by omega
              have ex : ((201 * (h8' 108 34)) + x4).toNat = 201 * zot op P.length + j := by omega
              have src := M8.2 j (by rw [List.length_append]; omega) (by omega)
              have eg : (zrptL m c I ++ (I.drop m).take (j - m)).getD j ze0 = I.getD j ze0 := by
                rw [zget_l (by omega)]
                exact zrpt_old s1 (Or.inr ⟨h1, jl⟩)
              rw [eg] at src
              refine sg_237_179 F8 (fun z => by omega) (fun z => by omega) (fun _ => by omega) (fun _ => by omega) (fun _ => by omega) (fun _ => ?_)
              rw [ex]
              refine cm_229 (kd := (I.getD j ze0).1) (e := I.getD j ze0) F8 y34 o9 M8 src.1 ⟨rfl, src.2.1.symm, fun z => ⟨(src.2.2 z).1.symm, (src.2.2 z).2.symm⟩⟩ fun h7 F7 fr7 M7 oth7 => sg_237_253c (by omega) ?_
              refine ihp (j + 1) h7 (x4 + 1) (by omega) (by omega) (by omega) (by omega) F7 (fr8.trans fr7) ?_ fun t' l' ne w => oth7 t' l' ne (oth8 t' l' ne w)
              have et : (I.drop m).take (j + 1 - m) = (I.drop m).take (j - m) ++ [I.getD j ze0] := by
                rw [show j + 1 - m = (j - m) + 1 by omega, List.take_succ, List.getElem?_drop, show m + (j - m) = j by omega, List.getD_eq_getElem?_getD, List.getElem?_eq_getElem jl]
                rfl
              rw [et, ← List.append_assoc]
              exact M7
          refine sg_237_143 F9 (by omega) (fun z => by omega) (fun _ z => by omega) (fun _ _ => by omega) (fun _ _ z => by omega) (fun _ _ _ => ?_)
          rw [show ((min m 201 : Nat) : Int) = (m : Int) by omega]
          have := copy (I.length - m) m h9 (m : Int) rfl (Nat.le_refl _) s1 rfl F9 fr9 (by rw [Nat.sub_self, List.take_zero, List.append_nil]; exact M9) oth
          rw [show ((min m 201 : Nat) : Int) = (m : Int) by omega] at this
          exact this
  have y34 := S0.2.2.2.1
  have y31 := S0.2.2.1
  by_cases c : t = 0
  · refine sg_237_0 F (by omega) (by omega) (by omega) (fun _ => by omega) (fun _ z => by rw [ix] at z; exact absurd (q1.trans c) z) (fun _ _ => ?_) (fun z => by rw [ix, q1] at z; omega)
    rw [ix, q2, hH, show (h 108 34).toNat = zot op P.length by omega]
    have F9 : zFin (zup H 127 (zot op P.length) ((min m 201 : Nat) : Int)) := b0.1.upA zfa_127
    have fr9 : zfr [127, 128, 129, 130, 131] H (zup H 127 (zot op P.length) ((min m 201 : Nat) : Int)) := zfr.rfl.up (by simp)
    have S9 := S0.fr fr9 (by decide)
    have g31 := S9.2.2.1
    have M0 := R0.2.2.2.1
    have f := fin _ F9 fr9 ⟨?_, fun q q1 q2 => ?_⟩ fun t' l' ne w => ⟨by rw [zup_k ne]; exact w.1, fun q q1 q2 => by rw [zup_c (by decide), zup_c (by decide), zup_c (by decide), zup_c (by decide)]; exact w.2 q q1 q2⟩
    · have w132 : zup H 127 (zot op P.length) ((min m 201 : Nat) : Int) 132 ((zup H 127 (zot op P.length) ((min m 201 : Nat) : Int) 108 31).toNat) = t := by rw [show (zup H 127 (zot op P.length) ((min m 201 : Nat) : Int) 108 31).toNat = r.length + zo1 op by omega, zup_c (by decide)]; exact g132
      exact sg_237_143 F9 (by omega) (fun _ => f) (fun z => by omega) (fun z => by omega) (fun z => by omega) (fun z => by omega)
    · rw [zup_eq, zrpt_len s1, c]
      show ((min m 201 : Nat) : Int) = ((min (m + 0 * (I.length - m)) 201 : Nat) : Int)
      rw [Nat.zero_mul, Nat.add_zero]
    · rw [zrpt_len s1, c] at q1
      have q1 : q < m + 0 * (I.length - m) := q1
      rw [Nat.zero_mul, Nat.add_zero] at q1
      rw [zrpt_old s1 (Or.inl ⟨by rw [c]; rfl, q1⟩), zup_c (by decide), zup_c (by decide), zup_c (by decide), zup_c (by decide)]
      exact M0.2 q (by omega) q2
  · refine sg_237_0 F (by omega) (by omega) (by omega) (fun _ => by omega) (fun _ _ => ?_) (fun _ z => by rw [ix] at z; exact absurd (q1.symm.trans z) c) (fun z => by rw [ix, q1] at z; omega)
    rw [ix, q2, hH, e127]
    exact loop _ 1 H 1 rfl (Nat.le_refl _) (by omega) rfl b0.1 zfr.rfl (by rw [zrpt_1]; exact R0.2.2.2.1) fun _ _ _ w => w
/-- shut: a part -/
theorem cm_237p {j : Nat} (F : zFin h) (t : zTKm h tb T L) (S : zMSa h n i ft P.length (some j) 0) (R : zMRe h tb T n P (some j) B [] I) (h8 : P.length < 8) (hi : i ≤ 400) (hj : j ≤ L) (k : ∀ h', zMb h h' → zMSa h' n (i + 1) (if zlgL I then zno ft 6 (zpcT tb T j : Int) else ft) (P ++ [(zvlT tb T j, I.take 200)]).length none 0 → zMRe h' tb T n (P ++ [(zvlT tb T j, I.take 200)]) none [] [] B → K none h') : zC X 237 [zR 108] h K := by
  have e19 := S.1.1
  have e22 : h 108 22 = ((P.length + 1 : Nat) : Int) := S.2.1
  have e31 : h 108 31 = ((0 + 1 : Nat) : Int) := S.2.2.1
  have e34 : h 108 34 = (P.length : Int) := S.2.2.2.1
  have ix : ((h 108 31) - 1).toNat = 0 := by omega
  obtain ⟨c1, c2, c3, c4, c5⟩ := R.2.1 j rfl
  have b0 : zMb h (zup (zup h 108 31 ((h 108 31) - 1)) 108 19 ((h 108 19) + 1)) := ((zMb.rf F).up (by decide)).up (by decide)
  have R0 : zMRe (zup (zup h 108 31 ((h 108 31) - 1)) 108 19 ((h 108 19) + 1)) tb T n P (some j) B [] I := R.up.up
  have len : (P ++ [(zvlT tb T j, I.take 200)]).length = P.length + 1 := by rw [List.length_append]; rfl
  have sc : (zup (zup h 108 31 ((h 108 31) - 1)) 108 19 ((h 108 19) + 1)) 108 19 = ((i + 1 : Nat) : Int) ∧ (zup (zup h 108 31 ((h 108 31) - 1)) 108 19 ((h 108 19) + 1)) 108 20 = ft.1 ∧ (zup (zup h 108 31 ((h 108 31) - 1)) 108 19 ((h 108 19) + 1)) 108 21 = ft.2 ∧ (zup (zup h 108 31 ((h 108 31) - 1)) 108 19 ((h 108 19) + 1)) 108 22 = ((P.length + 1 : Nat) : Int) ∧ (zup (zup h 108 31 ((h 108 31) - 1)) 108 19 ((h 108 19) + 1)) 108 31 = 0 ∧ (zup (zup h 108 31 ((h 108 31) - 1)) 108 19 ((h 108 19) + 1)) 108 34 = (P.length : Int) ∧ (zup (zup h 108 31 ((h 108 31) - 1)) 108 19 ((h 108 19) + 1)) 108 35 = (n : Int) := by
    obtain ⟨⟨a1, a2, a3⟩, b1, b2, b3, b4⟩ := S
    refine ⟨by rw [zup_eq]; omega, ?_, ?_, ?_, by rw [zup_k (by decide), zup_eq]; omega, ?_, ?_⟩
    all_goals rw [zup_k (by decide), zup_k (by decide)]; assumption
  refine sg_237_0 F (by omega) (by omega) (by omega) (fun z => by rw [ix] at z; exact absurd c5 z) (fun z => by rw [ix] at z; exact absurd c5 z) (fun z => by rw [ix] at z; exact absurd c5 z) (fun _ => ?_)
  generalize zup (zup h 108 31 ((h 108 31) - 1)) 108 19 ((h 108 19) + 1) = H at b0 R0 sc
  obtain ⟨s19, s20, s21, s22, s31, s34, s35⟩ := sc
  have tH := t.mb b0
  /- the last stretch -/
  have last : ∀ (h2 : zHP) (f2 : Int × Int), zMN H h2 f2 → f2 = (if zlgL I then zno ft 6 (zpcT tb T j : Int) else ft) → (h2 127 ((h2 108 34).toNat) ≤ 200 → (fun v sh' h' => sh' = zSHc ∧ K v h') none zSHc (zup (zup h2 125 ((h2 108 34).toNat) 1) 108 34 8)) ∧ (200 < h2 127 ((h2 108 34).toNat) → (fun v sh' h' => sh' = zSHc ∧ K v h') none zSHc (zup (zup (zup h2 127 ((h2 108 34).toNat) 200) 125 ((h2 108 34).toNat) 1) 108 34 8)) := fun h2 f2 N ef => by
    obtain ⟨n1, n2, n3, n4, n5⟩ := N
    have R2 : zMRe h2 tb T n P (some j) B [] I := R0.nt ⟨n1, n2, n3, n4, n5⟩
    obtain ⟨r1, r2, r3, r4, r5, r6, r7, r8, r9⟩ := R2
    obtain ⟨d1, d2, d3, d4, d5⟩ := r2 j rfl
    have r4 : zME h2 P.length I := r4
    have u34 : h2 108 34 = (P.length : Int) := (n3 34 (by decide) (by decide)).trans s34
    have u : (h2 108 34).toNat = P.length := by omega
    rw [ef] at n4 n5
    rw [u, r4.1]
    have bN : zMb H h2 := zMN.mb ⟨n1, n2, n3, n4, n5⟩
    have go : ∀ (h3 : zHP), zFin h3 → zfr [127] h2 h3 → (∀ q, q ≠ P.length → h3 127 q = h2 127 q) → h3 127 P.length = ((min I.length 200 : Nat) : Int) → (fun v sh' h' => sh' = zSHc ∧ K v h') none zSHc (zup (zup h3 125 P.length 1) 108 34 8) := fun h3 F3 fr3 g1 g2 => by
      have z75 : ∀ c q, c ≠ 108 → c ≠ 125 → c ≠ 127 → zup (zup h3 125 P.length 1) 108 34 8 c q = h2 c q := fun c q z1 z2 z3 => by rw [zup_c z1, zup_c z2, fr3 c (by simp; exact z3)]
      have z127 : ∀ q, zup (zup h3 125 P.length 1) 108 34 8 127 q = h3 127 q := fun q => by rw [zup_c (by decide), zup_c (by decide)]
      have me : ∀ t' l', t' ≠ P.length → zME h2 t' l' → zME (zup (zup h3 125 P.length 1) 108 34 8) t' l' := fun t' l' ne M => by
        unfold zME
        rw [z127, g1 t' ne]
        refine ⟨M.1, fun q q1 q2 => ?_⟩
        rw [z75 128 _ (by decide) (by decide) (by decide), z75 129 _ (by decide) (by decide) (by decide), z75 130 _ (by decide) (by decide) (by decide), z75 131 _ (by decide) (by decide) (by decide)]
        exact M.2 q q1 q2
      have b3 : zMb h2 (zup h3 125 P.length 1) := zMb.of (F3.upA zfa_125) (W := [125, 127]) ((fr3.mono (by simp)).up (by simp)) (by simp [zWm]) (by decide)
      refine ⟨rfl, k _ ((b0.tr bN).tr (b3.up (by decide))) ?_ ?_⟩
      · rw [len]
        have w : ∀ c, c ≠ 34 → zup (zup h3 125 P.length 1) 108 34 8 108 c = h2 108 c := fun c hc => by rw [zup_k hc, zup_c (by decide), fr3 108 (by decide)]
        refine ⟨⟨?_, ?_, ?_⟩, ?_, ?_, ?_, ?_⟩
        · rw [w 19 (by decide), n3 19 (by decide) (by decide)]; exact s19
        · rw [w 20 (by decide)]; exact n4
        · rw [w 21 (by decide)]; exact n5
        · rw [w 22 (by decide), n3 22 (by decide) (by decide)]; exact s22
        · rw [w 31 (by decide), n3 31 (by decide) (by decide)]; exact s31
        · rw [zup_eq]; rfl
        · rw [w 35 (by decide), n3 35 (by decide) (by decide)]; exact s35
      · refine ⟨fun p hp => ?_, fun j ej => (by cases ej), trivial, me 8 B (by omega) (r5 (by simp)), fun z => absurd rfl z, fun p hp => ?_, r8 (by simp), fun z => absurd rfl z, fun p hp => ?_⟩
        · rw [len] at hp
          rw [z75 124 _ (by decide) (by decide) (by decide), zup_c (by decide)]
          by_cases c : p < P.length
          · rw [zpg_l c, zup_k (by omega), fr3 125 (by decide)]
            exact r1 p c
          · rw [show p = P.length by omega, zpg_r, zup_eq]
            exact ⟨⟨j, d1, rfl, d2⟩, rfl⟩
        · rw [len] at hp
          by_cases c : p < P.length
          · rw [zpg_l c]; exact me p _ (by omega) (r6 p c)
          · rw [show p = P.length by omega, zpg_r]
            refine ⟨?_, fun q q1 q2 => ?_⟩
            · rw [z127, g2]
              show _ = ((min (I.take 200).length 201 : Nat) : Int)
              rw [List.length_take]
              omega
            · have q1 : q < (I.take 200).length := q1
              rw [List.length_take] at q1
              have eg : (I.take 200).getD q ze0 = I.getD q ze0 := by rw [List.getD_eq_getElem?_getD, List.getD_eq_getElem?_getD, List.getElem?_take, if_pos (by omega)]
              show _ = ((((I.take 200).getD q ze0).1 : Nat) : Int) ∧ _ = ((I.take 200).getD q ze0).2.1 ∧ (((I.take 200).getD q ze0).1 = 3 → _ = ((I.take 200).getD q ze0).2.2.1 ∧ _ = ((I.take 200).getD q ze0).2.2.2)
              rw [eg, z75 128 _ (by decide) (by decide) (by decide), z75 129 _ (by decide) (by decide) (by decide), z75 130 _ (by decide) (by decide) (by decide), z75 131 _ (by decide) (by decide) (by decide)]
              exact r4.2 q (by omega) q2
        · rw [len] at hp
          by_cases c : p < P.length
          · rw [zpg_l c]; exact r9 p c
          · rw [show p = P.length by omega, zpg_r]
            exact fun e he => r7 e (List.mem_of_mem_take he)
    refine ⟨fun z => go h2 n1 zfr.rfl (fun _ _ => rfl) (by rw [r4.1]; omega), fun z => ?_⟩
    refine go _ (n1.upA zfa_127) (zfr.rfl.up (by simp)) (fun q hq => zup_k hq) (by rw [zup_eq]; omega)
  have NH : zMN H H ft := zMN.rf b0.1 s20 s21
  have uH : (H 108 34).toNat = P.length := by omega
  have M0 : zME H P.length I := R0.2.2.2.1
  refine cm_230 (t := P.length) b0.1 s34 (by omega) M0 (fun lg => ?_) (fun nl => ?_)
  · have e126 : H 126 ((H 108 34).toNat) = (j : Int) := by rw [uH]; exact (R0.2.1 j rfl).2.2.2.1
    refine sg_237_37c b0.1 (fun z => absurd z (by decide)) (fun z => absurd z (by decide)) (fun z => absurd z (by decide)) (fun z => absurd z (by decide)) (fun z => absurd z (by decide)) (fun _ => by omega) (fun _ => ?_)
    rw [e126]
    refine cm_228 (j := j) b0.1 tH s20 s21 hj rfl fun h2 N => ?_
    obtain ⟨l1, l2⟩ := last h2 _ N (by rw [if_pos lg])
    have u34 : h2 108 34 = (P.length : Int) := (N.2.2.1 34 (by decide) (by decide)).trans s34
    exact sg_237_55c N.1 (by omega) (fun _ => by omega) l1 (fun _ => by omega) l2
  · obtain ⟨l1, l2⟩ := last H ft NH (by rw [if_neg nl])
    exact sg_237_37c b0.1 (fun _ => by omega) (fun _ _ => by omega) (fun _ => l1) (fun _ _ => by omega) (fun _ => l2) (fun z => absurd rfl z) (fun z => absurd rfl z)
end
