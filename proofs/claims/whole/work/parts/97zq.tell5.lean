/-! TEXTS, THE CLASS: AN END OF TIMES OR OF A PART -/
theorem zpg_l {P : List (Int × List zTe)} {x : Int × List zTe} {p : Nat} (h : p < P.length) : (P ++ [x]).getD p (0, []) = P.getD p (0, []) := by
  rw [List.getD_eq_getElem?_getD, List.getD_eq_getElem?_getD, List.getElem?_append_left h]
theorem zpg_r {P : List (Int × List zTe)} {x : Int × List zTe} : (P ++ [x]).getD P.length (0, []) = x := by
  rw [List.getD_eq_getElem?_getD, List.getElem?_append_right (Nat.le_refl _), Nat.sub_self]
  rfl
section
variable {X : List Int} {h : zHP} {K : Option zAV → zHP → Prop} {tb : Nat → Nat} {vl : Nat → Int} {T L n : Nat} {tp : Int} {i : Nat} {ft : Int × Int} {P : List (Int × List zTe)} {op : Option Nat} {B : List zTe} {st : List (Int × Nat)} {I : List zTe}
/-- close: times -/
theorem cx_119t {t : Int} {m : Nat} {r : List (Int × Nat)} (F : zFin h) (S : zSa h n tp i ft P.length op (r.length + 1)) (R : zRe h vl n P op B ((t, m) :: r) I) (sv : zsvd I.length ((t, m) :: r)) (h8 : P.length + zo1 op ≤ 8) (hd : r.length < 4) (hi : i ≤ 400) (k : ∀ h', zTb h h' → zSa h' n tp (i + 1) ft P.length op r.length → zRe h' vl n P op B r (zrptL m t.toNat I) → K none h') : zC X 119 [zR 75] h K := by
  have hoc := zoc_ok h8
  have e9 := S.1.2.2.2
  have e12 := S.2.1.2.2
  obtain ⟨s1, s2, s3, s4⟩ := sv
  have s1 : m ≤ I.length := s1
  have s2 : 0 ≤ t := s2
  have s3 : t < 10000 := s3
  have R0 := R
  obtain ⟨r1, r2, r3, ⟨⟨q1, q2, q3⟩, r4⟩, r5, r6, r7⟩ := R
  have q1 : h 105 r.length = ((min m 100000 : Nat) : Int) := q1
  have q2 : h 106 r.length = ((min (zc3L (I.take m)) 100000 : Nat) : Int) := q2
  have q3 : h 107 r.length = t := q3
  have g : zC X 31 [zR (zoc op P.length), zI (h 105 (((h 75 12) - 1).toNat)), zI (h 106 (((h 75 12) - 1).toNat)), zI (h 107 (((h 75 12) - 1).toNat))] (zup (zup h 75 9 ((h 75 9) + 1)) 75 12 ((h 75 12) - 1)) (fun v h9 => zAt X 119 69 0 0 [none] (zpush v []) zSHc h9 (fun v sh' h' => sh' = zSHc ∧ K v h')) := by
    rw [show ((h 75 12) - 1).toNat = r.length by omega]
    have f : ∀ c, c ≠ 75 → zup (zup h 75 9 ((h 75 9) + 1)) 75 12 ((h 75 12) - 1) c = h c := fun c hc => by funext j; rw [zup_c hc, zup_c hc]
    refine cxl_31 (m := m) (t := t.toNat) ((F.up (by decide)).up (by decide)) hoc (r5.fr (f _ zoc75.1) (f _ zoc75.2)) s1 (by omega) q1 q2 (by omega) fun h2 F2 fr2 L2 => sg_119_69c ⟨rfl, k h2 ?_ ?_ ?_⟩
    · exact (show zTb h (zup (zup h 75 9 ((h 75 9) + 1)) 75 12 ((h 75 12) - 1)) from ⟨(F.up (by decide)).up (by decide), (zfr.rfl.up (by decide)).up (by decide)⟩).tr (zTb.oc F2 h8 fr2)
    · have S2 : zSa (zup (zup h 75 9 ((h 75 9) + 1)) 75 12 ((h 75 12) - 1)) n tp (i + 1) ft P.length op r.length := by
        obtain ⟨⟨a1, a2, a3, a4⟩, ⟨b1, b2, b3⟩, c1, c2, c3⟩ := S
        refine ⟨⟨?_, ?_, ?_, by rw [zup_k (by decide), zup_eq]; omega⟩, ⟨?_, ?_, by rw [zup_eq]; omega⟩, ?_, ?_, ?_⟩
        all_goals rw [zup_k (by decide), zup_k (by decide)]; assumption
      exact S2.fr fr2 zoc_n75
    · have oc := hoc
      unfold zLad at oc
      have g2 : ∀ c, c ≠ 75 → c ≠ zoc op P.length → c ≠ zoc op P.length + 1 → h2 c = h c := fun c z1 z2 z3 => (fr2 c (by simp; exact ⟨z2, z3⟩)).trans (f c z1)
      have oo : zoc op P.length = 76 ∧ op = none ∨ zoc op P.length = 80 + 3 * P.length ∧ op ≠ none := by
        by_cases c : op = none
        · exact Or.inl ⟨if_pos c, c⟩
        · exact Or.inr ⟨if_neg c, c⟩
      refine ⟨by rw [g2 79 (by decide) (by omega) (by omega)]; exact r1, by rw [g2 104 (by decide) (by omega) (by omega)]; exact r2, by rw [g2 104 (by decide) (by omega) (by omega)]; exact r3, (r4.fr (g2 _ (by decide) (by omega) (by omega)) (g2 _ (by decide) (by omega) (by omega)) (g2 _ (by decide) (by omega) (by omega))).pre s4 (fun q hq => zrpt_take s1 hq), L2, fun o => ?_, fun p hp => ?_⟩
      · rcases oo with ⟨z, w⟩ | ⟨z, w⟩
        · exact absurd w o
        · exact (r6 o).fr (g2 _ (by decide) (by omega) (by omega)) (g2 _ (by decide) (by omega) (by omega))
      · rcases oo with ⟨z, w⟩ | ⟨z, w⟩
        · exact (r7 p hp).fr (g2 _ (by omega) (by omega) (by omega)) (g2 _ (by omega) (by omega) (by omega))
        · exact (r7 p hp).fr (g2 _ (by omega) (by omega) (by omega)) (g2 _ (by omega) (by omega) (by omega))
  exact sg_119_0 F hoc hoc hoc (by omega) (fun z => by omega) (fun z => by omega) (fun z => by omega) (fun _ z => by omega) (fun _ z => by omega) (fun _ z => by omega) (fun _ _ => by omega) (fun _ _ => S.1.2.1) (fun _ _ => by omega) (fun _ _ => g)
/-- close: a part -/
theorem cx_119p {j : Nat} (F : zFin h) (S : zSa h n tp i ft P.length (some j) 0) (R : zRe h vl n P (some j) B [] I) (h8 : P.length < 8) (hi : i ≤ 400) (k : ∀ h', zTb h h' → zSa h' n tp (i + 1) (if zlgL I then zno ft 6 tp else ft) (P ++ [(vl j, I.take 200)]).length none 0 → zRe h' vl n (P ++ [(vl j, I.take 200)]) none [] [] B → K none h') : zC X 119 [zR 75] h K := by
  have hoc : zLad (80 + 3 * P.length) := by unfold zLad; omega
  have e7 : h 75 7 = ((80 + 3 * P.length : Nat) : Int) := S.1.2.1
  have e9 := S.1.2.2.2
  have e12 := S.2.1.2.2
  have e13 := S.2.2.1
  obtain ⟨r1, r2, r3, r4, r5, r6, r7⟩ := R
  have r5 : zLE h (80 + 3 * P.length) n I := r5
  have lg := zlg_iff (x := h (80 + 3 * P.length) 3) (y := h (80 + 3 * P.length) 4) r5.1.2.1 r5.1.2.2.1
  have c3 : (zup h 75 9 ((h 75 9) + 1)) (80 + 3 * P.length) 3 = h (80 + 3 * P.length) 3 := zup_c (by omega)
  have c4 : (zup h 75 9 ((h 75 9) + 1)) (80 + 3 * P.length) 4 = h (80 + 3 * P.length) 4 := zup_c (by omega)
  have fin : ∀ (h1 : zHP) (f1 : Int × Int), zTb h h1 → zFin h1 → (∀ c, c ≠ 75 → h1 c = h c) → zSa h1 n tp (i + 1) f1 P.length (some j) 0 → f1 = (if zlgL I then zno ft 6 tp else ft) → (fun v sh' h' => sh' = zSHc ∧ K v h') none zSHc (zup (zup h1 75 7 ((76 : Nat) : Int)) 75 10 (h1 75 11)) := fun h1 f1 b F1 f S1 ef => by
    rw [ef] at S1
    obtain ⟨⟨a1, a2, a3, a4⟩, ⟨b1, b2, b3⟩, d1, d2, d3⟩ := S1
    have b2 : h1 75 11 = ((P.length + 1 : Nat) : Int) := b2
    have len : (P ++ [(vl j, I.take 200)]).length = P.length + 1 := by rw [List.length_append]; rfl
    have f2 : ∀ c, c ≠ 75 → zup (zup h1 75 7 ((76 : Nat) : Int)) 75 10 (h1 75 11) c = h c := fun c hc => by rw [← f c hc]; funext q; rw [zup_c hc, zup_c hc]
    refine ⟨rfl, k _ (b.tr ⟨(F1.up (by decide)).up (by decide), (zfr.rfl.up (by decide)).up (by decide)⟩) ?_ ?_⟩
    · rw [len]
      refine ⟨⟨?_, ?_, ?_, ?_⟩, ⟨?_, ?_, ?_⟩, ?_, ?_, ?_⟩
      · rw [zup_k (by decide), zup_k (by decide)]; exact a1
      · rw [zup_k (by decide), zup_eq]; rfl
      · rw [zup_k (by decide), zup_k (by decide)]; exact a3
      · rw [zup_k (by decide), zup_k (by decide)]; exact a4
      · rw [zup_eq]; exact b2
      · rw [zup_k (by decide), zup_k (by decide), b2]; rfl
      · rw [zup_k (by decide), zup_k (by decide)]; exact b3
      · rw [zup_k (by decide), zup_k (by decide)]; exact d1
      · rw [zup_k (by decide), zup_k (by decide)]; exact d2
      · rw [zup_k (by decide), zup_k (by decide)]; exact d3
    · refine ⟨by rw [f2 79 (by decide)]; exact r1, fun p hp => ?_, fun j ej => (by cases ej), trivial, (r6 (by simp)).fr (f2 _ (by decide)) (f2 _ (by decide)), fun z => absurd rfl z, fun p hp => ?_⟩
      · rw [f2 104 (by decide)]
        rw [len] at hp
        by_cases c : p < P.length
        · rw [zpg_l c]; exact r2 p c
        · rw [show p = P.length by omega, zpg_r]; exact r3 j rfl
      · rw [len] at hp
        by_cases c : p < P.length
        · rw [zpg_l c]; exact (r7 p c).fr (f2 _ (by omega)) (f2 _ (by omega))
        · rw [show p = P.length by omega, zpg_r]
          exact r5.part.fr (f2 _ (by omega)) (f2 _ (by omega))
  have b0 : zTb h (zup h 75 9 ((h 75 9) + 1)) := ⟨F.up (by decide), zfr.rfl.up (by decide)⟩
  have f0 : ∀ c, c ≠ 75 → zup h 75 9 ((h 75 9) + 1) c = h c := fun c hc => by funext q; exact zup_c hc
  have S0 : zSa (zup h 75 9 ((h 75 9) + 1)) n tp (i + 1) ft P.length (some j) 0 := S.at (by omega)
  refine sg_119_0 F hoc hoc hoc (by omega) (fun _ => by rw [zup_k (by decide)]; exact e7) (fun _ z => ?_) (fun _ z => ?_) (fun z => by omega) (fun z => by omega) (fun z => by omega) (fun z => by omega) (fun z => by omega) (fun z => by omega) (fun z => by omega)
  · rw [c3, c4] at z
    have := fin _ ft b0 b0.1 f0 S0 (by rw [if_neg (fun w => z (lg.mpr w))])
    rw [show (zup h 75 9 ((h 75 9) + 1)) 75 11 = h 75 11 from zup_k (by decide)] at this
    exact this
  · rw [c3, c4] at z
    rw [e13]
    refine cx_109 b0.1 S0.2.2.2.1 S0.2.2.2.2 fun h1 N => sg_119_90c N.1 ?_
    exact fin h1 _ (b0.tr (zTb.nt N)) N.1 (fun c hc => (N.2.1 c (by simp; exact hc)).trans (f0 c hc)) (S0.nt N) (by rw [if_pos (lg.mp z)])
end
