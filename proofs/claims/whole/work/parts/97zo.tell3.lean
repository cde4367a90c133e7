/-! TEXTS, THE CLASS: A PART IS USED -/
theorem zuse_nil {ub tb : Bool} {n : Int} : zuseL ub tb n [] = [] := by
  unfold zuseL
  cases ub <;> rfl
theorem zTkK_up {h : zHP} {c : Nat} {x y : Int} : zTkK (zup h 75 c x) y = zTkK h y := by
  unfold zTkK
  rw [zup_c (by decide), zup_c (by decide)]
section
variable {X : List Int} {h : zHP} {K : Option zAV → zHP → Prop} {tb : Nat → Nat} {T L n : Nat} {tp : Int} {i : Nat} {ft : Int × Int} {P : List (Int × List zTe)} {op : Option Nat} {B : List zTe} {st : List (Int × Nat)} {I : List zTe} {m d : Nat}
theorem zSa.mv {H : zHP} {j : Nat} (S : zSa h n tp i ft m op d) (e : ∀ c, c ≠ 9 → H 75 c = h 75 c) (e9 : H 75 9 = (j : Int)) : zSa H n tp j ft m op d := by
  obtain ⟨⟨a1, a2, a3, a4⟩, ⟨b1, b2, b3⟩, c1, c2, c3⟩ := S
  exact ⟨⟨(e 6 (by decide)).trans a1, (e 7 (by decide)).trans a2, (e 8 (by decide)).trans a3, e9⟩, ⟨(e 10 (by decide)).trans b1, (e 11 (by decide)).trans b2, (e 12 (by decide)).trans b3⟩, (e 13 (by decide)).trans c1, (e 14 (by decide)).trans c2, (e 15 (by decide)).trans c3⟩
/-- tellUse -/
theorem cx_115 (F : zFin h) (t : zTKc h tb T L) (S : zSa h n tp i ft P.length op st.length) (R : zRe h (zvlT tb T) n P op B st I) (sv : zsvd I.length st) (h8 : P.length + zo1 op ≤ 8) (hn : n ≤ 7) (hi : zj2 (zkdT tb T) i < L) (k : ∀ h', zTb h h' → zSa h' n tp (zj2 (zkdT tb T) i + 1) (if zlk1 P (zvlT tb T (i + 1)) = none then zno ft 4 (zpcT tb T (i + 1) : Int) else ft) P.length op st.length → zRe h' (zvlT tb T) n P op B st (zuI zlk1 (n : Int) (zkdT tb T) (zvlT tb T) i P I) → K none h') : zC X 115 [zR 75] h K := by
  have tl := t.2.1
  have j12 : i + 2 ≤ zj2 (zkdT tb T) i ∧ zj1 (zkdT tb T) i ≤ zj2 (zkdT tb T) i := by
    unfold zj2 zj1
    split <;> split <;> omega
  have e9 := S.1.2.2.2
  have ev : zTkV h (h 75 9 + 1) = zvlT tb T (i + 1) := t.vv (by omega) (by omega)
  have hoc := zoc_ok h8
  refine sg_115_0 F S.1.1 (by omega) ?_
  rw [ev]
  have mk : ∀ (h1 H : zHP) (f1 : Int × Int) (j : Nat) (I2 : List zTe), zTb h h1 → zSa h1 n tp i f1 P.length op st.length → zRe h1 (zvlT tb T) n P op B st I → zFin H → zfr [75] h1 H → (∀ c, c ≠ 9 → H 75 c = h1 75 c) → H 75 9 = ((zj2 (zkdT tb T) i + 1 : Nat) : Int) → zTb h H ∧ zSa H n tp (zj2 (zkdT tb T) i + 1) f1 P.length op st.length ∧ zRe H (zvlT tb T) n P op B st I := fun h1 H f1 j I2 b S1 R1 FH fr e q => ⟨b.tr ⟨FH, fr.mono (by simp [zWt])⟩, S1.mv e q, R1.fr (fun c hc => fr c (by simp; exact hc)) zoc75.1 zoc75.2⟩
  have ups : ∀ (h1 : zHP) (a : Int), zFin h1 → zFin (zup h1 75 9 a) ∧ zfr [75] h1 (zup h1 75 9 a) ∧ ∀ c, c ≠ 9 → zup h1 75 9 a 75 c = h1 75 c := fun h1 a F1 => ⟨F1.up (by decide), zfr.rfl.up (by simp), fun c hc => zup_k hc⟩
  refine cx_116 (N := P.length) F (by omega) S.2.1.1 rfl R.2.1 (fun no => ?_) (fun p hp _ yes => ?_)
  · have nn := zlk1_none no
    rw [if_pos nn] at k
    have eI : zuI zlk1 (n : Int) (zkdT tb T) (zvlT tb T) i P I = I := by
      unfold zuI
      rw [nn]
      show I ++ zuseL _ _ _ [] = I
      rw [zuse_nil, List.append_nil]
    rw [eI] at k
    have pp : zTkP h (h 75 9 + 1) = (zpcT tb T (i + 1) : Int) := t.pp (by omega) (by omega)
    apply sg_115_17c (r3 := zoc op P.length) (r4 := 80) (r5 := zoc op P.length) (r6 := 80) (r8 := zoc op P.length) (r9 := 80) (r10 := zoc op P.length) (r11 := 80) F hoc hoc hoc hoc
    case o27 => intro _; exact S.1.1
    case o28 => intro _; omega
    case k9 =>
      intro _
      rw [pp]
      refine cx_109 F S.2.2.2.1 S.2.2.2.2 fun h1 N => ?_
      have S1 := S.nt N
      have R1 := R.nt N
      have t1 := (zTb.nt N).tk t
      have g9 := S1.1.2.2.2
      have F1 := N.1
      have q1 : zTkK (zup h1 75 9 (h1 75 9 + 2)) (h1 75 9 + 2) = zkdT tb T (i + 2) := by rw [zTkK_up]; exact t1.kk (by omega) (by omega)
      have q2 : zkdT tb T (i + 2) = 117 → zTkK (zup (zup h1 75 9 (h1 75 9 + 2)) 75 9 (h1 75 9 + 2 + 1)) (h1 75 9 + 2 + 1) = zkdT tb T (i + 3) := fun c => by
        have : zj1 (zkdT tb T) i = i + 3 := if_pos c
        rw [zTkK_up, zTkK_up]
        exact t1.kk (by omega) (by omega)
      have done : ∀ (H : zHP), zFin H → zfr [75] h1 H → (∀ c, c ≠ 9 → H 75 c = h1 75 c) → H 75 9 = ((zj2 (zkdT tb T) i + 1 : Nat) : Int) → (fun v sh' h' => sh' = zSHc ∧ K v h') none zSHc H := fun H FH fr e q => by
        obtain ⟨m1, m2, m3⟩ := mk h1 H _ 0 [] (zTb.nt N) S1 R1 FH fr e q
        exact ⟨rfl, k H m1 m2 m3⟩
      obtain ⟨u1, u2, u3⟩ := ups h1 (h1 75 9 + 2) F1
      obtain ⟨v1, v2, v3⟩ := ups _ (h1 75 9 + 2 + 1) u1
      obtain ⟨w1, w2, w3⟩ := ups _ (h1 75 9 + 2 + 1 + 1) v1
      obtain ⟨x1, x2, x3⟩ := ups _ (h1 75 9 + 2 + 1 + 1 + 1) w1
      have c3 : ∀ c, c ≠ 9 → zup (zup h1 75 9 (h1 75 9 + 2)) 75 9 (h1 75 9 + 2 + 1) 75 c = h1 75 c := fun c hc => (v3 c hc).trans (u3 c hc)
      have c4 : ∀ c, c ≠ 9 → zup (zup (zup h1 75 9 (h1 75 9 + 2)) 75 9 (h1 75 9 + 2 + 1)) 75 9 (h1 75 9 + 2 + 1 + 1) 75 c = h1 75 c := fun c hc => (w3 c hc).trans (c3 c hc)
      have c5 : ∀ c, c ≠ 9 → zup (zup (zup (zup h1 75 9 (h1 75 9 + 2)) 75 9 (h1 75 9 + 2 + 1)) 75 9 (h1 75 9 + 2 + 1 + 1)) 75 9 (h1 75 9 + 2 + 1 + 1 + 1) 75 c = h1 75 c := fun c hc => (x3 c hc).trans (c4 c hc)
      by_cases c7 : zkdT tb T (i + 2) = 117
      · have q2 := q2 c7
        have ej1 : zj1 (zkdT tb T) i = i + 3 := if_pos c7
        by_cases c6 : zkdT tb T (i + 3) = 116
        · have ej2 : zj2 (zkdT tb T) i = i + 4 := by unfold zj2; rw [ej1, if_pos c6]
          have g := done _ x1 (((u2.trans v2).trans w2).trans x2) c5 (by rw [zup_eq, ej2]; omega)
          apply sg_115_40c (r3 := zoc op P.length) (r4 := 80) (r5 := zoc op P.length) (r6 := 80) (r8 := zoc op P.length) (r9 := 80) (r10 := zoc op P.length) (r11 := 80) F1 hoc hoc hoc hoc <;> intros <;> first | omega | exact S1.1.1 | exact g
        · have ej2 : zj2 (zkdT tb T) i = i + 3 := by unfold zj2; rw [ej1, if_neg c6]
          have g := done _ w1 ((u2.trans v2).trans w2) c4 (by rw [zup_eq, ej2]; omega)
          apply sg_115_40c (r3 := zoc op P.length) (r4 := 80) (r5 := zoc op P.length) (r6 := 80) (r8 := zoc op P.length) (r9 := 80) (r10 := zoc op P.length) (r11 := 80) F1 hoc hoc hoc hoc <;> intros <;> first | omega | exact S1.1.1 | exact g
      · have ej1 : zj1 (zkdT tb T) i = i + 2 := if_neg c7
        by_cases c6 : zkdT tb T (i + 2) = 116
        · have ej2 : zj2 (zkdT tb T) i = i + 3 := by unfold zj2; rw [ej1, if_pos c6]
          have g := done _ w1 ((u2.trans v2).trans w2) c4 (by rw [zup_eq, ej2]; omega)
          apply sg_115_40c (r3 := zoc op P.length) (r4 := 80) (r5 := zoc op P.length) (r6 := 80) (r8 := zoc op P.length) (r9 := 80) (r10 := zoc op P.length) (r11 := 80) F1 hoc hoc hoc hoc <;> intros <;> first | omega | exact S1.1.1 | exact g
        · have ej2 : zj2 (zkdT tb T) i = i + 2 := by unfold zj2; rw [ej1, if_neg c6]
          have g := done _ v1 (u2.trans v2) c3 (by rw [zup_eq, ej2]; omega)
          apply sg_115_40c (r3 := zoc op P.length) (r4 := 80) (r5 := zoc op P.length) (r6 := 80) (r8 := zoc op P.length) (r9 := 80) (r10 := zoc op P.length) (r11 := 80) F1 hoc hoc hoc hoc <;> intros <;> first | omega | exact S1.1.1 | exact g
    all_goals (intro z; exact absurd z (by decide))
  · have nn : ¬ zlk1 P (zvlT tb T (i + 1)) = none := by rw [yes]; simp
    rw [if_neg nn] at k
    have p8 : p < 8 := by omega
    have e79 : h 79 ((p : Int)).toNat = ((80 + 3 * p : Nat) : Int) := by rw [Int.toNat_natCast]; exact R.1 p p8
    have hpp : zLad (80 + 3 * p) := by unfold zLad; omega
    have ne : zoc op P.length ≠ 80 + 3 * p := by
      by_cases c : op = none
      · rw [show zoc op P.length = 76 from if_pos c]; omega
      · rw [show zoc op P.length = 80 + 3 * P.length from if_neg c]; omega
    have q1 : zTkK (zup h 75 9 (h 75 9 + 2)) (h 75 9 + 2) = zkdT tb T (i + 2) := by rw [zTkK_up]; exact t.kk (by omega) (by omega)
    have q2 : zkdT tb T (i + 2) = 117 → zTkK (zup (zup h 75 9 (h 75 9 + 2)) 75 9 (h 75 9 + 2 + 1)) (h 75 9 + 2 + 1) = zkdT tb T (i + 3) := fun c => by
      have : zj1 (zkdT tb T) i = i + 3 := if_pos c
      rw [zTkK_up, zTkK_up]
      exact t.kk (by omega) (by omega)
    have done : ∀ (H : zHP) (up tu : Int), zFin H → zfr [75] h H → (∀ c, c ≠ 9 → H 75 c = h 75 c) → H 75 9 = ((zj2 (zkdT tb T) i + 1 : Nat) : Int) → up = (if decide (zkdT tb T (i + 2) = 117) = true then 1 else 0) → tu = (if decide (zkdT tb T (zj1 (zkdT tb T) i) = 116) = true then 1 else 0) → zC X 30 [zR (zoc op P.length), zR (80 + 3 * p), zI up, zI tu] H (fun v h9 => zAt X 115 160 0 0 [none, none, none, none] (zpush v []) zSHc h9 (fun v sh' h' => sh' = zSHc ∧ K v h')) := fun H up tu FH fr e q hu ht => by
      obtain ⟨m1, m2, m3⟩ := mk h H ft 0 [] ⟨F, zfr.rfl⟩ S R FH fr e q
      refine cxl_30 FH hoc hpp ne m3.2.2.2.2.1 (m3.2.2.2.2.2.2 p hp) hn hu ht fun h2 F2 fr2 L2 => sg_115_160c ⟨rfl, k h2 (m1.tr (zTb.oc F2 h8 fr2)) (m2.fr fr2 zoc_n75) ?_⟩
      have eI : zuI zlk1 (n : Int) (zkdT tb T) (zvlT tb T) i P I = I ++ zuseL (decide (zkdT tb T (i + 2) = 117)) (decide (zkdT tb T (zj1 (zkdT tb T) i) = 116)) (n : Int) (P.getD p (0, [])).2 := by
        unfold zuI
        rw [yes]
        rfl
      rw [eI]
      exact m3.add sv h8 fr2 L2
    obtain ⟨u1, u2, u3⟩ := ups h (h 75 9 + 2) F
    obtain ⟨v1, v2, v3⟩ := ups _ (h 75 9 + 2 + 1) u1
    obtain ⟨w1, w2, w3⟩ := ups _ (h 75 9 + 2 + 1 + 1) v1
    obtain ⟨x1, x2, x3⟩ := ups _ (h 75 9 + 2 + 1 + 1 + 1) w1
    have c3 : ∀ c, c ≠ 9 → zup (zup h 75 9 (h 75 9 + 2)) 75 9 (h 75 9 + 2 + 1) 75 c = h 75 c := fun c hc => (v3 c hc).trans (u3 c hc)
    have c4 : ∀ c, c ≠ 9 → zup (zup (zup h 75 9 (h 75 9 + 2)) 75 9 (h 75 9 + 2 + 1)) 75 9 (h 75 9 + 2 + 1 + 1) 75 c = h 75 c := fun c hc => (w3 c hc).trans (c3 c hc)
    have c5 : ∀ c, c ≠ 9 → zup (zup (zup (zup h 75 9 (h 75 9 + 2)) 75 9 (h 75 9 + 2 + 1)) 75 9 (h 75 9 + 2 + 1 + 1)) 75 9 (h 75 9 + 2 + 1 + 1 + 1) 75 c = h 75 c := fun c hc => (x3 c hc).trans (c4 c hc)
    by_cases c7 : zkdT tb T (i + 2) = 117
    · have q2 := q2 c7
      have ej1 : zj1 (zkdT tb T) i = i + 3 := if_pos c7
      by_cases c6 : zkdT tb T (i + 3) = 116
      · have ej2 : zj2 (zkdT tb T) i = i + 4 := by unfold zj2; rw [ej1, if_pos c6]
        have g := done _ 1 1 x1 (((u2.trans v2).trans w2).trans x2) c5 (by rw [zup_eq, ej2]; omega) (by rw [decide_eq_true c7]; rfl) (by rw [ej1, decide_eq_true c6]; rfl)
        apply sg_115_17c (r3 := zoc op P.length) (r4 := 80 + 3 * p) (r5 := zoc op P.length) (r6 := 80 + 3 * p) (r8 := zoc op P.length) (r9 := 80 + 3 * p) (r10 := zoc op P.length) (r11 := 80 + 3 * p) F hoc hoc hoc hoc <;> intros <;> first | omega | exact S.1.1 | exact S.1.2.1 | exact e79 | exact g
      · have ej2 : zj2 (zkdT tb T) i = i + 3 := by unfold zj2; rw [ej1, if_neg c6]
        have g := done _ 1 0 w1 ((u2.trans v2).trans w2) c4 (by rw [zup_eq, ej2]; omega) (by rw [decide_eq_true c7]; rfl) (by rw [ej1, decide_eq_false c6]; rfl)
        apply sg_115_17c (r3 := zoc op P.length) (r4 := 80 + 3 * p) (r5 := zoc op P.length) (r6 := 80 + 3 * p) (r8 := zoc op P.length) (r9 := 80 + 3 * p) (r10 := zoc op P.length) (r11 := 80 + 3 * p) F hoc hoc hoc hoc <;> intros <;> first | omega | exact S.1.1 | exact S.1.2.1 | exact e79 | exact g
    · have ej1 : zj1 (zkdT tb T) i = i + 2 := if_neg c7
      by_cases c6 : zkdT tb T (i + 2) = 116
      · have ej2 : zj2 (zkdT tb T) i = i + 3 := by unfold zj2; rw [ej1, if_pos c6]
        have g := done _ 0 1 w1 ((u2.trans v2).trans w2) c4 (by rw [zup_eq, ej2]; omega) (by rw [decide_eq_false c7]; rfl) (by rw [ej1, decide_eq_true c6]; rfl)
        apply sg_115_17c (r3 := zoc op P.length) (r4 := 80 + 3 * p) (r5 := zoc op P.length) (r6 := 80 + 3 * p) (r8 := zoc op P.length) (r9 := 80 + 3 * p) (r10 := zoc op P.length) (r11 := 80 + 3 * p) F hoc hoc hoc hoc <;> intros <;> first | omega | exact S.1.1 | exact S.1.2.1 | exact e79 | exact g
      · have ej2 : zj2 (zkdT tb T) i = i + 2 := by unfold zj2; rw [ej1, if_neg c6]
        have g := done _ 0 0 v1 (u2.trans v2) c3 (by rw [zup_eq, ej2]; omega) (by rw [decide_eq_false c7]; rfl) (by rw [ej1, decide_eq_false c6]; rfl)
        apply sg_115_17c (r3 := zoc op P.length) (r4 := 80 + 3 * p) (r5 := zoc op P.length) (r6 := 80 + 3 * p) (r8 := zoc op P.length) (r9 := 80 + 3 * p) (r10 := zoc op P.length) (r11 := 80 + 3 * p) F hoc hoc hoc hoc <;> intros <;> first | omega | exact S.1.1 | exact S.1.2.1 | exact e79 | exact g
end
