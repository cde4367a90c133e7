/-! TEXTS, THE CLASS: ELEMENTS, PARTS USED -/
section
variable {X : List Int} {h : zHP} {K : Option zAV → zHP → Prop} {tb : Nat → Nat} {T L n : Nat} {tp : Int} {i : Nat} {ft : Int × Int} {P : List (Int × List zTe)} {op : Option Nat} {B : List zTe} {st : List (Int × Nat)} {I : List zTe}
/-- tellPair -/
theorem cx_112 {q : Nat} {x : Int} (F : zFin h) (t : zTKc h tb T L) (S : zSa h n tp i ft P.length op st.length) (R : zRe h (zvlT tb T) n P op B st I) (sv : zsvd I.length st) (h8 : P.length + zo1 op ≤ 8) (hn : n ≤ 7) (hq : q < 3) (hi : i + 1 < L) (hk : zkdT tb T (i + 1) = 105) (hx : x = (q : Int)) (k : ∀ h', zTb h h' → zSa h' n tp (i + 3) (znlg (n : Int) ft (zvlT tb T (i + 1)) (zpcT tb T (i + 1) : Int)) P.length op st.length → zRe h' (zvlT tb T) n P op B st (I ++ [(q, zvlT tb T (i + 1), 0, 0)]) → K none h') : zC X 112 [zR 75, zI x] h K := by
  have tl := t.2.1
  refine sg_112_0 S.1.2.1 (cx_113 F t S hn hi hk fun h1 N => ?_)
  have S1 := S.nt N
  have R1 := R.nt N
  rw [hx]
  refine sg_112_9c (zoc_ok h8) (cxl_28 (kd := q) N.1 (zoc_ok h8) R1.2.2.2.2.1 (by omega) fun h2 F2 fr2 L2 => ?_)
  have S2 := S1.fr fr2 zoc_n75
  have R2 := R1.add sv h8 fr2 L2
  have e9 := S2.1.2.2.2
  refine sg_112_14c (by omega) ⟨rfl, k _ (((zTb.nt N).tr (zTb.oc F2 h8 fr2)).tr ⟨F2.up (by decide), zfr.rfl.up (by decide)⟩) (S2.at (by omega)) R2.up⟩
/-- tellMaybe -/
theorem cx_114 (F : zFin h) (t : zTKc h tb T L) (S : zSa h n tp i ft P.length op st.length) (R : zRe h (zvlT tb T) n P op B st I) (sv : zsvd I.length st) (h8 : P.length + zo1 op ≤ 8) (hn : n ≤ 7) (hi : i + 3 < L) (hk : zkdT tb T (i + 1) = 105) (hk2 : zkdT tb T (i + 2) = 105) (hk3 : zkdT tb T (i + 3) = 105) (k : ∀ h', zTb h h' → zSa h' n tp (i + 5) (zm77 (n : Int) (zvlT tb T) (fun i => (zpcT tb T i : Int)) i ft) P.length op st.length → zRe h' (zvlT tb T) n P op B st (I ++ [(3, zvlT tb T (i + 1), zvlT tb T (i + 2), zvlT tb T (i + 3))]) → K none h') : zC X 114 [zR 75] h K := by
  have tl := t.2.1
  refine sg_114_0 (cx_113 F t S hn (by omega) hk fun h1 N => ?_)
  have S1 := S.nt N
  have R1 := R.nt N
  have t1 := (zTb.nt N).tk t
  have e9 := S1.1.2.2.2
  have e6 := S1.1.1
  have e7 := S1.1.2.1
  refine sg_114_4c e6 (by omega) (cx_129 (j := i + 2) N.1 t1 (by omega) (by omega) hk2 ?_)
  refine sg_114_18c e6 (by omega) (cx_129 (j := i + 3) N.1 t1 (by omega) (by omega) hk3 ?_)
  have v2 := zvl_int hk2
  have v3 := zvl_int hk3
  have p2 : zTkP h1 (h1 75 9 + 2) = (zpcT tb T (i + 2) : Int) := t1.pp (by omega) (by omega)
  have em : zm77 (n : Int) (zvlT tb T) (fun i => (zpcT tb T i : Int)) i ft = if zvlT tb T (i + 3) < 1 ∨ 4 < zvlT tb T (i + 3) then zno (if zvlT tb T (i + 3) < zvlT tb T (i + 2) then zno (znlg (n : Int) ft (zvlT tb T (i + 1)) (zpcT tb T (i + 1) : Int)) 5 (zpcT tb T (i + 2) : Int) else znlg (n : Int) ft (zvlT tb T (i + 1)) (zpcT tb T (i + 1) : Int)) 5 (zpcT tb T (i + 3) : Int) else if zvlT tb T (i + 3) < zvlT tb T (i + 2) then zno (znlg (n : Int) ft (zvlT tb T (i + 1)) (zpcT tb T (i + 1) : Int)) 5 (zpcT tb T (i + 2) : Int) else znlg (n : Int) ft (zvlT tb T (i + 1)) (zpcT tb T (i + 1) : Int) := rfl
  /- the last stretch: the element comes -/
  have last : ∀ (h2 : zHP) (f2 : Int × Int), zNt h1 h2 f2 → f2 = zm77 (n : Int) (zvlT tb T) (fun i => (zpcT tb T i : Int)) i ft → zC X 28 [zR (zoc op P.length), zI 3, zI (zvlT tb T (i + 1)), zI (zvlT tb T (i + 2)), zI (zvlT tb T (i + 3))] h2 (fun v h9 => zAt X 114 95 0 0 [some (zR 75), none, none, none] (zpush v []) zSHc h9 (fun v sh' h' => sh' = zSHc ∧ K v h')) := fun h2 f2 N2 ef => by
    have S2 := S1.nt N2
    have R2 := R1.nt N2
    refine cxl_28 (kd := 3) N2.1 (zoc_ok h8) R2.2.2.2.2.1 (by decide) fun h3 F3 fr3 L3 => ?_
    have S3 := S2.fr fr3 zoc_n75
    have R3 := R2.add sv h8 fr3 L3
    have g9 := S3.1.2.2.2
    rw [ef] at S3
    refine sg_114_95c (by omega) ⟨rfl, k _ ((((zTb.nt N).tr (zTb.nt N2)).tr (zTb.oc F3 h8 fr3)).tr ⟨F3.up (by decide), zfr.rfl.up (by decide)⟩) (S3.at (by omega)) R3.up⟩
  /- the ways out of range, or not -/
  have ways : ∀ (h2 : zHP) (f2 : Int × Int), zNt h1 h2 f2 → f2 = (if zvlT tb T (i + 3) < zvlT tb T (i + 2) then zno (znlg (n : Int) ft (zvlT tb T (i + 1)) (zpcT tb T (i + 1) : Int)) 5 (zpcT tb T (i + 2) : Int) else znlg (n : Int) ft (zvlT tb T (i + 1)) (zpcT tb T (i + 1) : Int)) → ((zvlT tb T (i + 3) < 1 ∨ 4 < zvlT tb T (i + 3)) → zC X 109 [zR 75, zI 5, zI (zTkP h2 ((h2 75 9) + 3))] h2 (fun v h9 => zAt X 114 84 0 0 [some (zR 75), some (zI (zvlT tb T (i + 1))), some (zI (zvlT tb T (i + 2))), some (zI (zvlT tb T (i + 3)))] (zpush v []) zSHc h9 (fun v sh' h' => sh' = zSHc ∧ K v h'))) ∧ (1 ≤ zvlT tb T (i + 3) → zvlT tb T (i + 3) ≤ 4 → zC X 28 [zR (zoc op P.length), zI 3, zI (zvlT tb T (i + 1)), zI (zvlT tb T (i + 2)), zI (zvlT tb T (i + 3))] h2 (fun v h9 => zAt X 114 95 0 0 [some (zR 75), none, none, none] (zpush v []) zSHc h9 (fun v sh' h' => sh' = zSHc ∧ K v h'))) := fun h2 f2 N2 ef => by
    have S2 := S1.nt N2
    have t2 := (zTb.nt N2).tk t1
    have g9 := S2.1.2.2.2
    refine ⟨fun c => ?_, fun c1 c2 => ?_⟩
    · rw [show zTkP h2 ((h2 75 9) + 3) = (zpcT tb T (i + 3) : Int) from t2.pp (by omega) (by omega)]
      refine cx_109 (ft := f2) N2.1 S2.2.2.2.1 S2.2.2.2.2 fun h3 N3 => ?_
      have S3 := S2.nt N3
      refine sg_114_84c (zoc_ok h8) S3.1.2.1 ?_
      refine last h3 _ (N2.tr N3) ?_
      rw [em, if_pos c, ef]
    · refine last h2 f2 N2 ?_
      rw [em, if_neg (by omega), ef]
  have ap : ∀ z1 : zvlT tb T (i + 2) ≤ zvlT tb T (i + 3), _ := fun z1 => ways h1 _ (zNt.rf N.1 N.2.2.2.1 N.2.2.2.2) (by rw [if_neg (by omega)])
  refine sg_114_32c N.1 (zoc_ok h8) (fun _ _ => e6) (fun _ _ => by omega) (fun z1 z2 => (ap z1).1 (by omega)) (fun _ _ _ => e7) (fun z1 z2 z3 => (ap z1).2 z2 z3) (fun _ _ _ => e6) (fun _ _ _ => by omega) (fun z1 z2 z3 => (ap z1).1 (by omega)) (fun _ => e6) (fun _ => by omega) (fun z1 => ?_)
  rw [p2]
  refine cx_109 N.1 N.2.2.2.1 N.2.2.2.2 fun h2 N2 => ?_
  have S2 := S1.nt N2
  have g9 := S2.1.2.2.2
  obtain ⟨w1, w2⟩ := ways h2 _ N2 (by rw [if_pos z1])
  exact sg_114_56c N2.1 (zoc_ok h8) (fun _ => S2.1.1) (fun _ => by omega) (fun z => w1 (by omega)) (fun _ _ => S2.1.2.1) (fun a b => w2 a b) (fun _ _ => S2.1.1) (fun _ _ => by omega) (fun _ z => w1 (by omega))
/-- closedPart -/
theorem cx_116 {nm : Int} {N : Nat} (F : zFin h) (hN : N ≤ 8) (e10 : h 75 10 = (N : Int)) (hP : P.length = N) (nms : ∀ p, p < P.length → h 104 p = (P.getD p (0, [])).1) (k0 : zhasP P nm = false → K (some (zI (-1))) h) (k1 : ∀ p : Nat, p < P.length → zhasP P nm = true → zlk1 P nm = some (P.getD p (0, [])).2 → K (some (zI (p : Int))) h) : zC X 116 [zR 75, zL nm] h K := by
  have loop : ∀ (r : List (Int × List zTe)) (p : Nat) (x3 : Int), x3 = (p : Int) → P.drop p = r → p ≤ P.length → zhasP P nm = zhasP r nm → zlk1 P nm = zlk1 r nm → zAt X 116 2 0 0 [some (zR 75), some (zL nm), none, some (zI x3)] [] zSHc h (fun v sh' h' => sh' = zSHc ∧ K v h') := by
    intro r
    induction r with
    | nil =>
      intro p x3 e3 ed hp eh el
      have : P.length ≤ p := List.drop_eq_nil_iff.mp ed
      exact sg_116_2 F (fun _ => ⟨rfl, k0 eh⟩) (fun z => by omega) (fun z => by omega) (fun z => by omega) (fun z => by omega) (fun z => by omega)
    | cons a r ih =>
      intro p x3 e3 ed hp eh el
      have lt : p < P.length := by
        by_cases c : p < P.length
        · exact c
        · rw [List.drop_eq_nil_of_le (by omega)] at ed
          cases ed
      rw [List.drop_eq_getElem_cons lt] at ed
      injection ed with ea er
      have eg : P.getD p (0, []) = a := by rw [List.getD_eq_getElem?_getD, List.getElem?_eq_getElem lt]; exact ea
      have e104 : h 104 x3.toNat = a.1 := by rw [show x3.toNat = p by omega, nms p lt, eg]
      have eh2 : zhasP (a :: r) nm = (decide (a.1 = nm) || zhasP r nm) := rfl
      have el2 : zlk1 (a :: r) nm = if a.1 = nm then some a.2 else zlk1 r nm := rfl
      by_cases c : a.1 = nm
      · have kk := k1 p lt (by rw [eh, eh2, decide_eq_true c]; rfl) (by rw [el, el2, if_pos c, eg])
        rw [← e3] at kk
        exact sg_116_2 F (fun z => by omega) (fun _ z => by omega) (fun _ _ => by omega) (fun _ _ _ => by omega) (fun _ _ z => absurd (e104.trans c) z) (fun _ _ _ => ⟨rfl, kk⟩)
      · refine sg_116_2 F (fun z => by omega) (fun _ z => by omega) (fun _ _ => by omega) (fun _ _ _ => by omega) (fun _ _ _ => ih (p + 1) (x3 + 1) (by omega) er (by omega) ?_ ?_) (fun _ _ z => absurd (e104.symm.trans z) c)
        · rw [eh, eh2, decide_eq_false c, Bool.false_or]
        · rw [el, el2, if_neg c]
  exact sg_116_0 (loop P 0 0 rfl rfl (Nat.zero_le _) rfl rfl)
end
