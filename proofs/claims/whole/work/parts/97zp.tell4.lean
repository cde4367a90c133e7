/-! TEXTS, THE CLASS: TIMES, PARTS, THEIR ENDS -/
theorem zgE {a c L : Nat} (h : c < L) : c < min a L ↔ c < a := by omega
theorem zlg_iff {x y : Int} {l : List zTe} (hx : x = ((min l.length 100000 : Nat) : Int)) (hy : y = ((min (zc3L l) 100000 : Nat) : Int)) : (200 < x ∨ 20 < y) ↔ zlgL l := by
  have a := zgE (a := l.length) (c := 200) (L := 100000) (by decide)
  have b := zgE (a := zc3L l) (c := 20) (L := 100000) (by decide)
  generalize min l.length 100000 = u at *
  generalize min (zc3L l) 100000 = v at *
  show _ ↔ 200 < l.length ∨ 20 < zc3L l
  rw [← a, ← b]
  omega
theorem zSK.lt {h h' : zHP} {I : List zTe} : ∀ {st : List (Int × Nat)}, (∀ q, q < st.length → h' 105 q = h 105 q ∧ h' 106 q = h 106 q ∧ h' 107 q = h 107 q) → zSK h I st → zSK h' I st
  | [], _, _ => trivial
  | _ :: r, e, s => by
    obtain ⟨e1, e2, e3⟩ := e r.length (by rw [List.length_cons]; omega)
    exact ⟨by rw [e1, e2, e3]; exact s.1, zSK.lt (fun q hq => e q (by rw [List.length_cons]; omega)) s.2⟩
theorem zSK.pre {h : zHP} {I J : List zTe} : ∀ {st : List (Int × Nat)} {m : Nat}, zsvd m st → (∀ q, q ≤ m → J.take q = I.take q) → zSK h I st → zSK h J st
  | [], _, _, _, _ => trivial
  | e :: r, _, sv, hm, s => by
    obtain ⟨s1, _, _, s4⟩ := sv
    exact ⟨by rw [hm e.2 s1]; exact s.1, zSK.pre s4 (fun q hq => hm q (by omega)) s.2⟩
theorem zrpt_take {m t q : Nat} {l : List zTe} (hm : m ≤ l.length) (hq : q ≤ m) : (zrptL m t l).take q = l.take q := by
  unfold zrptL
  rw [List.take_append_of_le_length (by rw [List.length_take]; omega), List.take_take, Nat.min_eq_left hq]
section
variable {X : List Int} {h : zHP} {K : Option zAV → zHP → Prop} {tb : Nat → Nat} {T L n : Nat} {tp : Int} {i : Nat} {ft : Int × Int} {P : List (Int × List zTe)} {op : Option Nat} {B : List zTe} {st : List (Int × Nat)} {I : List zTe} {m d : Nat}
/-- openTimes -/
theorem cx_117 (F : zFin h) (t : zTKc h tb T L) (S : zSa h n tp i ft P.length op st.length) (R : zRe h (zvlT tb T) n P op B st I) (h8 : P.length + zo1 op ≤ 8) (hd : st.length < 4) (hi : i + 1 < L) (hk : zkdT tb T (i + 1) = 105) (k : ∀ h', zTb h h' → zSa h' n tp (i + 3) (if 20 < zvlT tb T (i + 1) then zno ft 5 (zpcT tb T (i + 1) : Int) else ft) P.length op (st.length + 1) → zRe h' (zvlT tb T) n P op B ((zvlT tb T (i + 1), I.length) :: st) I → K none h') : zC X 117 [zR 75] h K := by
  have tl := t.2.1
  have e9 := S.1.2.2.2
  have hoc := zoc_ok h8
  refine sg_117_0 S.1.1 (by omega) (cx_129 (j := i + 1) F t hi (by omega) hk ?_)
  have pp : zTkP h (h 75 9 + 1) = (zpcT tb T (i + 1) : Int) := t.pp hi (by omega)
  have last : ∀ (h1 : zHP) (f1 : Int × Int), zNt h h1 f1 → f1 = (if 20 < zvlT tb T (i + 1) then zno ft 5 (zpcT tb T (i + 1) : Int) else ft) → (fun v sh' h' => sh' = zSHc ∧ K v h') none zSHc (zup (zup (zup (zup (zup h1 105 ((h1 75 12).toNat) (h1 (zoc op P.length) 3)) 106 ((h1 75 12).toNat) ((zup h1 105 ((h1 75 12).toNat) (h1 (zoc op P.length) 3)) (zoc op P.length) 4)) 107 ((h1 75 12).toNat) (zvlT tb T (i + 1))) 75 12 ((h1 75 12) + 1)) 75 9 ((h1 75 9) + 3)) := fun h1 f1 N ef => by
    have S1 := S.nt N
    have R1 := R.nt N
    have g9 := S1.1.2.2.2
    have g12 := S1.2.1.2.2
    have o1 : zoc op P.length ≠ 105 := by
      have := hoc
      unfold zLad at this
      omega
    rw [zup_c o1, show (h1 75 12).toNat = st.length by omega]
    obtain ⟨r1, r2, r3, r4, r5, r6, r7⟩ := R1
    obtain ⟨⟨a1, a2, a3, a4⟩, ⟨b1, b2, b3⟩, c1, c2, c3⟩ := S1
    rw [ef] at c2 c3
    have oc2 : zoc op P.length + 1 < 104 := by
      have := hoc
      unfold zLad at this
      omega
    refine ⟨rfl, k _ ((zTb.nt N).tr ⟨(((((N.1.upA zfa_105).upA zfa_106).upA zfa_107).up (by decide)).up (by decide)), (((((zfr.rfl.up (by decide)).up (by decide)).up (by decide)).up (by decide)).up (by decide))⟩) ?_ ?_⟩
    · refine ⟨⟨?_, ?_, ?_, ?_⟩, ⟨?_, ?_, ?_⟩, ?_, ?_, ?_⟩
      · rw [zup_k (by decide), zup_k (by decide), zup_c (by decide), zup_c (by decide), zup_c (by decide)]; exact a1
      · rw [zup_k (by decide), zup_k (by decide), zup_c (by decide), zup_c (by decide), zup_c (by decide)]; exact a2
      · rw [zup_k (by decide), zup_k (by decide), zup_c (by decide), zup_c (by decide), zup_c (by decide)]; exact a3
      · rw [zup_eq]; omega
      · rw [zup_k (by decide), zup_k (by decide), zup_c (by decide), zup_c (by decide), zup_c (by decide)]; exact b1
      · rw [zup_k (by decide), zup_k (by decide), zup_c (by decide), zup_c (by decide), zup_c (by decide)]; exact b2
      · rw [zup_k (by decide), zup_eq]; omega
      · rw [zup_k (by decide), zup_k (by decide), zup_c (by decide), zup_c (by decide), zup_c (by decide)]; exact c1
      · rw [zup_k (by decide), zup_k (by decide), zup_c (by decide), zup_c (by decide), zup_c (by decide)]; exact c2
      · rw [zup_k (by decide), zup_k (by decide), zup_c (by decide), zup_c (by decide), zup_c (by decide)]; exact c3
    · have f : ∀ c, c ≠ 75 → c ≠ 105 → c ≠ 106 → c ≠ 107 → zup (zup (zup (zup (zup h1 105 st.length (h1 (zoc op P.length) 3)) 106 st.length (h1 (zoc op P.length) 4)) 107 st.length (zvlT tb T (i + 1))) 75 12 ((h1 75 12) + 1)) 75 9 ((h1 75 9) + 3) c = h1 c := fun c z1 z2 z3 z4 => by funext q; rw [zup_c z1, zup_c z1, zup_c z4, zup_c z3, zup_c z2]
      refine ⟨by rw [f 79 (by decide) (by decide) (by decide) (by decide)]; exact r1, by rw [f 104 (by decide) (by decide) (by decide) (by decide)]; exact r2, by rw [f 104 (by decide) (by decide) (by decide) (by decide)]; exact r3, ⟨⟨?_, ?_, ?_⟩, r4.lt fun q hq => ⟨?_, ?_, ?_⟩⟩, r5.fr (f _ zoc75.1 (by omega) (by omega) (by omega)) (f _ zoc75.2 (by omega) (by omega) (by omega)), fun o => (r6 o).fr (f _ (by decide) (by decide) (by decide) (by decide)) (f _ (by decide) (by decide) (by decide) (by decide)), fun p hp => (r7 p hp).fr (f _ (by omega) (by omega) (by omega) (by omega)) (f _ (by omega) (by omega) (by omega) (by omega))⟩
      · rw [zup_c (by decide), zup_c (by decide), zup_c (by decide), zup_c (by decide), zup_eq]
        exact r5.1.2.1
      · rw [zup_c (by decide), zup_c (by decide), zup_c (by decide), zup_eq]
        show _ = ((min (zc3L (I.take I.length)) 100000 : Nat) : Int)
        rw [List.take_length]
        exact r5.1.2.2.1
      · rw [zup_c (by decide), zup_c (by decide), zup_eq]
      · rw [zup_c (by decide), zup_c (by decide), zup_c (by decide), zup_c (by decide), zup_k (by omega)]
      · rw [zup_c (by decide), zup_c (by decide), zup_c (by decide), zup_k (by omega), zup_c (by decide)]
      · rw [zup_c (by decide), zup_c (by decide), zup_k (by omega), zup_c (by decide), zup_c (by decide)]
  have e12 := S.2.1.2.2
  by_cases c : 20 < zvlT tb T (i + 1)
  · refine sg_117_13c F hoc hoc (fun z => by omega) (fun z => by omega) (fun z => by omega) (fun z => by omega) (fun z => by omega) (fun z => by omega) (fun z => by omega) (fun z => by omega) (fun z => by omega) (fun z => by omega) (fun _ => S.1.1) (fun _ => by omega) (fun _ => ?_)
    rw [pp]
    refine cx_109 F S.2.2.2.1 S.2.2.2.2 fun h1 N => ?_
    have S1 := S.nt N
    have g9 := S1.1.2.2.2
    have g12 := S1.2.1.2.2
    exact sg_117_38c N.1 hoc hoc (fun z => by omega) (fun z => by omega) (fun _ z => by omega) (fun _ z => by omega) (fun _ _ => S1.1.2.1) (fun _ _ => by omega) (fun _ _ => S1.1.2.1) (fun _ _ => by omega) (fun _ _ => by omega) (fun _ _ => last h1 _ N (by rw [if_pos c]))
  · exact sg_117_13c F hoc hoc (fun _ z => by omega) (fun _ z => by omega) (fun _ _ z => by omega) (fun _ _ z => by omega) (fun _ _ _ => S.1.2.1) (fun _ _ _ => by omega) (fun _ _ _ => S.1.2.1) (fun _ _ _ => by omega) (fun _ _ _ => by omega) (fun _ _ _ => last h _ (zNt.rf F S.2.2.2.1 S.2.2.2.2) (by rw [if_neg c])) (fun z => absurd z c) (fun z => absurd z c) (fun z => absurd z c)
/-- openPart -/
theorem cx_118 (F : zFin h) (t : zTKc h tb T L) (S : zSa h n tp i ft P.length none 0) (R : zRe h (zvlT tb T) n P none B [] I) (h8 : P.length < 8) (hi : i + 1 < L) (k : ∀ h', zTb h h' → zSa h' n (zpcT tb T (i + 1) : Int) (i + 3) (if zhasP P (zvlT tb T (i + 1)) = true then zno ft 3 (zpcT tb T (i + 1) : Int) else ft) P.length (some (i + 1)) 0 → zRe h' (zvlT tb T) n P (some (i + 1)) I [] [] → K none h') : zC X 118 [zR 75] h K := by
  have tl := t.2.1
  have e9 := S.1.2.2.2
  have pp : zTkP h (h 75 9 + 1) = (zpcT tb T (i + 1) : Int) := t.pp hi (by omega)
  have vv : zTkV h (h 75 9 + 1) = zvlT tb T (i + 1) := t.vv hi (by omega)
  refine sg_118_0 F S.1.1 (by omega) ?_
  rw [pp, vv]
  have F1 : zFin (zup h 75 13 (zpcT tb T (i + 1) : Int)) := F.up (by decide)
  have S1 : zSa (zup h 75 13 (zpcT tb T (i + 1) : Int)) n (zpcT tb T (i + 1) : Int) i ft P.length none 0 := by
    obtain ⟨⟨a1, a2, a3, a4⟩, ⟨b1, b2, b3⟩, c1, c2, c3⟩ := S
    refine ⟨⟨?_, ?_, ?_, ?_⟩, ⟨?_, ?_, ?_⟩, zup_eq, ?_, ?_⟩
    all_goals rw [zup_k (by decide)]; assumption
  have R1 : zRe (zup h 75 13 (zpcT tb T (i + 1) : Int)) (zvlT tb T) n P none B [] I := R.up
  have b1 : zTb h (zup h 75 13 (zpcT tb T (i + 1) : Int)) := ⟨F1, zfr.rfl.up (by decide)⟩
  have hpp : zLad (80 + 3 * P.length) := by unfold zLad; omega
  have last : ∀ (h1 : zHP) (f1 : Int × Int), zTb h h1 → zSa h1 n (zpcT tb T (i + 1) : Int) i f1 P.length none 0 → zRe h1 (zvlT tb T) n P none B [] I → f1 = (if zhasP P (zvlT tb T (i + 1)) = true then zno ft 3 (zpcT tb T (i + 1) : Int) else ft) → zC X 15 [zR (80 + 3 * P.length), zI (h1 75 8), zI 0] (zup (zup h1 104 ((h1 75 11).toNat) (zvlT tb T (i + 1))) 75 7 ((80 + 3 * P.length : Nat) : Int)) (fun v h9 => zAt X 118 114 0 0 [some (zR 75), none, none] (zpush v []) zSHc h9 (fun v sh' h' => sh' = zSHc ∧ K v h')) := fun h1 f1 b S1 R1 ef => by
    rw [ef] at S1
    obtain ⟨⟨a1, a2, a3, a4⟩, ⟨b1, b2, b3⟩, c1, c2, c3⟩ := S1
    obtain ⟨r1, r2, r3, r4, r5, r6, r7⟩ := R1
    have b2 : h1 75 11 = (P.length : Int) := b2
    rw [a3, show (h1 75 11).toNat = P.length by omega]
    refine cx_15 ((b.1.upA zfa_104).up (by decide)) hpp fun h2 F2 fr2 L2 => ?_
    have f : ∀ c, c ≠ 75 → c ≠ 104 → c ≠ 80 + 3 * P.length → h2 c = h1 c := fun c z1 z2 z3 => by
      rw [fr2 c (by simp; exact z3)]
      funext q
      rw [zup_c z1, zup_c z2]
    have g75 : ∀ c, c ≠ 7 → h2 75 c = h1 75 c := fun c hc => by
      rw [fr2 75 (by simp; omega), zup_k hc, zup_c (by decide)]
    have g7 : h2 75 7 = ((80 + 3 * P.length : Nat) : Int) := by rw [fr2 75 (by simp; omega), zup_eq]
    have g104 : ∀ q, q ≠ P.length → h2 104 q = h1 104 q := fun q hq => by
      rw [fr2 104 (by simp; omega), zup_c (by decide), zup_k hq]
    have g104e : h2 104 P.length = zvlT tb T (i + 1) := by rw [fr2 104 (by simp; omega), zup_c (by decide), zup_eq]
    have g9 := g75 9 (by decide)
    have g11 := g75 11 (by decide)
    have bb : zTb h1 h2 := ⟨F2, ((zfr.rfl.up (a := 104) (by decide)).up (by decide)).trans (fr2.mono fun c hc => by
      rw [List.mem_singleton] at hc
      rw [hc]
      have hm : P.length = 0 ∨ P.length = 1 ∨ P.length = 2 ∨ P.length = 3 ∨ P.length = 4 ∨ P.length = 5 ∨ P.length = 6 ∨ P.length = 7 := by omega
      rcases hm with y | y | y | y | y | y | y | y <;> rw [y] <;> decide)⟩
    have e75 : ∀ c j, c ≠ 75 → zup (zup h2 75 11 ((h2 75 11) + 1)) 75 9 ((h2 75 9) + 3) c j = h2 c j := fun c j hc => by rw [zup_c hc, zup_c hc]
    have e75f : ∀ c, c ≠ 75 → zup (zup h2 75 11 ((h2 75 11) + 1)) 75 9 ((h2 75 9) + 3) c = h2 c := fun c hc => by funext j; exact e75 c j hc
    refine sg_118_114c (by omega) (by omega) ⟨rfl, k _ ((b.tr bb).tr ⟨(F2.up (by decide)).up (by decide), (zfr.rfl.up (by decide)).up (by decide)⟩) ?_ ?_⟩
    · refine ⟨⟨?_, ?_, ?_, ?_⟩, ⟨?_, ?_, ?_⟩, ?_, ?_, ?_⟩
      · rw [zup_k (by decide), zup_k (by decide), g75 6 (by decide)]; exact a1
      · rw [zup_k (by decide), zup_k (by decide), g7]; rfl
      · rw [zup_k (by decide), zup_k (by decide), g75 8 (by decide)]; exact a3
      · rw [zup_eq]; omega
      · rw [zup_k (by decide), zup_k (by decide), g75 10 (by decide)]; exact b1
      · rw [zup_k (by decide), zup_eq]; show _ = ((P.length + 1 : Nat) : Int); omega
      · rw [zup_k (by decide), zup_k (by decide), g75 12 (by decide)]; exact b3
      · rw [zup_k (by decide), zup_k (by decide), g75 13 (by decide)]; exact c1
      · rw [zup_k (by decide), zup_k (by decide), g75 14 (by decide)]; exact c2
      · rw [zup_k (by decide), zup_k (by decide), g75 15 (by decide)]; exact c3
    · refine ⟨fun p hp => ?_, fun p hp => ?_, fun j ej => ?_, trivial, ?_, fun _ => ?_, fun p hp => ?_⟩
      · rw [e75 79 _ (by decide), f 79 (by decide) (by decide) (by omega)]; exact r1 p hp
      · rw [e75 104 _ (by decide), g104 p (by omega)]; exact r2 p hp
      · injection ej with ej
        rw [e75 104 _ (by decide), g104e, ← ej]
      · exact L2.fr (e75f _ (by show 80 + 3 * P.length ≠ 75; omega)) (e75f _ (by show 80 + 3 * P.length + 1 ≠ 75; omega))
      · exact zLE.fr (h := h1) (by exact r5) ((e75f _ (by decide)).trans (f _ (by decide) (by decide) (by omega))) ((e75f _ (by decide)).trans (f _ (by decide) (by decide) (by omega)))
      · exact (r7 p hp).fr ((e75f _ (by omega)).trans (f _ (by omega) (by omega) (by omega))) ((e75f _ (by omega)).trans (f _ (by omega) (by omega) (by omega)))
  have z11 : ∀ (h1 : zHP) (f1 : Int × Int), zSa h1 n (zpcT tb T (i + 1) : Int) i f1 P.length none 0 → h1 75 11 = (P.length : Int) := fun h1 f1 S1 => S1.2.1.2.1
  have y11 := z11 _ _ S1
  have y9 := S1.1.2.2.2
  have e79 : ∀ h1, zRe h1 (zvlT tb T) n P none B [] I → h1 75 11 = (P.length : Int) → (zup h1 104 ((h1 75 11).toNat) (zvlT tb T (i + 1))) 79 (h1 75 11).toNat = ((80 + 3 * P.length : Nat) : Int) := fun h1 R1 e => by
    rw [zup_c (by decide), show (h1 75 11).toNat = P.length by omega]
    exact R1.1 _ h8
  refine cx_116 (N := P.length) F1 (by omega) S1.2.1.1 rfl R1.2.1 (fun no => ?_) (fun p hp yes _ => ?_)
  · exact sg_118_36c F1 hpp (fun _ z => by omega) (fun _ z => by omega) (fun _ _ z => by omega) (fun _ _ z => by omega) (fun _ _ _ => by omega) (fun _ _ _ => e79 _ R1 y11) (fun _ _ _ => zup_eq) (fun _ _ _ => last _ _ b1 S1 R1 (by rw [no]; rfl)) (fun z => absurd z (by decide))
  · refine sg_118_36c F1 hpp (fun z => by omega) (fun z => by omega) (fun z => by omega) (fun z => by omega) (fun z => by omega) (r1 := 80 + 3 * P.length) (fun z => by omega) (fun z => by omega) (fun z => by omega) (fun _ => ?_)
    rw [S1.2.2.1]
    refine cx_109 F1 S1.2.2.2.1 S1.2.2.2.2 fun h2 N => ?_
    have S2 := S1.nt N
    have R2 := R1.nt N
    have w11 := z11 _ _ S2
    have w9 := S2.1.2.2.2
    exact sg_118_48c N.1 hpp (fun z => by omega) (fun z => by omega) (fun _ z => by omega) (fun _ z => by omega) (fun _ _ => by omega) (fun _ _ => e79 _ R2 w11) (fun _ _ => zup_eq) (fun _ _ => last _ _ (b1.tr (zTb.nt N)) S2 R2 (by rw [yes]; rfl))
end
