/-! TEXTS, THE REFERENCE: PARTS BEGIN AND END, TIMES END -/
theorem zhas_p {P : List (Int × List zTe)} {nm : Int} : zhasP P nm = true ↔ ∃ p, p < P.length ∧ (P.getD p (0, [])).1 = nm := by
  unfold zhasP
  rw [List.any_eq_true]
  constructor
  · rintro ⟨x, hx, ex⟩
    obtain ⟨q, hq, eq⟩ := List.getElem_of_mem hx
    refine ⟨q, hq, ?_⟩
    rw [List.getD_eq_getElem?_getD, List.getElem?_eq_getElem hq]
    show P[q].1 = nm
    rw [eq]
    exact of_decide_eq_true ex
  · rintro ⟨p, hp, ep⟩
    refine ⟨P[p], List.getElem_mem hp, decide_eq_true ?_⟩
    rw [List.getD_eq_getElem?_getD, List.getElem?_eq_getElem hp] at ep
    exact ep
section
variable {X : List Int} {h : zHP} {K : Option zAV → zHP → Prop} {tb : Nat → Nat} {T L n : Nat} {i : Nat} {ft : Int × Int} {P : List (Int × List zTe)} {op : Option Nat} {B : List zTe} {st : List (Int × Nat)} {I : List zTe} {m d : Nat}
/-- tellPart -/
theorem cm_235 (F : zFin h) (t : zTKm h tb T L) (S : zMSa h n i ft P.length none 0) (R : zMRe h tb T n P none B [] I) (h8 : P.length < 8) (hi : i + 1 ≤ L) (hk : zkdT tb T (i + 1) = 110) (k : ∀ h', zMb h h' → zMSa h' n (i + 3) (if zhasP P (zvlT tb T (i + 1)) = true then zno ft 3 (zpcT tb T (i + 1) : Int) else ft) P.length (some (i + 1)) 0 → zMRe h' tb T n P (some (i + 1)) I [] [] → K none h') : zC X 235 [zR 108] h K := by
  have tl := t.1
  have fin : ∀ (h1 : zHP) (f1 : Int × Int), zMN h h1 f1 → f1 = (if zhasP P (zvlT tb T (i + 1)) = true then zno ft 3 (zpcT tb T (i + 1) : Int) else ft) → (fun v sh' h' => sh' = zSHc ∧ K v h') none zSHc (zup (zup (zup (zup (zup (zup (zup (zup (zup h1 124 ((h1 108 22).toNat) (h1 123 (((h1 108 19) + 1).toNat))) 125 ((h1 108 22).toNat) 0) 126 ((h1 108 22).toNat) ((h1 108 19) + 1)) 108 34 (h1 108 22)) 127 ((h1 108 22).toNat) 0) 108 22 ((h1 108 22) + 1)) 132 ((h1 108 31).toNat) (-1)) 108 31 ((h1 108 31) + 1)) 108 19 ((h1 108 19) + 3)) := fun h1 f1 N ef => by
    have S1 := S.nt N
    have R1 := R.nt N
    have t1 := t.mb N.mb
    obtain ⟨⟨a1, a2, a3⟩, b1, b2, b3, b4⟩ := S1
    obtain ⟨r1, r2, r3, r4, r5, r6, r7, r8, r9⟩ := R1
    have b1 : h1 108 22 = (P.length : Int) := b1
    have b2 : h1 108 31 = 0 := b2
    rw [ef] at a2 a3
    rw [t1.nm hi (show h1 108 19 + 1 = ((i + 1 : Nat) : Int) by omega) hk, show (h1 108 22).toNat = P.length by omega, show (h1 108 31).toNat = 0 by omega]
    have b0 : zMb h1 (zup (zup (zup h1 124 P.length (znmT tb T (i + 1))) 125 P.length 0) 126 P.length ((h1 108 19) + 1)) := zMb.of (((N.1.upA zfa_124).upA zfa_125).upA zfa_126) (((zfr.rfl.up (W := [124, 125, 126]) (by simp)).up (by simp)).up (by simp)) (by simp [zWm]) (by decide)
    have b5 := (b0.up (c := 34) (x := h1 108 22) (by decide))
    have b6 : zMb h1 (zup (zup (zup (zup (zup h1 124 P.length (znmT tb T (i + 1))) 125 P.length 0) 126 P.length ((h1 108 19) + 1)) 108 34 (h1 108 22)) 127 P.length 0) := b5.tr (zMb.of (b5.1.upA zfa_127) (zfr.rfl.up (W := [127]) (by simp)) (by simp [zWm]) (by decide))
    have b7 := (b6.up (c := 22) (x := (h1 108 22) + 1) (by decide))
    have b8 : zMb h1 (zup (zup (zup (zup (zup (zup (zup h1 124 P.length (znmT tb T (i + 1))) 125 P.length 0) 126 P.length ((h1 108 19) + 1)) 108 34 (h1 108 22)) 127 P.length 0) 108 22 ((h1 108 22) + 1)) 132 0 (-1)) := b7.tr (zMb.of (b7.1.upA zfa_132) (zfr.rfl.up (W := [132]) (by simp)) (by simp [zWm]) (by decide))
    refine ⟨rfl, k _ (N.mb.tr ((b8.up (c := 31) (x := (h1 108 31) + 1) (by decide)).up (by decide))) ?_ ?_⟩
    · refine ⟨⟨by rw [zup_eq]; omega, ?_, ?_⟩, ?_, ?_, ?_, ?_⟩
      · rw [zup_k (by decide), zup_k (by decide), zup_c (by decide), zup_k (by decide), zup_c (by decide), zup_k (by decide), zup_c (by decide), zup_c (by decide), zup_c (by decide)]; exact a2
      · rw [zup_k (by decide), zup_k (by decide), zup_c (by decide), zup_k (by decide), zup_c (by decide), zup_k (by decide), zup_c (by decide), zup_c (by decide), zup_c (by decide)]; exact a3
      · rw [zup_k (by decide), zup_k (by decide), zup_c (by decide), zup_eq]; show _ = ((P.length + 1 : Nat) : Int); omega
      · rw [zup_k (by decide), zup_eq]; show _ = ((0 + 1 : Nat) : Int); omega
      · rw [zup_k (by decide), zup_k (by decide), zup_c (by decide), zup_k (by decide), zup_c (by decide), zup_eq]; exact b1
      · rw [zup_k (by decide), zup_k (by decide), zup_c (by decide), zup_k (by decide), zup_c (by decide), zup_k (by decide), zup_c (by decide), zup_c (by decide), zup_c (by decide)]; exact b4
    · have e124 : ∀ q, zup (zup (zup (zup (zup (zup (zup (zup (zup h1 124 P.length (znmT tb T (i + 1))) 125 P.length 0) 126 P.length ((h1 108 19) + 1)) 108 34 (h1 108 22)) 127 P.length 0) 108 22 ((h1 108 22) + 1)) 132 0 (-1)) 108 31 ((h1 108 31) + 1)) 108 19 ((h1 108 19) + 3) 124 q = zup h1 124 P.length (znmT tb T (i + 1)) 124 q := fun q => by rw [zup_c (by decide), zup_c (by decide), zup_c (by decide), zup_c (by decide), zup_c (by decide), zup_c (by decide), zup_c (by decide), zup_c (by decide)]
      have e125 : ∀ q, zup (zup (zup (zup (zup (zup (zup (zup (zup h1 124 P.length (znmT tb T (i + 1))) 125 P.length 0) 126 P.length ((h1 108 19) + 1)) 108 34 (h1 108 22)) 127 P.length 0) 108 22 ((h1 108 22) + 1)) 132 0 (-1)) 108 31 ((h1 108 31) + 1)) 108 19 ((h1 108 19) + 3) 125 q = zup (zup h1 124 P.length (znmT tb T (i + 1))) 125 P.length 0 125 q := fun q => by rw [zup_c (by decide), zup_c (by decide), zup_c (by decide), zup_c (by decide), zup_c (by decide), zup_c (by decide), zup_c (by decide)]
      have e127 : ∀ q, zup (zup (zup (zup (zup (zup (zup (zup (zup h1 124 P.length (znmT tb T (i + 1))) 125 P.length 0) 126 P.length ((h1 108 19) + 1)) 108 34 (h1 108 22)) 127 P.length 0) 108 22 ((h1 108 22) + 1)) 132 0 (-1)) 108 31 ((h1 108 31) + 1)) 108 19 ((h1 108 19) + 3) 127 q = if q = P.length then 0 else h1 127 q := fun q => by
        rw [zup_c (by decide), zup_c (by decide), zup_c (by decide), zup_c (by decide)]
        by_cases z : q = P.length
        · rw [if_pos z, z, zup_eq]
        · rw [if_neg z, zup_k z, zup_c (by decide), zup_c (by decide), zup_c (by decide), zup_c (by decide)]
      have eoth : ∀ c q, c ≠ 108 → c ≠ 124 → c ≠ 125 → c ≠ 126 → c ≠ 127 → c ≠ 132 → zup (zup (zup (zup (zup (zup (zup (zup (zup h1 124 P.length (znmT tb T (i + 1))) 125 P.length 0) 126 P.length ((h1 108 19) + 1)) 108 34 (h1 108 22)) 127 P.length 0) 108 22 ((h1 108 22) + 1)) 132 0 (-1)) 108 31 ((h1 108 31) + 1)) 108 19 ((h1 108 19) + 3) c q = h1 c q := fun c q z1 z2 z3 z4 z5 z6 => by rw [zup_c z1, zup_c z1, zup_c z6, zup_c z1, zup_c z5, zup_c z1, zup_c z4, zup_c z3, zup_c z2]
      have me : ∀ t' l', t' ≠ P.length → zME h1 t' l' → zME (zup (zup (zup (zup (zup (zup (zup (zup (zup h1 124 P.length (znmT tb T (i + 1))) 125 P.length 0) 126 P.length ((h1 108 19) + 1)) 108 34 (h1 108 22)) 127 P.length 0) 108 22 ((h1 108 22) + 1)) 132 0 (-1)) 108 31 ((h1 108 31) + 1)) 108 19 ((h1 108 19) + 3)) t' l' := fun t' l' ne M => by
        unfold zME
        rw [e127, if_neg ne]
        refine ⟨M.1, fun q q1 q2 => ?_⟩
        rw [eoth 128 _ (by decide) (by decide) (by decide) (by decide) (by decide) (by decide), eoth 129 _ (by decide) (by decide) (by decide) (by decide) (by decide) (by decide), eoth 130 _ (by decide) (by decide) (by decide) (by decide) (by decide) (by decide), eoth 131 _ (by decide) (by decide) (by decide) (by decide) (by decide) (by decide)]
        exact M.2 q q1 q2
      refine ⟨fun p hp => ?_, fun j ej => ?_, trivial, ?_, fun _ => me 8 I (by omega) r4, fun p hp => me p _ (by omega) (r6 p hp), fun e he => (by cases he), fun _ => r7, r9⟩
      · rw [e124, e125, zup_k (by omega), zup_k (by omega), zup_c (by decide)]
        exact r1 p hp
      · injection ej with ej
        refine ⟨by rw [← ej]; exact hk, by rw [e124, zup_eq, ← ej], by rw [e125, zup_eq], ?_, ?_⟩
        · rw [zup_c (by decide), zup_c (by decide), zup_c (by decide), zup_c (by decide), zup_c (by decide), zup_c (by decide), zup_eq]; omega
        · rw [zup_c (by decide), zup_c (by decide), zup_eq]
      · refine ⟨?_, fun q hq => absurd hq (Nat.not_lt_zero _)⟩
        rw [e127]
        exact if_pos rfl
  have loop : ∀ (q p : Nat) (h1 : zHP) (f1 : Int × Int) (x1 : Int), P.length - p = q → p ≤ P.length → x1 = (p : Int) → zMN h h1 f1 → ((f1 = ft ∧ ∀ r, r < p → (P.getD r (0, [])).1 ≠ zvlT tb T (i + 1)) ∨ (f1 = zno ft 3 (zpcT tb T (i + 1) : Int) ∧ zhasP P (zvlT tb T (i + 1)) = true)) → zAt X 235 2 0 0 [some (zR 108), some (zI x1)] [] zSHc h1 (fun v sh' h' => sh' = zSHc ∧ K v h') := by
    intro q
    induction q with
    | zero =>
      intro p h1 f1 x1 hq hp e1 N C
      have S1 := S.nt N
      have a1 := S1.1.1
      have b1 : h1 108 22 = (P.length : Int) := S1.2.1
      have b2 : h1 108 31 = 0 := S1.2.2.1
      refine sg_235_2 N.1 (fun _ => by omega) (fun _ => by omega) (fun _ => by omega) (fun _ => by omega) (fun _ => by omega) (fun _ => by omega) (fun _ => by omega) (fun _ => by omega) (fun _ => fin h1 f1 N ?_) (fun z => by omega) (fun z => by omega) (fun z => by omega) (fun z => by omega) (fun z => by omega) (fun z => by omega)
      rcases C with ⟨c1, c2⟩ | ⟨c1, c2⟩
      · rw [c1, if_neg]
        intro z
        obtain ⟨r, r1, r2⟩ := zhas_p.mp z
        exact c2 r (by omega) r2
      · rw [c1, if_pos c2]
    | succ q ih =>
      intro p h1 f1 x1 hq hp e1 N C
      have S1 := S.nt N
      have R1 := R.nt N
      have t1 := t.mb N.mb
      have a1 := S1.1.1
      have b1 : h1 108 22 = (P.length : Int) := S1.2.1
      have b2 : h1 108 31 = 0 := S1.2.2.1
      obtain ⟨⟨qq, k1, k2, k3⟩, k4⟩ := R1.1 p (by omega)
      have e124 : h1 124 x1.toNat = znmT tb T qq := by rw [show x1.toNat = p by omega]; exact k3
      have e123 : h1 123 (((h1 108 19) + 1).toNat) = znmT tb T (i + 1) := t1.nm hi (by omega) hk
      have eqv : (h1 124 x1.toNat = h1 123 (((h1 108 19) + 1).toNat)) ↔ (P.getD p (0, [])).1 = zvlT tb T (i + 1) := by
        rw [e124, e123, k2]
        exact znm_eq k1 hk
      by_cases c : (P.getD p (0, [])).1 = zvlT tb T (i + 1)
      · have yes : zhasP P (zvlT tb T (i + 1)) = true := zhas_p.mpr ⟨p, by omega, c⟩
        refine sg_235_2 N.1 (fun z => by omega) (fun z => by omega) (fun z => by omega) (fun z => by omega) (fun z => by omega) (fun z => by omega) (fun z => by omega) (fun z => by omega) (fun z => by omega) (fun _ => by omega) (fun _ => by omega) (fun _ => by omega) (fun _ z => absurd (eqv.mpr c) z) (fun _ z => absurd (eqv.mpr c) z) (fun _ _ => ?_)
        refine cm_228 (j := i + 1) N.1 t1 S1.1.2.1 S1.1.2.2 hi (by omega) fun h2 N2 => sg_235_42c (by omega) ?_
        refine ih (p + 1) h2 _ (x1 + 1) (by omega) (by omega) (by omega) (N.tr N2) (Or.inr ⟨?_, yes⟩)
        rcases C with ⟨c1, _⟩ | ⟨c1, _⟩
        · rw [c1]
        · rw [c1, zno_id]
      · refine sg_235_2 N.1 (fun z => by omega) (fun z => by omega) (fun z => by omega) (fun z => by omega) (fun z => by omega) (fun z => by omega) (fun z => by omega) (fun z => by omega) (fun z => by omega) (fun _ => by omega) (fun _ => by omega) (fun _ => by omega) (fun _ _ => by omega) (fun _ _ => ?_) (fun _ z => absurd (eqv.mp z) c)
        refine ih (p + 1) h1 f1 (x1 + 1) (by omega) (by omega) (by omega) N ?_
        rcases C with ⟨c1, c2⟩ | c1
        · refine Or.inl ⟨c1, fun r hr => ?_⟩
          by_cases z : r = p
          · rw [z]; exact c
          · exact c2 r (by omega)
        · exact Or.inr c1
  exact sg_235_0 (loop _ 0 h ft 0 rfl (Nat.zero_le _) rfl (zMN.rf F S.1.2.1 S.1.2.2) (Or.inl ⟨rfl, fun r hr => absurd hr (Nat.not_lt_zero _)⟩))
end
