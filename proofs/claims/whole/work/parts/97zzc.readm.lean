/-! TEXTS, THE REFERENCE: A TEXT IS READ -/
abbrev zWq : List Nat := [108, 109, 110, 111, 112, 113, 114, 120, 121, 122, 123, 124, 125, 126, 127, 128, 129, 130, 131, 132, 133]
abbrev zWqc : List Nat := [0, 12, 14, 19, 20, 21, 22, 31, 34, 35]
section
variable {X : List Int} {h : zHP} {K : Option zAV → zHP → Prop} {tb : Nat → Nat} {T N : Nat} {A : Nat → Nat × Nat × zel}
def zRq (h h' : zHP) : Prop := zFin h' ∧ zfr zWq h h' ∧ ∀ c, c ∉ zWqc → h' 108 c = h 108 c
theorem zRq.tr {h1 h2 : zHP} (a : zRq h h1) (b : zRq h1 h2) : zRq h h2 := ⟨b.1, a.2.1.trans b.2.1, fun c hc => (b.2.2 c hc).trans (a.2.2 c hc)⟩
theorem zRq.up {h' : zHP} {c : Nat} {x : Int} (a : zRq h h') (hc : c ∈ zWqc) (F : zFin (zup h' 108 c x)) : zRq h (zup h' 108 c x) := ⟨F, a.2.1.up (by decide), fun q hq => by
  rw [zup_k (fun z => hq (by rw [z]; exact hc))]
  exact a.2.2 q hq⟩
/-- read -/
theorem cm_239 (F : zFin h) (M : zMS h N A) (t : zTM h T tb) (k2 : N = 6 → K (some (zI (-2))) h) (k1 : N < 6 → ∀ h', zRq h h' → zTM h' 0 tb → h' 108 21 = (zRdF tb T).2 → ((zRdF tb T).1 ≠ 0 → zMS h' N A) → ((zRdF tb T).1 = 0 → zMS h' (N + 1) (zpsh A N (zLgs tb T, (zRdI tb T).length, zeL (zRdI tb T)))) → K (some (zI (zRdF tb T).1)) h') : zC X 239 [zR 108] h K := by
  have m1 := M.1
  have m2 := M.2.1
  refine sg_239_0 (fun a => ?_) (fun a => ⟨rfl, k2 (by omega)⟩)
  have hN : N < 6 := by omega
  have k1 := k1 hN
  have F1 : zFin (zup (zup h 108 20 0) 108 21 (-1)) := (F.up (by decide)).up (by decide)
  have t1 : zTM (zup (zup h 108 20 0) 108 21 (-1)) T tb := t.k (by rw [zup_k (by decide), zup_k (by decide)]) (by funext q; rw [zup_c (by decide), zup_c (by decide)])
  have b1 : zRq h (zup (zup h 108 20 0) 108 21 (-1)) := by
    refine zRq.up (zRq.up ⟨F, zfr.rfl, fun _ _ => rfl⟩ (by decide) ?_) (by decide) F1
    exact F.up (by decide)
  have e20 : zup (zup h 108 20 0) 108 21 (-1) 108 20 = 0 := by rw [zup_k (by decide), zup_eq]
  have e21 : zup (zup h 108 20 0) 108 21 (-1) 108 21 = -1 := zup_eq
  have e0 : zup (zup h 108 20 0) 108 21 (-1) 108 0 = h 108 0 := by rw [zup_k (by decide), zup_k (by decide)]
  have er : ∀ c, c ≠ 108 → zup (zup h 108 20 0) 108 21 (-1) c = h c := fun c hc => by funext q; rw [zup_c hc, zup_c hc]
  generalize zup (zup h 108 20 0) 108 21 (-1) = h1 at *
  have M1 : zMS h1 N A := M.fr e0 fun c a b => er c (by omega)
  refine cm_218 F1 t1 fun h2 F2 fr2 c2 tl => ?_
  obtain ⟨L, tL⟩ := tl
  have b2 : zRq h h2 := b1.tr ⟨F2, fr2.mono (by simp), fun c hc => c2 c fun z => hc (by rw [z]; decide)⟩
  have M2 : zMS h2 N A := M1.fr (c2 0 (by decide)) fun c a b => fr2 c (by simp; omega)
  have t2 : zTM h2 T tb := t1.k (c2 12 (by decide)) (fr2 119 (by decide))
  have f20 : h2 108 20 = 0 := (c2 20 (by decide)).trans e20
  have f21 : h2 108 21 = -1 := (c2 21 (by decide)).trans e21
  /- the end of every road -/
  have fin : ∀ (h' : zHP), zRq h h' → zTM h' T tb → zRq h (zup h' 108 12 0) ∧ zTM (zup h' 108 12 0) 0 tb := fun h' b t' => ⟨b.up (by decide) (b.1.up (by decide)), by rw [zup_eq]; rfl, by omega, fun i hi => absurd hi (Nat.not_lt_zero _)⟩
  refine sg_239_26c (cm_227 F2 tL f20 f21 (fun h3 B => ?_) (fun h3 F3 fr3 c3 g20 g21 h0 => ?_))
  · obtain ⟨F3, fr3, c3, g20, g21, nz⟩ := B
    have eF : zRdF tb T = zS0T tb T := if_neg nz
    rw [eF] at k1
    have b3 : zRq h h3 := b2.tr ⟨F3, fr3.mono (by simp), fun c hc => c3 c (fun z => hc (by rw [z]; decide)) (fun z => hc (by rw [z]; decide)) (fun z => hc (by rw [z]; decide)) (fun z => hc (by rw [z]; decide)) (fun z => hc (by rw [z]; decide))⟩
    have M3 : zMS h3 N A := M2.fr (c3 0 (by decide) (by decide) (by decide) (by decide) (by decide)) fun c a b => fr3 c (by simp; omega)
    have t3 : zTM h3 T tb := t2.k (c3 12 (by decide) (by decide) (by decide) (by decide) (by decide)) (fr3 119 (by decide))
    obtain ⟨b4, t4⟩ := fin h3 b3 t3
    refine sg_239_30c (fun _ _ => ⟨rfl, ?_⟩) (fun _ z => absurd (g20.symm.trans z) nz) (fun z => absurd rfl z)
    rw [g20]
    exact k1 _ b4 t4 (by rw [zup_k (by decide)]; exact g21) (fun _ => M3.fr (zup_k (by decide)) fun c a b => by funext q; exact zup_c (by omega)) fun z => absurd z nz
  · have b3 : zRq h h3 := b2.tr ⟨F3, fr3.mono (by simp), fun c hc => c3 c (fun z => hc (by rw [z]; decide)) (fun z => hc (by rw [z]; decide)) (fun z => hc (by rw [z]; decide)) (fun z => hc (by rw [z]; decide)) (fun z => hc (by rw [z]; decide))⟩
    have M3 : zMS h3 N A := M2.fr (c3 0 (by decide) (by decide) (by decide) (by decide) (by decide)) fun c a b => fr3 c (by simp; omega)
    have t3 : zTM h3 T tb := t2.k (c3 12 (by decide) (by decide) (by decide) (by decide) (by decide)) (fr3 119 (by decide))
    have tL3 : zTKm h3 tb T L := ⟨tL.1, tL.2.1, tL.2.2.1, fun j hj => (tL.2.2.2 j hj).fr fun c hc => by rw [fr3 c (by simp; omega)]⟩
    have eF := zRd_F h0
    rw [eF] at k1
    obtain ⟨same1, same2⟩ := zRd_same h0
    refine sg_239_30c (fun z => absurd z (by decide)) (fun z => absurd z (by decide)) (fun _ => ?_)
    refine cm_238 F3 tL3 h0 g20 g21 fun h4 b4 C4 => ?_
    have q4 := b4.2.2
    have F4 := b4.1
    have bb4 : zRq h h4 := b3.tr ⟨F4, b4.2.1.mono (by simp [zWm]), fun c hc => q4 c (fun z => hc (by rw [z]; decide)) (fun z => hc (by rw [z]; decide)) (fun z => hc (by rw [z]; decide)) (fun z => hc (by rw [z]; decide)) (fun z => hc (by rw [z]; decide)) (fun z => hc (by rw [z]; decide)) (fun z => hc (by rw [z]; decide))⟩
    have M4 : zMS h4 N A := M3.fr (q4 0 (by decide) (by decide) (by decide) (by decide) (by decide) (by decide) (by decide)) fun c a b => b4.2.1 c (by simp [zWm]; omega)
    have t4 : zTM h4 T tb := t3.k (q4 12 (by decide) (by decide) (by decide) (by decide) (by decide) (by decide) (by decide)) (b4.2.1 119 (by decide))
    have ft : h4 108 20 = (zRun zlk1 tb T).2.1.1 ∧ h4 108 21 = (zRun zlk1 tb T).2.1.2 ∧ h4 108 35 = (zLgs tb T : Int) := by
      rw [same1]
      generalize zRun zlk2 tb T = σ at C4
      obtain ⟨i, ft, P, op, B, st, I, fs⟩ := σ
      exact ⟨C4.1.1.2.1, C4.1.1.2.2, C4.1.2.2.2.2⟩
    obtain ⟨u20, u21, u35⟩ := ft
    by_cases w : (zRun zlk1 tb T).2.1.1 = 0
    · obtain ⟨ok1, ok2, ok3, ok4, ok5⟩ := zRd_ok h0 w
      have hl := zeL_ok zLgs_ok ok3 ok4 fun e he => (ok5 e he).1
      have e12 := same2 w
      have ME : zME h4 8 (zRdI tb T) := by
        rw [← e12] at C4
        unfold zRdI
        generalize zRun zlk1 tb T = σ at C4 ok1
        obtain ⟨i, ft, P, op, B, st, I, fs⟩ := σ
        have ok1 : op = none := ok1
        have E := C4.2.2.2.2.1
        rw [show zot op P.length = 8 from if_pos ok1] at E
        exact E
      have k1 := fun h' a b c d => k1 h' a b c (fun z => absurd w z) (fun _ => d)
      refine sg_239_37c (fun z => absurd (u20.trans w) z) fun _ => ?_
      rw [u35]
      refine cm_241 F4 M4 hN zLgs_ok fun h5 F5 fr5 c5 M5 => sg_239_52c ?_
      have ME5 : zME h5 8 (zRdI tb T) := ME.fr fun c a b => fr5 c (by simp; omega)
      have t5 : zTM h5 T tb := t4.k (c5 12 (by decide)) (fr5 119 (by decide))
      have bb5 : zRq h h5 := bb4.tr ⟨F5, fr5.mono (by simp), fun c hc => c5 c fun z => hc (by rw [z]; decide)⟩
      have v20 : h5 108 20 = 0 := (c5 20 (by decide)).trans (u20.trans w)
      have v21 : h5 108 21 = (zRun zlk1 tb T).2.1.2 := (c5 21 (by decide)).trans u21
      generalize hI : zRdI tb T = I at *
      rw [w] at k1
      have loop : ∀ (p q : Nat) (h6 : zHP) (x1 : Int), I.length - q = p → q ≤ I.length → x1 = (q : Int) → zFin h6 → zfr [110, 111, 112, 113, 114] h5 h6 → zMS h6 (N + 1) (zpsh A N (zLgs tb T, q, zeL I)) → zAt X 239 54 0 0 [some (zR 108), some (zI x1), none] [] zSHc h6 (fun v sh' h' => sh' = zSHc ∧ K v h') := by
        intro p
        induction p with
        | zero =>
          intro q h6 x1 hp hq ex F6 fr6 M6
          have eq : q = I.length := by omega
          rw [eq] at M6
          have ME6 : zME h6 8 I := ME5.fr fun c a b => fr6 c (by simp; omega)
          have l6 := ME6.1
          have bb6 : zRq h h6 := bb5.tr ⟨F6, fr6.mono (by simp), fun c hc => by rw [fr6 108 (by decide)]⟩
          obtain ⟨b7, t7⟩ := fin h6 bb6 (t5.k (by rw [fr6 108 (by decide)]) (fr6 119 (by decide)))
          have kk := k1 _ b7 t7 (by rw [zup_k (by decide), fr6 108 (by decide)]; exact v21) (M6.fr (zup_k (by decide)) fun c a b => by funext q; exact zup_c (by omega))
          have w20 : h6 108 20 = 0 := by rw [fr6 108 (by decide)]; exact v20
          refine sg_239_54 F6 (fun _ => ⟨rfl, ?_⟩) (fun z => by omega) (fun z => by omega) (fun z => by omega)
          rw [w20]
          exact kk
        | succ p ih =>
          intro q h6 x1 hp hq ex F6 fr6 M6
          have ME6 : zME h6 8 I := ME5.fr fun c a b => fr6 c (by simp; omega)
          have l6 := ME6.1
          have src := ME6.2 q (by omega) (by omega)
          have en : (1608 + x1).toNat = 201 * 8 + q := by omega
          refine sg_239_54 F6 (fun z => by omega) (fun z => by omega) (fun z => by omega) (fun _ => ?_)
          rw [en]
          obtain ⟨⟨v1, v2, v3, v4⟩, _⟩ := ok5 _ (zget_in (l := I) (q := q) (by omega))
          refine cm_242 F6 M6 (zlok_le hl (by omega)) src.1 ?_ (fun k3 => ?_) fun h7 F7 fr7 M7 => sg_239_99c (by omega) (ih (q + 1) h7 (x1 + 1) (by omega) (by omega) (by omega) F7 (fr6.trans fr7) M7)
          · rw [src.2.1]
            show (I.getD q ze0).2.1 = (((I.getD q ze0).2.1.toNat : Nat) : Int)
            omega
          · have k3 : (I.getD q ze0).1 = 3 := k3
            obtain ⟨d1, d2, d3, d4⟩ := v4 k3
            obtain ⟨s1, s2⟩ := src.2.2 k3
            rw [s1, s2]
            show (I.getD q ze0).2.2.1 = (((I.getD q ze0).2.2.1.toNat : Nat) : Int) ∧ (I.getD q ze0).2.2.2 = (((I.getD q ze0).2.2.2.toNat : Nat) : Int)
            omega
      exact loop _ 0 h5 0 rfl (Nat.zero_le _) rfl F5 zfr.rfl (M5 (zeL I))
    · obtain ⟨b5, t5⟩ := fin h4 bb4 t4
      refine sg_239_37c (fun _ => ⟨rfl, ?_⟩) (fun z => absurd (u20.symm.trans z) w)
      rw [u20]
      exact k1 _ b5 t5 (by rw [zup_k (by decide)]; exact u21) (fun _ => M4.fr (zup_k (by decide)) fun c a b => by funext q; exact zup_c (by omega)) fun z => absurd z w
end
