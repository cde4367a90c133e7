/-! ODDS: look, and what is asked of it -/
def zOR (h : zHP) (o : Nat) : Prop := ∃ r1 r2 r3 r4 : Nat, zDis o r1 r2 r3 r4 ∧ h o 1 = ((r1 : Nat) : Int) ∧ h o 2 = ((r2 : Nat) : Int) ∧ h o 3 = ((r3 : Nat) : Int) ∧ h o 4 = ((r4 : Nat) : Int)
def zOC (h : zHP) (o n m : Nat) (e : zel) (o0 : Nat) : Prop := ∃ (r1 r2 r3 r4 c : Nat) (E W : Nat → Nat), zDis o r1 r2 r3 r4 ∧ h o 1 = ((r1 : Nat) : Int) ∧ h o 2 = ((r2 : Nat) : Int) ∧ h o 3 = ((r3 : Nat) : Int) ∧ h o 4 = ((r4 : Nat) : Int) ∧ zOB h o r3 r4 n c E W ∧ (∀ u, u < zfac n → zwt E W c u = zww n e o0 m u) ∧ h o 8 = (n : Int) ∧ zsu W c = zways e m
theorem zOC.r {h : zHP} {o n m o0 : Nat} {e : zel} (C : zOC h o n m e o0) : zOR h o := by
  obtain ⟨r1, r2, r3, r4, c, E, W, hD, f1, f2, f3, f4, -⟩ := C
  exact ⟨r1, r2, r3, r4, hD, f1, f2, f3, f4⟩
def zOJ (h : zHP) (o n : Nat) (e : zel) (o0 i : Nat) (st : Int) : Prop := ∃ (r1 r2 r3 r4 c : Nat) (E W : Nat → Nat), zDis o r1 r2 r3 r4 ∧ h o 1 = ((r1 : Nat) : Int) ∧ h o 2 = ((r2 : Nat) : Int) ∧ h o 3 = ((r3 : Nat) : Int) ∧ h o 4 = ((r4 : Nat) : Int) ∧ h o 7 = (c : Int) ∧ c ≤ zfac n ∧ (∀ j, j < c → E j < zfac n ∧ h r3 j = (E j : Int) ∧ h r4 j = (W j : Int)) ∧ (∀ u, u < zfac n → zwt E W c u = zww n e o0 i u) ∧ zsu W c = zways e i ∧ h o 8 = (n : Int) ∧ h o 9 = st ∧ h o 10 = (o0 : Int)
theorem zodd_lad {o w : Nat} (hp : zOdd o) (hw : zLad w) : (w + 3 ≤ o ∨ o + 6 ≤ w) := by unfold zOdd at hp; unfold zLad at hw; omega
section
variable {X : List Int} {h : zHP} {K : Option zAV → zHP → Prop}
theorem cx_68 {o w n m o0 : Nat} {e : zel} (F : zFin h) (T : zOT h) (hp : zOdd o) (hw : zLad w) (R : zOR h o) (L : zLC h w n m e) (hl : zlok n m e) (hr : (n : Int) ≤ h 1 1) (ho : o0 < zfac n) (hC : h w 5 = h o 9 → (o0 : Int) = h o 10 → zOC h o n m e o0)
    (k : ∀ h', zFin h' → zfr [o, o + 1, o + 2, o + 3, o + 4, o + 5] h h' → zOC h' o n m e o0 → h' o 9 = h w 5 → h' o 10 = (o0 : Int) → K none h') : zC X 68 [zR o, zR w, zI o0] h K := by
  have hwo := zodd_lad hp hw
  have hn := hl.1
  have hm := hl.2.1
  have h5 := zfac7 hn.2
  have hN : ∀ c, c ∈ [o, o + 1, o + 2, o + 3, o + 4, o + 5] → c ≠ 1 ∧ c ≠ 2 ∧ c ≠ w ∧ c ≠ w + 1 := fun c hc => by
    simp only [List.mem_cons, List.not_mem_nil, or_false] at hc
    unfold zOdd at hp
    omega
  have keep : ∀ h1, zfr [o, o + 1, o + 2, o + 3, o + 4, o + 5] h h1 → zOT h1 ∧ zLC h1 w n m e ∧ (n : Int) ≤ h1 1 1 := by
    intro h1 fr
    have g1 : h1 1 = h 1 := fr 1 (fun z => (hN 1 z).1 rfl)
    have g2 : h1 2 = h 2 := fr 2 (fun z => (hN 2 z).2.1 rfl)
    have gw : h1 w = h w := fr w (fun z => (hN w z).2.2.1 rfl)
    have gw1 : h1 (w + 1) = h (w + 1) := fr (w + 1) (fun z => (hN (w + 1) z).2.2.2 rfl)
    refine ⟨?_, ?_, by rw [g1]; exact hr⟩
    · obtain ⟨r, t1, t2, t3, t4⟩ := T
      exact ⟨r, by rw [g1]; exact t1, t2, t3, fun j o a b => by rw [g2]; exact t4 j o a b⟩
    · unfold zLC; rw [gw, gw1]; exact L
  have sub3 : ∀ {r1 r2 r3 r4 : Nat}, zDis o r1 r2 r3 r4 → ∀ c ∈ [o, r3, r4, o + 5], c ∈ [o, o + 1, o + 2, o + 3, o + 4, o + 5] := fun {r1 r2 r3 r4} hD c hc => by
    simp only [List.mem_cons, List.not_mem_nil, or_false] at hc ⊢
    unfold zDis at hD
    omega
  have sub0 : ∀ c ∈ [o, o + 5], c ∈ [o, o + 1, o + 2, o + 3, o + 4, o + 5] := fun c hc => by
    simp only [List.mem_cons, List.not_mem_nil, or_false] at hc ⊢
    omega
  have wb : ∀ i, i ≤ m → zways e i ≤ 1099511627776 := fun i hi => zways_b hl hi
  -- the last turn: all put together
  have last : ∀ (q j : Nat) (h1 : zHP) (y : Int) (r1 r2 r3 r4 c : Nat) (E W : Nat → Nat) (c1 : Nat) (E1 W1 : Nat → Nat), c - j = q → j ≤ c → y = (j : Int) → zFin h1 → zfr [o, o + 1, o + 2, o + 3, o + 4, o + 5] h h1 → zDis o r1 r2 r3 r4 → h1 o 1 = ((r1 : Nat) : Int) → h1 o 2 = ((r2 : Nat) : Int) → h1 o 3 = ((r3 : Nat) : Int) → h1 o 4 = ((r4 : Nat) : Int) → h1 o 6 = (c : Int) → c ≤ zfac n → (∀ j, j < c → E j < zfac n ∧ h1 r1 j = (E j : Int) ∧ h1 r2 j = (W j : Int)) → (∀ u, u < zfac n → zwt E W c u = zww n e o0 m u) → zsu W c = zways e m → h1 o 8 = (n : Int) → h1 o 9 = h w 5 → h1 o 10 = (o0 : Int) → zOB h1 o r3 r4 n c1 E1 W1 → (∀ u, zwt E1 W1 c1 u = zwt E W j u) → zsu W1 c1 = zsu W j → zAt X 68 121 0 0 [some (zR o), none, none, some (zI y)] [] zSHc h1 (fun v sh' h' => sh' = zSHc ∧ K v h') := by
    intro q
    induction q with
    | zero =>
      intro j h1 y r1 r2 r3 r4 c E W c1 E1 W1 hq hj hy F1 fr hD f1 f2 f3 f4 f6 hc hE hw1 hs f8 f9 f10 B w1 s1
      have ej : j = c := by omega
      subst ej
      have kk := k h1 F1 fr ⟨r1, r2, r3, r4, c1, E1, W1, hD, f1, f2, f3, f4, B, fun u hu => by rw [w1]; exact hw1 u hu, f8, by rw [s1]; exact hs⟩ f9 f10
      clear k hE hw1 B w1 keep hN hC sub3 sub0 wb
      apply sg_68_121 f2 f1 hD hp <;> intros <;> (try omega)
      exact ⟨rfl, kk⟩
    | succ q ih =>
      intro j h1 y r1 r2 r3 r4 c E W c1 E1 W1 hq hj hy F1 fr hD f1 f2 f3 f4 f6 hc hE hw1 hs f8 f9 f10 B w1 s1
      have hj' : j < c := by omega
      obtain ⟨e1, e2, e3⟩ := hE j hj'
      have ey : y.toNat = j := by omega
      have sj : zsu W (j + 1) ≤ zsu W c := by
        have : ∀ t, j + 1 ≤ t → zsu W (j + 1) ≤ zsu W t := by
          intro t ht
          induction t with
          | zero => omega
          | succ t iht =>
            by_cases ct : j + 1 = t + 1
            · rw [ct]; exact Nat.le_refl _
            · have := iht (by omega)
              show _ ≤ zsu W t + W t
              omega
        exact this c (by omega)
      have sj3 : zsu W (j + 1) = zsu W j + W j := rfl
      have wm := wb m (Nat.le_refl _)
      have nx : zC X 70 [zR o, zI (h1 r1 y.toNat), zL (h1 r2 y.toNat)] h1 (fun v h9 => zAt X 68 163 0 0 [some (zR o), none, none, some (zI y)] (zpush v []) zSHc h9 (fun v sh' h' => sh' = zSHc ∧ K v h')) := by
        rw [ey, e2, e3]
        refine cx_70 F1 hp hD f3 f4 B hn.2 e1 (by omega) fun h2 c2 E2 W2 F2 fr2 f72 B2 w2 s2 => sg_68_163c (by omega) ?_
        have q1 : h2 r1 = h1 r1 := fr2 r1 (by have := zd_1_0 hD; have := zd_1_3 hD; have := zd_1_4 hD; have := zd_1_5 hD; simp; omega)
        have q2 : h2 r2 = h1 r2 := fr2 r2 (by have := zd_2_0 hD; have := zd_2_3 hD; have := zd_2_4 hD; have := zd_2_5 hD; simp; omega)
        refine ih (j + 1) h2 _ r1 r2 r3 r4 c E W c2 E2 W2 (by omega) (by omega) (by omega) F2 (fr.trans (fr2.mono (sub3 hD))) hD (by rw [f72 1 (by decide)]; exact f1) (by rw [f72 2 (by decide)]; exact f2) (by rw [f72 3 (by decide)]; exact f3) (by rw [f72 4 (by decide)]; exact f4) (by rw [f72 6 (by decide)]; exact f6) hc (fun t ht => by rw [q1, q2]; exact hE t ht) hw1 hs (by rw [f72 8 (by decide)]; exact f8) (by rw [f72 9 (by decide)]; exact f9) (by rw [f72 10 (by decide)]; exact f10) B2 (fun u => by rw [w2 u, w1 u]; rfl) (by omega)
      clear ih k hE hw1 B w1 keep hN hC sub3 sub0 wb
      apply sg_68_121 f2 f1 hD hp <;> intros <;> (try omega)
      all_goals exact nx
  -- the walk down
  have main : ∀ (q i : Nat) (h1 : zHP) (y : Int), m - i = q → i ≤ m → y = (i : Int) → zFin h1 → zfr [o, o + 1, o + 2, o + 3, o + 4, o + 5] h h1 → zOJ h1 o n e o0 i (h w 5) → zAt X 68 62 0 0 [some (zR o), some (zR w), none, some (zI y)] [] zSHc h1 (fun v sh' h' => sh' = zSHc ∧ K v h') := by
    intro q
    induction q with
    | zero =>
      intro i h1 y hq hi hy F1 fr J
      have ei : i = m := by omega
      subst ei
      obtain ⟨r1, r2, r3, r4, c, E, W, hD, f1, f2, f3, f4, f7, hc, hE, hw1, hs, f8, f9, f10⟩ := J
      obtain ⟨T1, L1, hr1⟩ := keep h1 fr
      have e3 := L1.2.1
      have nx : zC X 71 [zR o] h1 (fun v h9 => zAt X 68 119 0 0 [some (zR o), none, none, none] (zpush v []) zSHc h9 (fun v sh' h' => sh' = zSHc ∧ K v h')) := by
        refine cx_71 F1 hp hD f1 f2 f3 f4 fun h2 F2 fr2 g1 g2 g3 g4 g6 g7 g8 g5 => sg_68_119c ?_
        have q3 : h2 r3 = h1 r3 := fr2 r3 (by have := zd_3_0 hD; have := zd_3_5 hD; simp; omega)
        have q4 : h2 r4 = h1 r4 := fr2 r4 (by have := zd_4_0 hD; have := zd_4_5 hD; simp; omega)
        exact last c 0 h2 0 r3 r4 r1 r2 c E W 0 E W rfl (by omega) rfl F2 (fr.trans (fr2.mono sub0)) hD.swap g1 g2 g3 g4 (g6.trans f7) hc (fun j hj => by rw [q3, q4]; exact hE j hj) hw1 hs (by rw [g8 8 (by omega)]; exact f8) (by rw [g8 9 (by omega)]; exact f9) (by rw [g8 10 (by omega)]; exact f10) ⟨g7, fun j hj => by omega, fun i j hj => by omega, fun j hj => by omega, fun v hv _ => g5 v hv⟩ (fun u => rfl) rfl
      clear last k hE hw1 keep hN hC sub3 sub0 wb
      apply sg_68_62 F1 f3 hD hp hw <;> intros <;> (try omega)
      all_goals exact nx
    | succ q ih =>
      intro i h1 y hq hi hy F1 fr J
      have hi' : i < m := by omega
      obtain ⟨r1, r2, r3, r4, c, E, W, hD, f1, f2, f3, f4, f7, hc, hE, hw1, hs, f8, f9, f10⟩ := J
      obtain ⟨T1, L1, hr1⟩ := keep h1 fr
      have e3 := L1.2.1
      have hk := L1.kd hl hi'
      rw [← hy] at hk
      obtain ⟨hk4, hl2, hmay⟩ := hl.2.2.2 i hi'
      have hzs : zways e (i + 1) = if (e i).1 = 3 then zways e i * (e i).2.2.2 else zways e i := rfl
      have wi := wb (i + 1) (by omega)
      by_cases c3 : (e i).1 = 3
      · rw [if_pos c3] at hzs
        have nx : zC X 71 [zR o] h1 (fun v h9 => zAt X 68 83 0 0 [some (zR o), some (zR w), none, some (zI y)] (zpush v []) zSHc h9 (fun v sh' h' => sh' = zSHc ∧ K v h')) := by
          refine cx_71 F1 hp hD f1 f2 f3 f4 fun h2 F2 fr2 g1 g2 g3 g4 g6 g7 g8 g5 => sg_68_83c hp ?_
          have q3 : h2 r3 = h1 r3 := fr2 r3 (by have := zd_3_0 hD; have := zd_3_5 hD; simp; omega)
          have q4 : h2 r4 = h1 r4 := fr2 r4 (by have := zd_4_0 hD; have := zd_4_5 hD; simp; omega)
          have FR2 := fr.trans (fr2.mono sub0)
          obtain ⟨T2, L2, hr2⟩ := keep h2 FR2
          refine cx_69 (V := zww n e o0 i) F2 T2 hp hw hD.swap g1 g2 g3 g4 L2 hl hi' hy c3 hr2 (by rw [g8 8 (by omega)]; exact f8) (g6.trans f7) (by omega) (fun j hj => by rw [q3, q4]; exact hE j hj) g7 g5 (fun u hu => (hw1 u hu).symm) (by rw [hs, ← hzs]; omega) fun h3 c' E' W' F3 fr3 f73 B3 w3 s3 => sg_68_89c (by omega) ?_
          refine ih (i + 1) h3 _ (by omega) (by omega) (by omega) F3 (FR2.trans (fr3.mono (sub3 hD.swap))) ⟨r3, r4, r1, r2, c', E', W', hD.swap, by rw [f73 1 (by decide)]; exact g1, by rw [f73 2 (by decide)]; exact g2, by rw [f73 3 (by decide)]; exact g3, by rw [f73 4 (by decide)]; exact g4, B3.1, B3.le, fun j hj => ⟨(B3.2.1 j hj).1.1, (B3.2.1 j hj).2⟩, fun u hu => w3 u hu, by rw [s3, hs, hzs], by rw [f73 8 (by decide), g8 8 (by omega)]; exact f8, by rw [f73 9 (by decide), g8 9 (by omega)]; exact f9, by rw [f73 10 (by decide), g8 10 (by omega)]; exact f10⟩
        clear last k hE hw1 keep hN hC sub3 sub0 wb ih
        apply sg_68_62 F1 f3 hD hp hw <;> intros <;> (try omega)
        all_goals exact nx
      · rw [if_neg c3] at hzs
        have nx : zC X 88 [zR 1, zR w, zI y, zR r3, zI (h1 o 7)] h1 (fun v h9 => zAt X 68 109 0 0 [some (zR o), some (zR w), none, some (zI y)] (zpush v []) zSHc h9 (fun v sh' h' => sh' = zSHc ∧ K v h')) := by
          rw [f7]
          have hr3 : r3 ≠ 1 ∧ r3 ≠ 2 ∧ r3 ≠ o ∧ r3 ≠ r4 ∧ r3 ∈ [o, o + 1, o + 2, o + 3, o + 4, o + 5] := by
            refine ⟨?_, ?_, zd_3_0 hD, zd_3_4 hD, sub3 hD r3 (by simp)⟩
            · unfold zOdd at hp; unfold zDis at hD; omega
            · unfold zOdd at hp; unfold zDis at hD; omega
          refine cx_88 F1 T1 hw L1 hl hi' hy (zDis.a3 hp hD) (zDis.s3 hp hD) (zDis.l3 hp hD) ⟨hr3.1, hr3.2.1⟩ hr1 (by omega) c3 (fun j hj => ⟨(hE j hj).1, (hE j hj).2.1⟩) fun h2 F2 fr2 a1 a2 => sg_68_109c (by omega) ?_
          have g0 : h2 o = h1 o := fr2 o (by simp; exact fun z => hr3.2.2.1 z.symm)
          have g4 : h2 r4 = h1 r4 := fr2 r4 (by simp; exact fun z => hr3.2.2.2.1 z.symm)
          refine ih (i + 1) h2 _ (by omega) (by omega) (by omega) F2 (fr.trans (fr2.mono (fun c hc => by simp only [List.mem_cons, List.not_mem_nil, or_false] at hc; subst hc; exact hr3.2.2.2.2))) ⟨r1, r2, r3, r4, c, fun j => zst n (e i) true (E j), W, hD, by rw [g0]; exact f1, by rw [g0]; exact f2, by rw [g0]; exact f3, by rw [g0]; exact f4, by rw [g0]; exact f7, hc, fun j hj => ⟨zst_lt hn.2 (hE j hj).1 hl2, a1 j hj, by rw [g4]; exact (hE j hj).2.2⟩, fun u hu => ?_, by rw [hzs]; exact hs, by rw [g0]; exact f8, by rw [g0]; exact f9, by rw [g0]; exact f10⟩
          show _ = zpf n (e i) (zww n e o0 i) u
          rw [zwt_pf (fun j hj => (hE j hj).1) (fun u hu => (hw1 u hu).symm)]
          simp only [if_neg c3]
          rfl
        clear last k hE hw1 keep hN hC sub3 sub0 wb ih
        apply sg_68_62 F1 f3 hD hp hw <;> intros <;> (try omega)
        all_goals exact nx
  -- the start
  have start : zC X 339 [zR (o + 5), zI 0] (zup (zup (zup h o 9 (h w 5)) o 10 (o0 : Int)) o 8 (zup (zup h o 9 (h w 5)) o 10 (o0 : Int) w 2)) (fun v h9 => zAt X 68 49 0 0 [some (zR o), some (zR w), some (zI (o0 : Int)), none] (zpush v []) zSHc h9 (fun v sh' h' => sh' = zSHc ∧ K v h')) := by
    have ow : ¬ w = o := by omega
    have n5 : ¬ o = o + 5 := by omega
    rw [show zup (zup h o 9 (h w 5)) o 10 (o0 : Int) w 2 = (n : Int) from (zup_c ow).trans ((zup_c ow).trans L.1)]
    refine zp_fillI hp.l5 hp.s5 (by decide) ?_
    generalize hG : zup (zup (zup h o 9 (h w 5)) o 10 (o0 : Int)) o 8 (n : Int) = G
    have FG : zFin G := by rw [← hG]; exact zOdd.up (zOdd.up (zOdd.up F hp rfl) hp rfl) hp rfl
    have F2 : zFin (zfill G (o + 5) 5040 0) := by
      intro q hq
      unfold zfill
      have h5 : ¬ q.1 = o + 5 := fun z => by
        have := List.all_eq_true.mp hp.a5 q hq
        rw [z, Nat.beq_refl] at this
        cases this
      rw [if_neg h5]
      exact FG q hq
    have F3 : zFin (zup (zfill G (o + 5) 5040 0) o 7 0) := zOdd.up F2 hp rfl
    have ro : ∀ j, ¬ j = 7 → zup (zfill G (o + 5) 5040 0) o 7 0 o j = G o j := fun j hj => by
      rw [zup_k hj]
      unfold zfill
      rw [if_neg n5]
    have gj : ∀ j, ¬ j = 8 → ¬ j = 9 → ¬ j = 10 → G o j = h o j := fun j a b c => by rw [← hG, zup_k a, zup_k c, zup_k b]
    have frG : zfr [o] h G := by rw [← hG]; exact ((zfr.rfl.up (by simp)).up (by simp)).up (by simp)
    have frF : zfr [o, o + 1, o + 2, o + 3, o + 4, o + 5] h (zup (zfill G (o + 5) 5040 0) o 7 0) := by
      intro c hc
      simp only [List.mem_cons, List.not_mem_nil, or_false, not_or] at hc
      funext j
      rw [zup_c hc.1]
      unfold zfill
      rw [if_neg hc.2.2.2.2.2]
      exact congrFun (frG c (by simp; exact hc.1)) j
    obtain ⟨r1, r2, r3, r4, hD, f1, f2, f3, f4⟩ := R
    have f3' := (ro 3 (by decide)).trans ((gj 3 (by decide) (by decide) (by decide)).trans f3)
    have f4' := (ro 4 (by decide)).trans ((gj 4 (by decide) (by decide) (by decide)).trans f4)
    have f1' := (ro 1 (by decide)).trans ((gj 1 (by decide) (by decide) (by decide)).trans f1)
    have f2' := (ro 2 (by decide)).trans ((gj 2 (by decide) (by decide) (by decide)).trans f2)
    refine sg_68_49c hp (cx_70 (E := fun _ => 0) (W := fun _ => 0) (c := 0) F3 hp hD f3' f4' ⟨zup_eq, fun j hj => by omega, fun i j hj => by omega, fun j hj => by omega, fun v hv _ => ?_⟩ hn.2 ho (w := 1) (by show 0 + 1 ≤ _; decide) fun h2 c2 E2 W2 F2' fr2 f72 B2 w2 s2 => sg_68_60c ?_)
    · rw [zup_c (by omega)]; unfold zfill; rw [if_pos rfl, if_pos hv]
    · refine main m 0 h2 0 rfl (by omega) rfl F2' (frF.trans (fr2.mono (sub3 hD))) ⟨r1, r2, r3, r4, c2, E2, W2, hD, by rw [f72 1 (by decide)]; exact f1', by rw [f72 2 (by decide)]; exact f2', by rw [f72 3 (by decide)]; exact f3', by rw [f72 4 (by decide)]; exact f4', B2.1, B2.le, fun j hj => ⟨(B2.2.1 j hj).1.1, (B2.2.1 j hj).2⟩, fun u hu => ?_, s2, ?_, ?_, ?_⟩
      · rw [w2 u]
        show zsu _ 0 + (if o0 = u then 1 else 0) = (if u = o0 then 1 else 0)
        by_cases cu : o0 = u
        · rw [if_pos cu, if_pos cu.symm]; rfl
        · rw [if_neg cu, if_neg (fun z => cu z.symm)]; rfl
      · rw [f72 8 (by decide), ro 8 (by decide), ← hG, zup_eq]
      · rw [f72 9 (by decide), ro 9 (by decide), ← hG, zup_k (by decide), zup_k (by decide), zup_eq]
      · rw [f72 10 (by decide), ro 10 (by decide), ← hG, zup_k (by decide), zup_eq]
  refine sg_68_0 F hp hw (fun _ => start) (fun _ _ => start) (fun a b => ⟨rfl, ?_⟩)
  exact k h F zfr.rfl (hC a b) a.symm b.symm
/-- endAt -/
theorem cx_73 {o r1 r2 r3 r4 n c i : Nat} {E W : Nat → Nat} {x : Int} (F : zFin h) (hp : zOdd o) (hD : zDis o r1 r2 r3 r4) (hf3 : h o 3 = ((r3 : Nat) : Int)) (B : zOB h o r3 r4 n c E W) (hn : n ≤ 7) (hi : i < c) (hx : x = (i : Int)) (k : K (some (zI (E i : Int))) h) : zC X 73 [zR o, zI x] h K := by
  have h5 := zfac7 hn
  have hle := B.le
  obtain ⟨b1, b2, -⟩ := B
  obtain ⟨-, g3, -⟩ := b2 i hi
  have ey : x.toNat = i := by omega
  apply sg_73_0 hf3 hD hp <;> intros <;> (try omega)
  rw [ey, g3]
  exact ⟨rfl, k⟩
/-- waysTo -/
theorem cx_74 {o r1 r2 r3 r4 n c v : Nat} {E W : Nat → Nat} (F : zFin h) (hp : zOdd o) (hD : zDis o r1 r2 r3 r4) (hf4 : h o 4 = ((r4 : Nat) : Int)) (B : zOB h o r3 r4 n c E W) (hn : n ≤ 7) (hv : v < zfac n) (k : K (some (zL (zwt E W c v : Int))) h) : zC X 74 [zR o, zI v] h K := by
  have h5 := zfac7 hn
  have hle := B.le
  obtain ⟨b1, b2, b3, b4, b5⟩ := B
  have tv : ((v : Int)).toNat = v := Int.toNat_natCast v
  by_cases ex : ∃ i, i < c ∧ E i = v
  · obtain ⟨i, hi, he⟩ := ex
    obtain ⟨-, -, g4⟩ := b2 i hi
    have hs : h (o + 5) ((v : Int)).toNat = ((i + 1 : Nat) : Int) := by rw [tv, ← he]; exact b4 i hi
    have es : (h (o + 5) ((v : Int)).toNat - 1).toNat = i := by omega
    rw [← he, zwt_at hi b3] at k
    clear b2 b3 b4 b5
    apply sg_74_0 F hf4 hD hp <;> intros <;> (try omega)
    rw [es, g4]
    exact ⟨rfl, k⟩
  · have hne : ∀ i, i < c → E i ≠ v := fun i hi e => ex ⟨i, hi, e⟩
    have hs : h (o + 5) ((v : Int)).toNat = 0 := by rw [tv]; exact b5 v (by omega) hne
    rw [zwt_no hne] at k
    clear b2 b3 b4 b5
    apply sg_74_0 F hf4 hD hp <;> intros <;> (try omega)
    exact ⟨rfl, k⟩
/-- waysOnto -/
theorem cx_75 {o r1 r2 r3 r4 n c v q : Nat} {E W : Nat → Nat} (F : zFin h) (hp : zOdd o) (hD : zDis o r1 r2 r3 r4) (hf3 : h o 3 = ((r3 : Nat) : Int)) (hf4 : h o 4 = ((r4 : Nat) : Int)) (h8 : h o 8 = (n : Int)) (B : zOB h o r3 r4 n c E W) (hn : n ≤ 7) (hv : v < n) (hb : zsu W c ≤ 4611686018427387904) (k : K (some (zL (zsu (fun i => if zp n (E i) v = q then W i else 0) c : Nat))) h) : zC X 75 [zR o, zI v, zI q] h K := by
  have h5 := zfac7 hn
  have hle := B.le
  obtain ⟨b1, b2, -⟩ := B
  have loop : ∀ (p i : Nat) (y z : Int), c - i = p → i ≤ c → y = (i : Int) → z = (zsu (fun i => if zp n (E i) v = q then W i else 0) i : Nat) → zAt X 75 5 0 0 [some (zR o), some (zI (v : Int)), some (zI (q : Int)), some (zL z), none, some (zI y)] [] zSHc h (fun v sh' h' => sh' = zSHc ∧ K v h') := by
    intro p
    induction p with
    | zero =>
      intro i y z hq hi hy hz
      have ei : i = c := by omega
      subst ei
      clear b2
      apply sg_75_5 F hf4 hf3 hD hp <;> intros <;> (try omega)
      subst hz
      exact ⟨rfl, k⟩
    | succ p ih =>
      intro i y z hq hi hy hz
      have hi' : i < c := by omega
      obtain ⟨⟨g1, -⟩, g3, g4⟩ := b2 i hi'
      have ey : y.toNat = i := by omega
      have g3' : h r3 y.toNat = (E i : Int) := by rw [ey]; exact g3
      have g4' : h r4 y.toNat = (W i : Int) := by rw [ey]; exact g4
      have es : zsu (fun i => if zp n (E i) v = q then W i else 0) (i + 1) = zsu (fun i => if zp n (E i) v = q then W i else 0) i + (if zp n (E i) v = q then W i else 0) := rfl
      have sb : zsu (fun i => if zp n (E i) v = q then W i else 0) i + W i ≤ zsu W c := by
        have h1 : zsu (fun i => if zp n (E i) v = q then W i else 0) i ≤ zsu W i := zsu_mono fun j _ => by split <;> omega
        have : ∀ t, i + 1 ≤ t → zsu W (i + 1) ≤ zsu W t := by
          intro t ht
          induction t with
          | zero => omega
          | succ t iht =>
            by_cases ct : i + 1 = t + 1
            · rw [ct]; exact Nat.le_refl _
            · have := iht (by omega)
              show _ ≤ zsu W t + W t
              omega
        have h2 := this c (by omega)
        have h3 : zsu W (i + 1) = zsu W i + W i := rfl
        omega
      have nx : zC X 83 [zR 1, zI (h o 8), zI (h r3 y.toNat), zI (v : Int)] h (fun v' h9 => zAt X 75 53 0 0 [some (zR o), some (zI (v : Int)), some (zI (q : Int)), some (zL z), none, some (zI y)] (zpush v' []) zSHc h9 (fun v sh' h' => sh' = zSHc ∧ K v h')) := by
        rw [h8, g3']
        refine cx_83 hn (by omega) (by omega) ?_
        rw [zlg_p g1 hv]
        have ih1 := ih (i + 1) (y + 1)
        clear ih k b2
        apply sg_75_53c hf4 hD hp <;> intros <;> (try omega)
        · rename_i hne
          rw [if_neg (by omega)] at es
          exact ih1 _ (by omega) (by omega) (by omega) (by omega)
        · rename_i hne
          rw [if_pos (by omega)] at es
          exact ih1 _ (by omega) (by omega) (by omega) (by omega)
      clear ih k b2
      apply sg_75_5 F hf4 hf3 hD hp <;> intros <;> (try omega)
      all_goals exact nx
  exact sg_75_0 (loop c 0 0 0 rfl (by omega) rfl rfl)
end
