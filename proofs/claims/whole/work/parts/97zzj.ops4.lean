/-! CALLS THAT CHANGE: TEXT, PUSHES, CLEAR, GATES -/
section
variable {h h' : zHP} {N s G : Nat} {A : Nat → Nat × Nat × zel} {g : Nat → Int × Int × Int × Int} {T T2 : Nat} {tb tb2 : Nat → Nat} {y : Int × Int × Int × Int}
/-- only the text and what is shelved -/
theorem zCI.tx (I : zCI h N s A G g T tb) (fr : ∀ c, (3 ≤ c ∧ c ≤ 5) ∨ (24 ≤ c ∧ c ≤ 67) ∨ (70 ≤ c ∧ c ≤ 71) ∨ c = 79 → h' c = h c) (f2 : ∀ u, u < N → h' (6 + 3 * u) 5 = h (6 + 3 * u) 5) (T1 : zOT h') (S1 : zCS h' N s A) (t1 : zTC h' T2 tb2) : zCI h' N s A G g T2 tb2 := by
  obtain ⟨i1, i2, i3, i4, i5, i6, i7, i8, i9, i10, i11, i12⟩ := I
  have n := fr
  refine ⟨T1, i2.k (n 3 (by omega)) (n 4 (by omega)), S1, i4.k (n 24 (by omega)) (n 25 (by omega)), i5.fr (fun c a b => n c (by omega)) f2, i6.fr (fun c a b => n c (by omega)) f2, i7.k (n 28 (by omega)) (n 33 (by omega)) f2, i8.k (by rw [n 40 (by omega)]) (by rw [n 40 (by omega)]) (n 53 (by omega)) f2, i9.fr (by rw [n 40 (by omega)]) (fun c a b => n c (by omega)), t1, i11.k (n 70 (by omega)) (n 71 (by omega)), fun p hp => by rw [n 79 (by omega)]; exact i12 p hp⟩
theorem zCI.t2 (I : zCI h N s A G g T tb) (fr : zfr [68, 69] h h') (t1 : zTC h' T2 tb2) : zCI h' N s A G g T2 tb2 := by
  have hN := I.2.2.1.2.1
  have n : ∀ c, c < 68 ∨ 70 ≤ c → h' c = h c := fun c hc => fr c (by simp; omega)
  exact I.tx (fun c hc => n c (by omega)) (fun u hu => by rw [n _ (by omega)]) (I.1.fr (n 1 (by omega)) (n 2 (by omega))) (I.2.2.1.fr (by rw [n 0 (by omega)]) (by rw [n 0 (by omega)]) (n 5 (by omega)) (by rw [n 1 (by omega)]; exact Int.le_refl _) fun u hu => ⟨n _ (by omega), n _ (by omega)⟩) t1
theorem zMI.t2 (I : zMI h N A G g T tb) (fr : zfr [108, 119] h h') (cs : ∀ j, j ≠ 12 → h' 108 j = h 108 j) (t1 : zTM h' T2 tb2) : zMI h' N A G g T2 tb2 := ⟨I.1.fr (cs 0 (by decide)) fun c a b => fr c (by simp; omega), I.2.1.keep (cs 38 (by decide)) (cs 39 (by decide)) fun c a b => fr c (by simp; omega), I.2.2.1.k (cs 7 (by decide)) fun c a b => fr c (by simp; omega), t1⟩
theorem zfit_x {n v j : Nat} {t : Int} (hj : j ≤ G) : zfit n (zgps g G y) t v j ↔ zfit n g t v j := by
  have eg : ∀ k, k < j → zgps g G y k = g k := fun k hk => if_neg (by omega)
  constructor
  · intro H k hk a b
    have := H k hk (by rw [eg k hk]; exact a) (fun ⟨i, i1, i2, i3⟩ => b ⟨i, i1, i2, by rw [← eg i i2]; exact i3⟩)
    rw [eg k hk] at this
    exact this
  · intro H k hk a b
    rw [eg k hk] at a ⊢
    exact H k hk a (fun ⟨i, i1, i2, i3⟩ => b ⟨i, i1, i2, by rw [eg i i2]; exact i3⟩)
theorem zfw_x {n m j : Nat} {e : zel} {t : Int} (hj : j ≤ G) : zfw n e m (zgps g G y) t j = zfw n e m g t j := by
  funext v
  unfold zfw
  by_cases c : zfit n g t v j
  · rw [if_pos c, if_pos ((zfit_x hj).mpr c)]
  · rw [if_neg c, if_neg fun z => c ((zfit_x hj).mp z)]
theorem zCI.gt (I : zCI h N s A G g T tb) (fr : zfr [40, 47, 48, 49, 50] h h') (cs : ∀ j, j ≠ 9 → h' 40 j = h 40 j) (g1 : zGC h' (G + 1) (zgps g G y)) : zCI h' N s A (G + 1) (zgps g G y) T tb := by
  obtain ⟨i1, i2, i3, i4, i5, i6, i7, i8, i9, i10, i11, i12⟩ := I
  have hN := i3.2.1
  have n : ∀ c, (c < 40 ∨ (41 ≤ c ∧ c ≤ 46) ∨ 51 ≤ c) → h' c = h c := fun c hc => fr c (by simp; omega)
  have f2 : ∀ u, u < N → h' (6 + 3 * u) 5 = h (6 + 3 * u) 5 := fun u hu => by rw [n (6 + 3 * u) (by omega)]
  have e0 := n 0 (by omega)
  have e1 := n 1 (by omega)
  have B : zBV h' N s A (G + 1) (zgps g G y) := by
    obtain ⟨b, V⟩ := i8
    refine ⟨by rw [cs 10 (by decide)]; exact b, fun u hu e => ?_⟩
    rw [f2 u hu, cs 10 (by decide)] at e
    obtain ⟨j, a, c, w⟩ := V u hu e
    exact ⟨j, by omega, (cs 11 (by decide)).trans c, fun v q hv hq => by rw [n 53 (by omega), zfw_x a]; exact w v q hv hq⟩
  exact ⟨i1.fr e1 (n 2 (by omega)), i2.k (n 3 (by omega)) (n 4 (by omega)), i3.fr (by rw [e0]) (by rw [e0]) (n 5 (by omega)) (by rw [e1]; exact Int.le_refl _) (fun u hu => ⟨n _ (by omega), n _ (by omega)⟩), i4.k (n 24 (by omega)) (n 25 (by omega)), i5.fr (fun c a b => n c (by omega)) f2, i6.fr (fun c a b => n c (by omega)) f2, i7.k (n 28 (by omega)) (n 33 (by omega)) f2, B, g1, i10.k (by rw [n 68 (by omega)]) (n 69 (by omega)), i11.k (n 70 (by omega)) (n 71 (by omega)), fun p hp => by rw [n 79 (by omega)]; exact i12 p hp⟩
theorem zMI.gt (I : zMI h N A G g T tb) (fr : zfr [108, 115, 116, 117, 118] h h') (cs : ∀ j, j ≠ 7 → h' 108 j = h 108 j) (g1 : zGM h' (G + 1) (zgps g G y)) : zMI h' N A (G + 1) (zgps g G y) T tb := ⟨I.1.fr (cs 0 (by decide)) fun c a b => fr c (by simp; omega), I.2.1.keep (cs 38 (by decide)) (cs 39 (by decide)) fun c a b => fr c (by simp; omega), g1, I.2.2.2.k (cs 12 (by decide)) (fr 119 (by decide))⟩
theorem zMI.ps {x : Nat × Nat × zel} (I : zMI h N A G g T tb) (fr : zfr [108, 109, 110, 111, 112, 113, 114] h h') (cs : ∀ j, j ≠ 0 → h' 108 j = h 108 j) (M1 : zMS h' (N + 1) (zpsh A N x)) : zMI h' (N + 1) (zpsh A N x) G g T tb := ⟨M1, I.2.1.keep (cs 38 (by decide)) (cs 39 (by decide)) fun c a b => fr c (by simp; omega), I.2.2.1.k (cs 7 (by decide)) fun c a b => fr c (by simp; omega), I.2.2.2.k (cs 12 (by decide)) (fr 119 (by decide))⟩
theorem zGW.gt (W : zGW N A G g) (hy : y.1 = -1 ∨ ∃ u : Nat, u < N ∧ y.1 = (u : Int) ∧ 0 ≤ y.2.1 ∧ y.2.1 < ((A u).1 : Int) ∧ 0 ≤ y.2.2.1 ∧ y.2.2.1 < ((A u).1 : Int)) (h1 : y.1 ≠ -1 → y.2.2.2 = -1) (h2 : y.2.2.2 = -1 ∨ 0 ≤ y.2.2.2) : zGW N A (G + 1) (zgps g G y) := by
  refine ⟨fun i hi => ?_, fun i hi => ?_, fun i hi => ?_⟩
  all_goals
    by_cases c : i = G
    · rw [show zgps g G y i = y from if_pos c]
      assumption
    · rw [show zgps g G y i = g i from if_neg c]
      first
        | exact W.1 i (by omega)
        | exact W.2.1 i (by omega)
        | exact W.2.2 i (by omega)
/-- a push on both sides -/
theorem zIv.psh {h1 h2 : zHP} {x : Nat × Nat × zel} (I : zIv h N s A G g T tb) (hN : N < 6) (T1 : zOT h1) (S1 : zCS h1 (N + 1) (s + 1) (zpsh A N x)) (fr1 : zfr [0, 1, 2, 6 + 3 * N, 6 + 3 * N + 1] h h1) (e14 : h1 0 14 = h 0 14) (g5 : h1 (6 + 3 * N) 5 = ((s + 1 : Nat) : Int)) (F2 : zFin h2) (fr2 : zfr [108, 109, 110, 111, 112, 113, 114] h1 h2) (cs : ∀ j, j ≠ 0 → h2 108 j = h1 108 j) (M2 : zMS h2 (N + 1) (zpsh A N x)) : zIv h2 (N + 1) (s + 1) (zpsh A N x) G g T tb := by
  obtain ⟨f, ci, mi, pl⟩ := I
  have n : ∀ c, (3 ≤ c ∧ c ≤ 5) ∨ 24 ≤ c → h1 c = h c := fun c hc => fr1 c (by simp; omega)
  have f2 : ∀ u, u < N → h1 (6 + 3 * u) 5 = h (6 + 3 * u) 5 := fun u hu => by rw [fr1 (6 + 3 * u) (by simp; omega)]
  have ci1 := ci.push (T2 := T) hN (fun c _ hc => n c (by omega)) f2 T1 S1 g5 (ci.2.2.2.2.2.2.2.2.2.1.k (by rw [n 68 (by omega)]) (n 69 (by omega)))
  have mi1 : zMI h1 N A G g T tb := mi.kp fun c a b => n c (by omega)
  refine ⟨F2, ci1.kp fr2 (by simp), mi1.ps fr2 cs M2, ?_⟩
  rw [fr2 0 (by decide), e14, cs 21 (by decide), n 108 (by omega)]
  exact pl
theorem zIv.mo (I : zIv h N s A G g T tb) (F : zFin h') (fr : zfr [0, 1, 2, 6 + 3 * N, 6 + 3 * N + 1] h h') : zMS h' N A := by
  have hN := I.2.1.2.2.1.2.1
  have n : ∀ c, 108 ≤ c → h' c = h c := fun c hc => fr c (by simp; omega)
  exact I.2.2.1.1.fr (by rw [n 108 (by omega)]) fun c a b => n c (by omega)
end
section
variable {X : List Int}
theorem zop_158 (k : Nat) : zOp_158 X (zInv k) (zInv (k + 1)) := by
  intro h J a0 a1 a2 a3 a4 _ _ _ _ _
  obtain ⟨N, s, A, G, g, T, tb, I, W, hs⟩ := J
  have ci := I.2.1
  refine cx_158 I.1 ci.2.2.2.2.2.2.2.2.2.1 ?_ ?_
  · intro no
    exact ⟨_, rfl, cm_209 I.1 I.2.2.1.2.2.2 (fun _ => ⟨rfl, N, s, A, G, g, T, tb, I, W, by omega⟩) (fun p => by omega)⟩
  · intro q1 h1 F1 fr1 t1
    have n : ∀ c, c < 68 ∨ 70 ≤ c → h1 c = h c := fun c hc => fr1 c (by simp; omega)
    have mi1 : zMI h1 N A G g T tb := I.2.2.1.kp fun c a b => n c (by omega)
    refine ⟨_, rfl, cm_209 F1 mi1.2.2.2 (fun p => by omega) (fun p h2 F2 fr2 cs t2 => ⟨rfl, N, s, A, G, g, _, _, ⟨F2, (ci.t2 fr1 t1).kp fr2 (by simp), mi1.t2 fr2 cs t2, ?_⟩, W, by omega⟩)⟩
    rw [fr2 0 (by decide), cs 21 (by decide), n 0 (by omega), n 108 (by omega)]
    exact I.2.2.2
theorem zop_159 (k : Nat) : zOp_159 X (zInv k) (zInv (k + 1)) := by
  intro h J a0 _
  obtain ⟨N, s, A, G, g, T, tb, I, W, hs⟩ := J
  have ci := I.2.1
  refine cx_159 I.1 ci.2.2.2.2.2.2.2.2.2.1 ?_ ?_
  · intro no
    exact ⟨_, rfl, cm_211 I.1 I.2.2.1.2.2.2 (fun _ => ⟨rfl, N, s, A, G, g, T, tb, I, W, by omega⟩) (fun p1 p2 => by omega)⟩
  · intro q1 q2 h1 F1 fr1 t1
    have n : ∀ c, c < 68 ∨ 70 ≤ c → h1 c = h c := fun c hc => fr1 c (by simp; omega)
    have mi1 : zMI h1 N A G g T tb := I.2.2.1.kp fun c a b => n c (by omega)
    refine ⟨_, rfl, cm_211 F1 mi1.2.2.2 (fun p => by omega) (fun p1 p2 h2 F2 fr2 cs t2 => ⟨rfl, N, s, A, G, g, _, _, ⟨F2, (ci.t2 (fr1.mono (by simp)) t1).kp fr2 (by simp), mi1.t2 (fr2.mono (by simp)) cs t2, ?_⟩, W, by omega⟩)⟩
    rw [fr2 0 (by decide), cs 21 (by decide), n 0 (by omega), n 108 (by omega)]
    exact I.2.2.2
theorem zop_162 (k : Nat) : zOp_162 X (zInv k) (zInv (k + 1)) := by
  intro h J
  obtain ⟨N, s, A, G, g, T, tb, I, W, hs⟩ := J
  obtain ⟨f, ⟨i1, i2, i3, i4, i5, i6, i7, i8, i9, i10, i11, i12⟩, mi, pl⟩ := I
  refine cx_162 f i3 i9 fun h1 F1 fr1 e14 S1 g1 c40 => ?_
  have n : ∀ c, (1 ≤ c ∧ c < 40) ∨ 41 ≤ c → h1 c = h c := fun c hc => fr1 c (by simp; omega)
  have mi1 : zMI h1 N A G g T tb := mi.kp fun c a b => n c (by omega)
  refine ⟨_, rfl, cm_246 (G := G) (g := g) F1 mi1.1 fun h2 F2 fr2 cs M2 g2 => ⟨rfl, 0, s, A, 0, g, T, tb, ⟨F2, ?_, ?_, ?_⟩, ⟨fun i hi => absurd hi (Nat.not_lt_zero _), fun i hi => absurd hi (Nat.not_lt_zero _), fun i hi => absurd hi (Nat.not_lt_zero _)⟩, by omega⟩⟩
  · have ci1 : zCI h1 0 s A 0 g T tb := ⟨i1.fr (n 1 (by omega)) (n 2 (by omega)), i2.k (n 3 (by omega)) (n 4 (by omega)), S1, i4.k (n 24 (by omega)) (n 25 (by omega)), ⟨i5.1.fr (n 34 (by omega)), by rw [n 34 (by omega)]; exact i5.2.1, fun u hu => absurd hu (Nat.not_lt_zero _)⟩, ⟨i6.1.fr (n 41 (by omega)), by rw [n 41 (by omega)]; exact i6.2.1, fun u hu => absurd hu (Nat.not_lt_zero _)⟩, ⟨by rw [n 28 (by omega)]; exact i7.1, fun u hu => absurd hu (Nat.not_lt_zero _)⟩, ⟨by rw [c40 10 (by decide)]; exact i8.1, fun u hu => absurd hu (Nat.not_lt_zero _)⟩, g1, i10.k (by rw [n 68 (by omega)]) (n 69 (by omega)), i11.k (n 70 (by omega)) (n 71 (by omega)), fun p hp => by rw [n 79 (by omega)]; exact i12 p hp⟩
    exact ci1.kp fr2 (by simp)
  · exact ⟨M2, mi1.2.1.keep (cs 38 (by decide) (by decide)) (cs 39 (by decide) (by decide)) (fun c a b => fr2 c (by simp; omega)), g2, mi1.2.2.2.k (cs 12 (by decide) (by decide)) (fr2 119 (by decide))⟩
  · rw [fr2 0 (by decide), e14, cs 21 (by decide) (by decide), n 108 (by omega)]
    exact pl
theorem zop_163 (k : Nat) (hk : k < 1000) : zOp_163 X (zInv k) (zInv (k + 1)) := by
  intro h J a0 a1 a2 _ _ _
  obtain ⟨N, s, A, G, g, T, tb, I, W, hs⟩ := J
  have hN6 := I.2.1.2.2.1.2.1
  refine cx_163b I.1 I.2.1.1 I.2.1.2.2.1 (by omega) ?_ ?_
  · intro no
    exact ⟨_, rfl, cm_247 I.1 I.2.2.1.1 (fun _ => ⟨rfl, N, s, A, G, g, T, tb, I, W, by omega⟩) (fun u p1 p2 p3 => by omega)⟩
  · intro u q1 q2 hN h1 F1 T1 S1 fr1 e14 g5
    refine ⟨_, rfl, cm_247 F1 (I.mo F1 fr1) (fun no => by omega) (fun u' p1 p2 p3 h2 F2 fr2 cs M2 => ?_)⟩
    have e : u' = u := by omega
    subst e
    exact ⟨rfl, N + 1, s + 1, _, G, g, T, tb, I.psh hN T1 S1 fr1 e14 g5 F2 fr2 cs M2, W.push, by omega⟩
theorem zop_164 (k : Nat) (hk : k < 1000) : zOp_164 X (zInv k) (zInv (k + 1)) := by
  intro h J a0 a1 _ _
  obtain ⟨N, s, A, G, g, T, tb, I, W, hs⟩ := J
  have hN6 := I.2.1.2.2.1.2.1
  refine cx_164b I.1 I.2.1.1 I.2.1.2.2.1 (by omega) ?_ ?_
  · intro no
    exact ⟨_, rfl, cm_248 I.1 I.2.2.1.1 (fun _ => ⟨rfl, N, s, A, G, g, T, tb, I, W, by omega⟩) (fun u v p1 p2 p3 p4 p5 p6 p7 p8 => (no u v p1 p2 p3 p4 p5 p6 p7 p8).elim)⟩
  · intro u v q1 q2 q3 q4 q5 q6 q7 hN h1 F1 T1 S1 fr1 e14 g5
    refine ⟨_, rfl, cm_248 F1 (I.mo F1 fr1) (fun no => (no u v q1 q2 q3 q4 q5 q6 q7 hN).elim) (fun u' v' p1 p2 p3 p4 p5 p6 p7 p8 h2 F2 fr2 cs M2 => ?_)⟩
    have e : u' = u := by omega
    subst e
    have e2 : v' = v := by omega
    subst e2
    exact ⟨rfl, N + 1, s + 1, _, G, g, T, tb, I.psh hN T1 S1 fr1 e14 g5 F2 fr2 cs M2, W.push, by omega⟩
theorem zop_165 (k : Nat) (hk : k < 1000) : zOp_165 X (zInv k) (zInv (k + 1)) := by
  intro h J a0 a1 a2 a3 _ _ _ _
  obtain ⟨N, s, A, G, g, T, tb, I, W, hs⟩ := J
  have hN6 := I.2.1.2.2.1.2.1
  refine cx_165b I.1 I.2.1.1 I.2.1.2.2.1 (by omega) ?_ ?_
  · intro no
    exact ⟨_, rfl, cm_252 I.1 I.2.2.1.1 (fun _ => ⟨rfl, N, s, A, G, g, T, tb, I, W, by omega⟩) (fun p1 p2 p3 p4 => by omega)⟩
  · intro q1 q2 q3 hN h1 F1 T1 S1 fr1 e14 g5
    refine ⟨_, rfl, cm_252 F1 (I.mo F1 fr1) (fun no => by omega) (fun p1 p2 p3 p4 h2 F2 fr2 cs M2 => ?_)⟩
    exact ⟨rfl, N + 1, s + 1, _, G, g, T, tb, I.psh hN T1 S1 fr1 e14 g5 F2 fr2 cs M2, W.push, by omega⟩
theorem zop_184 (k : Nat) : zOp_184 X (zInv k) (zInv (k + 1)) := by
  intro h J a0 a1 a2 _ _ _
  obtain ⟨N, s, A, G, g, T, tb, I, W, hs⟩ := J
  refine cx_184 I.1 I.2.1.2.2.1 I.2.1.2.2.2.2.2.2.2.2.1 ?_ ?_
  · intro no
    exact ⟨_, rfl, cm_294 I.1 I.2.2.1.1 I.2.2.1.2.2.1 (fun _ => ⟨rfl, N, s, A, G, g, T, tb, I, W, by omega⟩) (fun u p1 p2 p3 p4 p5 p6 p7 => (no u p1 p2 p3 p4 p5 p6 p7).elim)⟩
  · intro u q1 q2 q3 q4 q5 q6 q7 h1 F1 fr1 c40 g1
    have n : ∀ c, c < 40 ∨ 51 ≤ c → h1 c = h c := fun c hc => fr1 c (by simp; omega)
    have mi1 : zMI h1 N A G g T tb := I.2.2.1.kp fun c a b => n c (by omega)
    refine ⟨_, rfl, cm_294 F1 mi1.1 mi1.2.2.1 (fun no => (no u q1 q2 q3 q4 q5 q6 q7).elim) (fun u' p1 p2 p3 p4 p5 p6 p7 h2 F2 fr2 cs g2 => ⟨rfl, N, s, A, G + 1, _, T, tb, ⟨F2, (I.2.1.gt fr1 c40 g1).kp fr2 (by simp), mi1.gt fr2 cs g2, ?_⟩, W.gt (Or.inr ⟨u, q1, q2, q3, q4, q5, q6⟩) (fun _ => rfl) (Or.inl rfl), by omega⟩)⟩
    rw [fr2 0 (by decide), cs 21 (by decide), n 0 (by omega), n 108 (by omega)]
    exact I.2.2.2
theorem zop_185 (k : Nat) : zOp_185 X (zInv k) (zInv (k + 1)) := by
  intro h J a0 _
  obtain ⟨N, s, A, G, g, T, tb, I, W, hs⟩ := J
  refine cx_185 I.1 I.2.1.2.2.2.2.2.2.2.2.1 ?_ ?_
  · intro no
    exact ⟨_, rfl, cm_295 I.1 I.2.2.1.2.2.1 W.2.2 (fun _ => ⟨rfl, N, s, A, G, g, T, tb, I, W, by omega⟩) (fun i p1 p2 p3 p4 => (no i p1 p2 p3 p4).elim)⟩
  · intro i q1 q2 q3 q4 h1 F1 fr1 c40 g1
    have n : ∀ c, c < 40 ∨ 51 ≤ c → h1 c = h c := fun c hc => fr1 c (by simp; omega)
    have mi1 : zMI h1 N A G g T tb := I.2.2.1.kp fun c a b => n c (by omega)
    refine ⟨_, rfl, cm_295 F1 mi1.2.2.1 W.2.2 (fun no => (no i q1 q2 q3 q4).elim) (fun i' p1 p2 p3 p4 h2 F2 fr2 cs g2 => ⟨rfl, N, s, A, G + 1, _, T, tb, ⟨F2, (I.2.1.gt fr1 c40 g1).kp fr2 (by simp), mi1.gt (fr2.mono (by simp)) cs g2, ?_⟩, W.gt (Or.inl rfl) (fun z => absurd rfl z) (Or.inr (by show 0 ≤ a0; omega)), by omega⟩)⟩
    rw [fr2 0 (by decide), cs 21 (by decide), n 0 (by omega), n 108 (by omega)]
    exact I.2.2.2
end
