/-! THE CLASS: WAYS THAT FIT THE LOGS -/
theorem zFin.fill {h : zHP} {a n : Nat} {v : Int} (F : zFin h) (ha : zfinA a = true) : zFin (zfill h a n v) := by
  intro q hq
  unfold zfill
  have h5 : ¬ q.1 = a := fun z => by
    have := List.all_eq_true.mp ha q hq
    rw [z, Nat.beq_refl] at this
    cases this
  rw [if_neg h5]
  exact F q hq
theorem zfr.fill {W : List Nat} {h h1 : zHP} {a n : Nat} {v : Int} (q : zfr W h h1) (ha : a ∈ W) : zfr W h (zfill h1 a n v) := by
  intro c hc
  funext l
  unfold zfill
  have hn : ¬ c = a := fun z => hc (by rw [z]; exact ha)
  rw [if_neg hn, q c hc]
theorem zfill_eq {h : zHP} {a n k : Nat} {v : Int} (hk : k < n) : zfill h a n v a k = v := by
  unfold zfill
  rw [if_pos rfl, if_pos hk]
theorem zOB.fr {h h' : zHP} {o r3 r4 n c : Nat} {E W : Nat → Nat} (B : zOB h o r3 r4 n c E W) (e0 : h' o = h o) (e3 : h' r3 = h r3) (e4 : h' r4 = h r4) (e5 : h' (o + 5) = h (o + 5)) : zOB h' o r3 r4 n c E W := by
  unfold zOB
  rw [e0, e3, e4, e5]
  exact B
theorem zCS.fr {h h' : zHP} {N s : Nat} {A : Nat → Nat × Nat × zel} (S : zCS h N s A) (f0 : h' 0 12 = h 0 12) (f1 : h' 0 13 = h 0 13) (f5 : h' 5 = h 5) (r : h 1 1 ≤ h' 1 1) (f : ∀ t, t < N → h' (6 + 3 * t) = h (6 + 3 * t) ∧ h' (6 + 3 * t + 1) = h (6 + 3 * t + 1)) : zCS h' N s A := by
  obtain ⟨s1, s2, s3, s4, s5, s6⟩ := S
  refine ⟨f0.trans s1, s2, f1.trans s3, fun t ht => by rw [f5]; exact s4 t ht, fun t ht => ?_, fun t u ht hu e => ?_⟩
  · obtain ⟨a, b, c, d, e⟩ := s5 t ht
    refine ⟨a, ?_, Int.le_trans c r, by rw [(f t ht).1]; exact d, by rw [(f t ht).1]; exact e⟩
    unfold zLC
    rw [(f t ht).1, (f t ht).2]
    exact b
  · rw [(f t ht).1, (f u hu).1] at e
    exact s6 t u ht hu e
theorem zOR.fr {h h' : zHP} {o : Nat} (R : zOR h o) (f : h' o = h o) : zOR h' o := by
  unfold zOR
  rw [f]
  exact R
theorem zOC.fr {h h' : zHP} {o n m o0 : Nat} {e : zel} (C : zOC h o n m e o0) (f : ∀ c, o ≤ c → c ≤ o + 5 → h' c = h c) : zOC h' o n m e o0 := by
  obtain ⟨r1, r2, r3, r4, c, E, W, hD, f1, f2, f3, f4, B, w, h8, hs⟩ := C
  have e0 := f o (by omega) (by omega)
  refine ⟨r1, r2, r3, r4, c, E, W, hD, by rw [e0]; exact f1, by rw [e0]; exact f2, by rw [e0]; exact f3, by rw [e0]; exact f4, B.fr e0 (f r3 ?_ ?_) (f r4 ?_ ?_) (f _ (by omega) (by omega)), w, by rw [e0]; exact h8, hs⟩ <;> (unfold zDis at hD; omega)
theorem zQV.fr {h h' : zHP} {o N s : Nat} {A : Nat → Nat × Nat × zel} (V : zQV h o N s A) (f : ∀ c, o ≤ c → c ≤ o + 5 → h' c = h c) (f2 : ∀ u, u < N → h' (6 + 3 * u) 5 = h (6 + 3 * u) 5) : zQV h' o N s A := by
  obtain ⟨R, b, V⟩ := V
  have e0 := f o (by omega) (by omega)
  refine ⟨R.fr e0, by rw [e0]; exact b, fun u hu o0 ho a c => ?_⟩
  rw [f2 u hu, e0] at a
  rw [e0] at c
  exact (V u hu o0 ho a c).fr f
theorem zGC.fr {h h' : zHP} {G : Nat} {g : Nat → Int × Int × Int × Int} (g0 : zGC h G g) (e9 : h' 40 9 = h 40 9) (f : ∀ c, 47 ≤ c → c ≤ 50 → h' c = h c) : zGC h' G g := by
  obtain ⟨a, b, c⟩ := g0
  refine ⟨by rw [e9]; exact a, b, fun i hi => ?_⟩
  rw [f 47 (by decide) (by decide), f 48 (by decide) (by decide), f 49 (by decide) (by decide), f 50 (by decide) (by decide)]
  exact c i hi
noncomputable def zfi (n : Nat) (g : Nat → Int × Int × Int × Int) (t : Int) (j v q w x : Nat) : Nat := @ite Nat (zfit n g t w j ∧ q < n ∧ zr n w q = v) (Classical.propDecidable _) x 0
theorem zfi_no {n : Nat} {g : Nat → Int × Int × Int × Int} {t : Int} {j v q w x : Nat} (c : ¬ zfit n g t w j) : zfi n g t j v q w x = 0 := by
  unfold zfi
  rw [if_neg (fun z => c z.1)]
theorem zfi_yes {n : Nat} {g : Nat → Int × Int × Int × Int} {t : Int} {j v q w x : Nat} (c : zfit n g t w j) : zfi n g t j v q w x = if q < n ∧ zr n w q = v then x else 0 := by
  unfold zfi
  by_cases d : q < n ∧ zr n w q = v
  · rw [if_pos ⟨c, d⟩, if_pos d]
  · rw [if_neg (fun z => d z.2), if_neg d]
theorem zfi_le {n : Nat} {g : Nat → Int × Int × Int × Int} {t : Int} {j v q w x : Nat} : zfi n g t j v q w x ≤ x := by
  unfold zfi
  split
  · exact Nat.le_refl _
  · exact Nat.zero_le _
/-- the ways that fit and bring v to leg q, in a room of 7 times 7 -/
def zfq (n : Nat) (W : Nat → Nat) (v q : Nat) : Nat := if v < n ∧ q < n then zlk n W v q else 0
theorem zfq_end {n m j v q c : Nat} {e : zel} {g : Nat → Int × Int × Int × Int} {t : Int} {E W : Nat → Nat} (hE : ∀ i, i < c → E i < zfac n) (hW : ∀ u, u < zfac n → zwt E W c u = zww n e 0 m u) : zsu (fun i => zfi n g t j v q (E i) (W i)) c = zfq n (zfw n e m g t j) v q := by
  have a1 := @zwt_fold E W (zww n e 0 m) c (zfac n) (fun w => zfit n g t w j ∧ q < n ∧ zr n w q = v) (fun w => Classical.propDecidable _) hE (fun u hu => (hW u hu).symm)
  refine Eq.trans (show _ = _ from a1) ?_
  unfold zfq
  by_cases c1 : v < n ∧ q < n
  · rw [if_pos c1]
    unfold zlk
    refine zsu_congr fun u hu => ?_
    have i1 : zr n u q = v ↔ zp n u v = q := ⟨fun e => zp_eq hu c1.2 e, fun e => by rw [← e]; exact zr_p hu c1.1⟩
    unfold zfw
    by_cases c2 : zp n u v = q
    · rw [if_pos c2]
      by_cases c3 : zfit n g t u j
      · rw [if_pos ⟨c3, c1.2, i1.mpr c2⟩, if_pos c3]
      · rw [if_neg (fun z => c3 z.1), if_neg c3]
    · rw [if_neg c2, if_neg (fun z => c2 (i1.mp z.2.2))]
  · rw [if_neg c1]
    refine Eq.trans (zsu_congr (g := fun _ => 0) fun u hu => ?_) (zsu_0 _)
    refine if_neg fun z => c1 ⟨?_, z.2.1⟩
    rw [← z.2.2]
    exact zr_lt7 hu z.2.1
/-- what the book keeps of its last weighing -/
def zBV (h : zHP) (N s : Nat) (A : Nat → Nat × Nat × zel) (G : Nat) (g : Nat → Int × Int × Int × Int) : Prop := h 40 10 ≤ (s : Int) ∧ ∀ u, u < N → h (6 + 3 * u) 5 = h 40 10 → ∃ j : Nat, j ≤ G ∧ h 40 11 = (j : Int) ∧ ∀ v q, v < 7 → q < 7 → h 53 (7 * v + q) = (zfq (A u).1 (zfw (A u).1 (A u).2.2 (A u).2.1 g (u : Int) j) v q : Int)
section
variable {X : List Int} {h : zHP} {K : Option zAV → zHP → Prop} {N s G : Nat} {A : Nat → Nat × Nat × zel} {g : Nat → Int × Int × Int × Int}
/-- weigh -/
theorem cx_48 {u j : Nat} {t y : Int} (F : zFin h) (T : zOT h) (S : zCS h N s A) (V : zQV h 41 N s A) (g0 : zGC h G g) (GV : zGV N A G g) (GW : ∀ i, i < G → (g i).1 ≠ -1 → (g i).2.2.2 = -1) (B : zBV h N s A G g) (hu : u < N) (ht : t = (u : Int)) (hj : j ≤ G) (hy : y = (j : Int))
    (k : ∀ h', zFin h' → zfr [40, 41, 42, 43, 44, 45, 46, 51, 52, 53] h h' → (∀ i, i ≠ 10 → i ≠ 11 → h' 40 i = h 40 i) → zQV h' 41 N s A → zBV h' N s A G g → (∀ v q, v < 7 → q < 7 → h' 53 (7 * v + q) = (zfq (A u).1 (zfw (A u).1 (A u).2.2 (A u).2.1 g t j) v q : Int)) → K none h') : zC X 48 [zR 40, zI t, zR (6 + 3 * u), zI y] h K := by
  have S' := S
  obtain ⟨s1, s2, s3, s4, s5, s6⟩ := S
  obtain ⟨hl, L, hr, st1, st2⟩ := s5 u hu
  have hpu := zLadT (t := u) (by omega)
  have hn := hl.1
  have h5 := zfac7 hn.2
  have W0 : ∀ c, c ∈ [40, 41, 42, 43, 44, 45, 46, 51, 52, 53] → 40 ≤ c := fun c hc => by
    simp only [List.mem_cons, List.not_mem_nil, or_false] at hc
    omega
  have V0 : ∀ i, i < G → (g i).1 = t → (g i).2.2.2 = -1 ∧ 0 ≤ (g i).2.1 ∧ (g i).2.1 < ((A u).1 : Int) ∧ 0 ≤ (g i).2.2.1 ∧ (g i).2.2.1 < ((A u).1 : Int) := fun i hi e => by
    refine ⟨GW i hi (by omega), ?_⟩
    rcases GV i hi with z | ⟨u2, a1, a2, a3⟩
    · omega
    · have : u2 = u := by omega
      rw [this] at a3
      exact a3
  have V1 : ∀ i, i < G → (g i).1 = t → (g i).2.2.2 = -1 ∧ 0 ≤ (g i).2.1 ∧ (g i).2.1 < 7 ∧ 0 ≤ (g i).2.2.1 := fun i hi e => by
    obtain ⟨b1, b2, b3, b4, b5⟩ := V0 i hi e
    exact ⟨b1, b2, by omega, b4⟩
  have new : zC X 338 [zR 53, zL 0] (zup (zup h 40 10 (h (6 + 3 * u) 5)) 40 11 y) (fun v h9 => zAt X 48 41 0 0 [some (zR 40), some (zI t), some (zR (6 + 3 * u)), some (zI y), none, none] (zpush v []) zSHc h9 (fun v sh' h' => sh' = zSHc ∧ K v h')) := by
    refine zp_fillL (n := 49) (by decide) rfl (by decide) (sg_48_41c ?_)
    generalize hH : zfill (zup (zup h 40 10 (h (6 + 3 * u) 5)) 40 11 y) 53 49 0 = h1
    have F1 : zFin h1 := by
      rw [← hH]
      exact ((F.up (by decide)).up (by decide)).fill zfa_53
    have fr1 : zfr [40, 53] h h1 := by
      rw [← hH]
      exact (((zfr.rfl).up (by simp)).up (by simp)).fill (by simp)
    have e10 : h1 40 10 = h (6 + 3 * u) 5 := by
      rw [← hH]
      unfold zfill
      rw [if_neg (by decide), zup_k (by decide), zup_eq]
    have e11 : h1 40 11 = y := by
      rw [← hH]
      unfold zfill
      rw [if_neg (by decide), zup_eq]
    have e40 : ∀ i, i ≠ 10 → i ≠ 11 → h1 40 i = h 40 i := fun i a b => by
      rw [← hH]
      unfold zfill
      rw [if_neg (by decide), zup_k b, zup_k a]
    have e53 : ∀ i, i < 49 → h1 53 i = 0 := fun i hi => by
      rw [← hH]
      exact zfill_eq hi
    clear hH
    have g1 : zGC h1 G g := g0.fr (e40 9 (by decide) (by decide)) fun c a b => fr1 c (by simp; omega)
    refine cx_49 F1 g1 V1 hj hy fun h2 F2 fr2 W2 => sg_48_47c F2 ?_
    have q1 : ∀ c, c ≠ 40 → c ≠ 51 → c ≠ 53 → h2 c = h c := fun c a b d => (fr2 c (by simp; exact b)).trans (fr1 c (by simp; exact ⟨a, d⟩))
    have q40 : h2 40 = h1 40 := fr2 40 (by decide)
    have T2 : zOT h2 := T.fr (q1 1 (by decide) (by decide) (by decide)) (q1 2 (by decide) (by decide) (by decide))
    have S2 : zCS h2 N s A := S'.fr (by rw [q1 0 (by decide) (by decide) (by decide)]) (by rw [q1 0 (by decide) (by decide) (by decide)]) (q1 5 (by decide) (by decide) (by decide)) (by rw [q1 1 (by decide) (by decide) (by decide)]; exact Int.le_refl _) fun t ht => ⟨q1 _ (by omega) (by omega) (by omega), q1 _ (by omega) (by omega) (by omega)⟩
    have V2 : zQV h2 41 N s A := V.fr (fun c a b => q1 c (by omega) (by omega) (by omega)) fun t ht => by rw [q1 _ (by omega) (by omega) (by omega)]
    refine cx_68q F2 T2 S2 (Or.inr rfl) V2 hu (zfac_pos _) fun h3 F3 fr3 V3 C => sg_48_56c ?_
    have p1 : ∀ c, c < 41 ∨ 46 < c → h3 c = h2 c := fun c a => fr3 c (by simp; omega)
    have p40 : h3 40 = h1 40 := (p1 40 (by decide)).trans q40
    obtain ⟨r1, r2, r3, r4, c, E, W, hD, f1, f2, f3, f4, OB, hW, h8, hs⟩ := C
    have w1 := zways_b hl (Nat.le_refl (A u).2.1)
    have r34 : (r3 = 42 ∨ r3 = 44) ∧ (r4 = 43 ∨ r4 = 45) := by unfold zDis at hD; omega
    have c5 := OB.le
    have loop : ∀ (r i : Nat) (h4 : zHP) (z : Int), c - i = r → i ≤ c → z = (i : Int) → zFin h4 → zfr [52, 53] h3 h4 → (∀ v q, v < 7 → q < 7 → h4 53 (7 * v + q) = (zsu (fun a => zfi (A u).1 g t j v q (E a) (W a)) i : Int)) → zAt X 48 59 0 0 [some (zR 40), none, some (zR (6 + 3 * u)), none, some (zI z), none] [] zSHc h4 (fun v sh' h' => sh' = zSHc ∧ K v h') := by
      intro r
      induction r with
      | zero =>
        intro i h4 z hr2 hi hz F4 fr4 C4
        have ei : i = c := by omega
        subst ei
        have n1 : ∀ c, c ≠ 52 → c ≠ 53 → h4 c = h3 c := fun c a b => fr4 c (by simp; exact ⟨a, b⟩)
        have n40 : h4 40 = h1 40 := (n1 40 (by decide) (by decide)).trans p40
        have n7 : h4 41 7 = (i : Int) := by rw [n1 41 (by decide) (by decide)]; exact OB.1
        have nl : ∀ c, c < 40 → h4 c = h c := fun c a => (n1 c (by omega) (by omega)).trans ((p1 c (by omega)).trans (q1 c (by omega) (by omega) (by omega)))
        have val : ∀ v q, v < 7 → q < 7 → h4 53 (7 * v + q) = (zfq (A u).1 (zfw (A u).1 (A u).2.2 (A u).2.1 g t j) v q : Int) := fun v q hv hq => by
          rw [C4 v q hv hq, zfq_end (fun a ha => (OB.2.1 a ha).1.1) hW]
        have kk := k h4 F4 (fun c hc => by
          have hc' : c ≠ 40 ∧ c ≠ 41 ∧ c ≠ 42 ∧ c ≠ 43 ∧ c ≠ 44 ∧ c ≠ 45 ∧ c ≠ 46 ∧ c ≠ 51 ∧ c ≠ 52 ∧ c ≠ 53 := by simpa using hc
          exact (n1 c (by omega) (by omega)).trans ((p1 c (by omega)).trans (q1 c (by omega) (by omega) (by omega)))) (fun a b d => by rw [n40]; exact e40 a b d) (V3.fr (fun c a b => n1 c (by omega) (by omega)) fun t ht => by rw [n1 _ (by omega) (by omega)]) ⟨by rw [n40, e10]; exact st2, fun u2 hu2 e2 => by
            rw [nl _ (by omega), n40, e10] at e2
            have := s6 u2 u hu2 hu e2
            subst this
            exact ⟨j, hj, by rw [n40, e11]; exact hy, by rw [← ht]; exact val⟩⟩ val
        exact sg_48_59 F4 (sg_72_0 (Or.inr rfl) ⟨rfl, sg_48_68c F4 (fun _ => ⟨rfl, kk⟩) (fun d => by omega)⟩)
      | succ r ih =>
        intro i h4 z hr2 hi hz F4 fr4 C4
        have hi' : i < c := by omega
        have n1 : ∀ c, c ≠ 52 → c ≠ 53 → h4 c = h3 c := fun c a b => fr4 c (by simp; exact ⟨a, b⟩)
        have n7 : h4 41 7 = (c : Int) := by rw [n1 41 (by decide) (by decide)]; exact OB.1
        have ho := (OB.2.1 i hi').1.1
        have OB4 : zOB h4 41 r3 r4 (A u).1 c E W := OB.fr (n1 41 (by decide) (by decide)) (n1 _ (by omega) (by omega)) (n1 _ (by omega) (by omega)) (n1 _ (by decide) (by decide))
        have eN : h4 (6 + 3 * u) 2 = ((A u).1 : Int) := by rw [n1 _ (by omega) (by omega), p1 _ (by omega), q1 _ (by omega) (by omega) (by omega)]; exact L.1
        refine sg_48_59 F4 (sg_72_0 (Or.inr rfl) ⟨rfl, sg_48_68c F4 (fun d => by omega) (fun d => ?_)⟩)
        refine cx_73 F4 (Or.inr rfl) hD (by rw [n1 41 (by decide) (by decide)]; exact f3) OB4 hn.2 hi' hz (sg_48_80c hpu ?_)
        refine cx_51 F4 hn.2 ho eN rfl fun h5 F5 fr5 R5 => sg_48_92c hpu ?_
        have m1 : ∀ c, c ≠ 52 → h5 c = h4 c := fun c a => fr5 c (by simp; exact a)
        have eN5 : h5 (6 + 3 * u) 2 = ((A u).1 : Int) := by rw [m1 _ (by omega)]; exact eN
        have e51 : h5 51 = h2 51 := (m1 51 (by decide)).trans ((n1 51 (by decide) (by decide)).trans (p1 51 (by decide)))
        have FR5 : zfr [52, 53] h3 h5 := fr4.trans (fr5.mono (by simp))
        have fit := zwn_fit (n := (A u).1) (o := E i) (j := j) (g := g) (t := t) (w := h5 51) hn.2 ho (fun v hv => by rw [e51]; exact W2 v hv) (fun i hi e => (V0 i (by omega) e).2)
        refine cx_52 F5 hn.2 ho eN5 R5 (fun yes => ?_) (fun no => ?_)
        · have yes := fit.mp yes
          refine sg_48_100c F5 hpu (fun a => absurd a (by decide)) (fun a => absurd a (by decide)) (fun _ => ?_)
          have OB5 : zOB h5 41 r3 r4 (A u).1 c E W := OB4.fr (m1 41 (by decide)) (m1 _ (by omega)) (m1 _ (by omega)) (m1 _ (by decide))
          refine cx_74 F5 (Or.inr rfl) hD (by rw [m1 41 (by decide), n1 41 (by decide) (by decide)]; exact f4) OB5 hn.2 ho (sg_48_117c ?_)
          have ew := zwt_at hi' OB.2.2.1 (W := W)
          rw [ew]
          have b1 : ∀ v q, zsu (fun a => zfi (A u).1 g t j v q (E a) (W a)) i ≤ zsu W i := fun v q => zsu_mono fun a _ => zfi_le
          have b2 : zsu W (i + 1) ≤ zsu W c := zsu_up hi'
          have b3 : zsu W (i + 1) = zsu W i + W i := rfl
          refine cx_53 (f := fun v q => zsu (fun a => zfi (A u).1 g t j v q (E a) (W a)) i) F5 hn.2 ho eN5 rfl R5 (fun v q hv hq => by rw [m1 53 (by decide)]; exact C4 v q hv hq) (fun v q _ _ => by have := b1 v q; show zsu _ i + W i ≤ _; omega) fun h6 F6 fr6 C6 => sg_48_120c (by omega) ?_
          refine ih (i + 1) h6 _ (by omega) (by omega) (by omega) F6 (FR5.trans (fr6.mono (by simp))) fun v q hv hq => ?_
          rw [C6 v q hv hq]
          show _ = ((zsu (fun a => zfi (A u).1 g t j v q (E a) (W a)) i + zfi (A u).1 g t j v q (E i) (W i) : Nat) : Int)
          rw [zfi_yes yes]
        · have no : ¬ zfit (A u).1 g t (E i) j := fun z => no (fit.mpr z)
          refine sg_48_100c F5 hpu (fun _ => by omega) (fun _ => ?_) (fun a => absurd rfl a)
          refine ih (i + 1) h5 _ (by omega) (by omega) (by omega) F5 FR5 fun v q hv hq => ?_
          rw [m1 53 (by decide), C4 v q hv hq]
          show _ = ((zsu (fun a => zfi (A u).1 g t j v q (E a) (W a)) i + zfi (A u).1 g t j v q (E i) (W i) : Nat) : Int)
          rw [zfi_no no]
          rfl
    refine loop c 0 h3 0 (by omega) (by omega) rfl F3 zfr.rfl fun v q hv hq => ?_
    rw [p1 53 (by decide), fr2 53 (by decide)]
    exact e53 _ (by omega)
  have nx2 : h (6 + 3 * u) 5 = h 40 10 → y = h 40 11 → zSHc = zSHc ∧ K none h := fun a b => by
    obtain ⟨j2, b1, b2, b3⟩ := B.2 u hu a
    have ej : j2 = j := by omega
    rw [ej, ← ht] at b3
    exact ⟨rfl, k h F zfr.rfl (fun _ _ _ => rfl) V B b3⟩
  exact sg_48_0 F hpu (fun _ => new) (fun _ _ => new) nx2
end
