/-! CALLS THAT ONLY READ, THREE -/
theorem z4no {n o r r2 : Int} {a b u w : Nat} (q1 : 2 ≤ a ∧ a ≤ 7) (q2 : b < zfac a) (q3 : u < zTl a b) (q4 : w < zTl a b) (q5 : n = (a : Int)) (q6 : o = (b : Int)) (q7 : r = (u : Int)) (q8 : r2 = (w : Int)) : (((2 ≤ n ∧ n ≤ 7) ∧ 0 ≤ o ∧ o < zFc n) ∧ (0 ≤ r ∧ r < (zTl n.toNat o.toNat : Int)) ∧ 0 ≤ r2 ∧ r2 < (zTl n.toNat o.toNat : Int)) := by
  subst q5 q6 q7 q8
  rw [Int.toNat_natCast, Int.toNat_natCast]
  exact ⟨⟨by omega, by omega, zFc_c q2⟩, ⟨by omega, by omega⟩, by omega, by omega⟩
theorem z2no {n o : Int} {a b : Nat} (q1 : 2 ≤ a ∧ a ≤ 7) (q2 : b < zfac a) (q5 : n = (a : Int)) (q6 : o = (b : Int)) : (2 ≤ n ∧ n ≤ 7) ∧ 0 ≤ o ∧ o < zFc n := by
  subst q5 q6
  exact ⟨by omega, by omega, zFc_c q2⟩
theorem zop_177 {X : List Int} (k : Nat) : zOp_177 X (zInv k) (zInv (k + 1)) := by
  intro h J a0 a1 a2 a3 _ _ _ _
  obtain ⟨N, s, A, G, g, T, tb, I, W, hs⟩ := J
  have fin : ∀ h2, zIv h2 N s A G g T tb → zInv (k + 1) h2 := fun h2 i => ⟨N, s, A, G, g, T, tb, i, W, by omega⟩
  have hN := I.2.1.2.2.1.2.1
  refine cx_177 I.1 I.2.1.1 I.2.1.2.1 I.2.1.2.2.2.1 ?_ ?_ ?_
  · intro no h1 y1
    have i1 := I.gz y1
    refine ⟨_, rfl, cm_285 i1.1 i1.2.2.1.2.1 (fun _ h2 y2 => ⟨rfl, fin h2 (i1.yy y2)⟩) ?_ ?_⟩
    · intro a b u w p1 p2 p3 p4 p5 p6 p7 p8 p9 h2 y2
      exact absurd (z4no p1 p2 p3 p4 p5 p6 p7 p8) no
    · intro a b u w p1 p2 p3 p4 p5 p6 p7 p8 p9 h2 D2 H2 y2
      exact absurd (z4no p1 p2 p3 p4 p5 p6 p7 p8) no
  · intro a b u w q1 q2 q3 q4 q5 q6 q7 q8 q9 h1 y1
    have i1 := I.gz y1
    refine ⟨_, rfl, cm_285 i1.1 i1.2.2.1.2.1 (fun no => absurd (z4no q1 q2 q3 q4 q5 q6 q7 q8) no) ?_ ?_⟩
    · intro a' b' u' w' p1 p2 p3 p4 p5 p6 p7 p8 p9 h2 y2
      exact ⟨rfl, fin h2 (i1.yy y2)⟩
    · intro a' b' u' w' p1 p2 p3 p4 p5 p6 p7 p8 p9 h2 D2 H2 y2
      have e_a : a' = a := by omega
      subst e_a
      have e_b : b' = b := by omega
      subst e_b
      have e_u : u' = u := by omega
      subst e_u
      have e_w : w' = w := by omega
      subst e_w
      omega
  · intro a b u w q1 q2 q3 q4 q5 q6 q7 q8 q9 h1 D1 H1 y1
    have i1 := I.gz y1
    refine ⟨_, rfl, cm_285 i1.1 i1.2.2.1.2.1 (fun no => absurd (z4no q1 q2 q3 q4 q5 q6 q7 q8) no) ?_ ?_⟩
    · intro a' b' u' w' p1 p2 p3 p4 p5 p6 p7 p8 p9 h2 y2
      have e_a : a' = a := by omega
      subst e_a
      have e_b : b' = b := by omega
      subst e_b
      have e_u : u' = u := by omega
      subst e_u
      have e_w : w' = w := by omega
      subst e_w
      omega
    · intro a' b' u' w' p1 p2 p3 p4 p5 p6 p7 p8 p9 h2 D2 H2 y2
      have e_a : a' = a := by omega
      subst e_a
      have e_b : b' = b := by omega
      subst e_b
      have e_u : u' = u := by omega
      subst e_u
      have e_w : w' = w := by omega
      subst e_w
      exact ⟨by rw [zDs_one H2 H1 _ q4], fin h2 (i1.yy y2)⟩
theorem zop_178 {X : List Int} (k : Nat) : zOp_178 X (zInv k) (zInv (k + 1)) := by
  intro h J a0 a1 a2 a3 _ _ _ _
  obtain ⟨N, s, A, G, g, T, tb, I, W, hs⟩ := J
  have fin : ∀ h2, zIv h2 N s A G g T tb → zInv (k + 1) h2 := fun h2 i => ⟨N, s, A, G, g, T, tb, i, W, by omega⟩
  have hN := I.2.1.2.2.1.2.1
  refine cx_178 I.1 I.2.1.1 I.2.1.2.1 I.2.1.2.2.2.1 ?_ ?_ ?_
  · intro no h1 y1
    have i1 := I.gz y1
    refine ⟨_, rfl, cm_286 i1.1 i1.2.2.1.2.1 (fun _ h2 y2 => ⟨rfl, fin h2 (i1.yy y2)⟩) ?_ ?_⟩
    · intro a b u w p1 p2 p3 p4 p5 p6 p7 p8 p9 h2 y2
      exact absurd (z4no p1 p2 p3 p4 p5 p6 p7 p8) no
    · intro a b u w p1 p2 p3 p4 p5 p6 p7 p8 p9 h2 D2 H2 y2
      exact absurd (z4no p1 p2 p3 p4 p5 p6 p7 p8) no
  · intro a b u w q1 q2 q3 q4 q5 q6 q7 q8 q9 h1 y1
    have i1 := I.gz y1
    refine ⟨_, rfl, cm_286 i1.1 i1.2.2.1.2.1 (fun no => absurd (z4no q1 q2 q3 q4 q5 q6 q7 q8) no) ?_ ?_⟩
    · intro a' b' u' w' p1 p2 p3 p4 p5 p6 p7 p8 p9 h2 y2
      exact ⟨rfl, fin h2 (i1.yy y2)⟩
    · intro a' b' u' w' p1 p2 p3 p4 p5 p6 p7 p8 p9 h2 D2 H2 y2
      have e_a : a' = a := by omega
      subst e_a
      have e_b : b' = b := by omega
      subst e_b
      have e_u : u' = u := by omega
      subst e_u
      have e_w : w' = w := by omega
      subst e_w
      omega
  · intro a b u w q1 q2 q3 q4 q5 q6 q7 q8 q9 h1 D1 H1 y1
    have i1 := I.gz y1
    refine ⟨_, rfl, cm_286 i1.1 i1.2.2.1.2.1 (fun no => absurd (z4no q1 q2 q3 q4 q5 q6 q7 q8) no) ?_ ?_⟩
    · intro a' b' u' w' p1 p2 p3 p4 p5 p6 p7 p8 p9 h2 y2
      have e_a : a' = a := by omega
      subst e_a
      have e_b : b' = b := by omega
      subst e_b
      have e_u : u' = u := by omega
      subst e_u
      have e_w : w' = w := by omega
      subst e_w
      omega
    · intro a' b' u' w' p1 p2 p3 p4 p5 p6 p7 p8 p9 h2 D2 H2 y2
      have e_a : a' = a := by omega
      subst e_a
      have e_b : b' = b := by omega
      subst e_b
      have e_u : u' = u := by omega
      subst e_u
      have e_w : w' = w := by omega
      subst e_w
      exact ⟨by rw [zDs_one H2 H1 _ q4], fin h2 (i1.yy y2)⟩
theorem zop_179 {X : List Int} (k : Nat) : zOp_179 X (zInv k) (zInv (k + 1)) := by
  intro h J a0 a1 _ _
  obtain ⟨N, s, A, G, g, T, tb, I, W, hs⟩ := J
  have fin : ∀ h2, zIv h2 N s A G g T tb → zInv (k + 1) h2 := fun h2 i => ⟨N, s, A, G, g, T, tb, i, W, by omega⟩
  have hN := I.2.1.2.2.1.2.1
  refine cx_179 I.1 I.2.1.1 I.2.1.2.1 I.2.1.2.2.2.1 ?_ ?_ ?_
  · intro no
    refine ⟨_, rfl, cm_287 I.1 I.2.2.1.2.1 (fun _ => ⟨rfl, fin h I⟩) ?_ ?_⟩
    · intro a b p1 p2 p3 p4 p5 h2 y2
      exact absurd (z2no p1 p2 p3 p4) no
    · intro a b p1 p2 p3 p4 p5 h2 y2
      exact absurd (z2no p1 p2 p3 p4) no
  · intro a b q1 q2 q3 q4 q5 h1 y1
    have i1 := I.gz y1
    refine ⟨_, rfl, cm_287 i1.1 i1.2.2.1.2.1 (fun no => absurd (z2no q1 q2 q3 q4) no) ?_ ?_⟩
    · intro a' b' p1 p2 p3 p4 p5 h2 y2
      exact ⟨rfl, fin h2 (i1.yy y2)⟩
    · intro a' b' p1 p2 p3 p4 p5 h2 y2
      have e_a : a' = a := by omega
      subst e_a
      have e_b : b' = b := by omega
      subst e_b
      omega
  · intro a b q1 q2 q3 q4 q5 h1 y1
    have i1 := I.gz y1
    refine ⟨_, rfl, cm_287 i1.1 i1.2.2.1.2.1 (fun no => absurd (z2no q1 q2 q3 q4) no) ?_ ?_⟩
    · intro a' b' p1 p2 p3 p4 p5 h2 y2
      have e_a : a' = a := by omega
      subst e_a
      have e_b : b' = b := by omega
      subst e_b
      omega
    · intro a' b' p1 p2 p3 p4 p5 h2 y2
      have e_a : a' = a := by omega
      subst e_a
      have e_b : b' = b := by omega
      subst e_b
      exact ⟨rfl, fin h2 (i1.yy y2)⟩
theorem zop_195 {X : List Int} (k : Nat) : zOp_195 X (zInv k) (zInv (k + 1)) := by
  intro h J a0 _
  obtain ⟨N, s, A, G, g, T, tb, I, W, hs⟩ := J
  have fin : ∀ h2, zIv h2 N s A G g T tb → zInv (k + 1) h2 := fun h2 i => ⟨N, s, A, G, g, T, tb, i, W, by omega⟩
  have hN := I.2.1.2.2.1.2.1
  refine cx_195 I.1 I.2.1.2.2.1 ?_ ?_ ?_ ?_
  · intro no
    exact ⟨_, rfl, cm_317 I.1 I.2.2.1.1 (fun _ => ⟨rfl, fin h I⟩) (fun u p1 p2 p3 => by omega) (fun u p1 p2 p3 p4 => by omega) (fun u q p1 p2 p3 p4 p5 p6 => by omega)⟩
  · intro u q1 q2 q3
    refine ⟨_, rfl, cm_317 I.1 I.2.2.1.1 (fun no => by omega) (fun u' p1 p2 p3 => ⟨rfl, fin h I⟩) (fun u' p1 p2 p3 p4 => ?_) (fun u' q p1 p2 p3 p4 p5 p6 => ?_)⟩
    · have e : u' = u := by omega
      subst e
      omega
    · have e : u' = u := by omega
      subst e
      omega
  · intro u q1 q2 q3 q4 h1 y1
    have i1 := I.kp y1.1 y1.2 (by simp)
    refine ⟨_, rfl, cm_317 i1.1 i1.2.2.1.1 (fun no => by omega) (fun u' p1 p2 p3 => ?_) (fun u' p1 p2 p3 p4 => ⟨rfl, fin h1 i1⟩) (fun u' q p1 p2 p3 p4 p5 p6 => ?_)⟩
    · have e : u' = u := by omega
      subst e
      omega
    · have e : u' = u := by omega
      subst e
      have := q4 q p4
      rw [p5] at this
      cases this
  · intro u q q1 q2 q3 q4 q5 q6 h1 y1
    have i1 := I.kp y1.1 y1.2 (by simp)
    refine ⟨_, rfl, cm_317 i1.1 i1.2.2.1.1 (fun no => by omega) (fun u' p1 p2 p3 => ?_) (fun u' p1 p2 p3 p4 => ?_) (fun u' q' p1 p2 p3 p4 p5 p6 => ?_)⟩
    · have e : u' = u := by omega
      subst e
      omega
    · have e : u' = u := by omega
      subst e
      have := p4 q q4
      rw [q5] at this
      cases this
    · have e : u' = u := by omega
      subst e
      have e2 : q' = q := by
        rcases Nat.lt_trichotomy q' q with z | z | z
        · have := q6 q' z
          rw [p5] at this
          cases this
        · exact z
        · have := p6 q z
          rw [q5] at this
          cases this
      subst e2
      exact ⟨rfl, fin h1 i1⟩
theorem zop_198 {X : List Int} (k : Nat) : zOp_198 X (zInv k) (zInv (k + 1)) := by
  intro h J a0 _
  obtain ⟨N, s, A, G, g, T, tb, I, W, hs⟩ := J
  have fin : ∀ h2, zIv h2 N s A G g T tb → zInv (k + 1) h2 := fun h2 i => ⟨N, s, A, G, g, T, tb, i, W, by omega⟩
  have hN := I.2.1.2.2.1.2.1
  refine cx_198 I.1 I.2.1.2.2.1 ?_ ?_ ?_ ?_
  · intro no
    exact ⟨_, rfl, cm_324 I.1 I.2.2.1.1 (fun _ => ⟨rfl, fin h I⟩) (fun u p1 p2 p3 => by omega) (fun u p1 p2 p3 p4 => by omega) (fun u l p1 p2 p3 p4 p5 p6 => by omega)⟩
  · intro u q1 q2 q3
    refine ⟨_, rfl, cm_324 I.1 I.2.2.1.1 (fun no => by omega) (fun u' p1 p2 p3 => ⟨rfl, fin h I⟩) (fun u' p1 p2 p3 p4 => ?_) (fun u' l p1 p2 p3 p4 p5 p6 => ?_)⟩
    · have e : u' = u := by omega
      subst e
      omega
    · have e : u' = u := by omega
      subst e
      omega
  · intro u q1 q2 q3 q4
    refine ⟨_, rfl, cm_324 I.1 I.2.2.1.1 (fun no => by omega) (fun u' p1 p2 p3 => ?_) (fun u' p1 p2 p3 p4 => ⟨rfl, fin h I⟩) (fun u' l p1 p2 p3 p4 p5 p6 => ?_)⟩
    · have e : u' = u := by omega
      subst e
      omega
    · have e : u' = u := by omega
      subst e
      omega
  · intro u l q1 q2 q3 q4 q5 h1 y1 _ _ _
    have i1 := I.kp y1.1 y1.2 (by simp)
    refine ⟨_, rfl, cm_324 i1.1 i1.2.2.1.1 (fun no => by omega) (fun u' p1 p2 p3 => ?_) (fun u' p1 p2 p3 p4 => ?_) (fun u' l' p1 p2 p3 p4 p5 p6 h2 F2 fr2 => ?_)⟩
    · have e : u' = u := by omega
      subst e
      omega
    · have e : u' = u := by omega
      subst e
      omega
    · have e : u' = u := by omega
      subst e
      have e2 : l' = l := zbest_one (I.2.1.2.2.1.2.2.2.2.1 _ q1).1.1.2 p5 q5
      subst e2
      exact ⟨rfl, fin h2 (i1.kp F2 fr2 (by simp))⟩
theorem zop_199 {X : List Int} (k : Nat) : zOp_199 X (zInv k) (zInv (k + 1)) := by
  intro h J a0 a1 _ _
  obtain ⟨N, s, A, G, g, T, tb, I, W, hs⟩ := J
  have fin : ∀ h2, zIv h2 N s A G g T tb → zInv (k + 1) h2 := fun h2 i => ⟨N, s, A, G, g, T, tb, i, W, by omega⟩
  have hN := I.2.1.2.2.1.2.1
  refine cx_199 I.1 I.2.1.2.2.1 ?_ ?_ ?_ ?_ ?_
  · intro no
    exact ⟨_, rfl, cm_325 I.1 I.2.2.1.1 (fun _ => ⟨rfl, fin h I⟩) (fun u p1 p2 p3 => by omega) (fun u p1 p2 p3 p4 => by omega) (fun u l p1 p2 p3 p4 p5 p6 => by omega) (fun u l j p1 p2 p3 p4 p5 p6 p7 => by omega)⟩
  · intro u q1 q2 q3
    refine ⟨_, rfl, cm_325 I.1 I.2.2.1.1 (fun no => by omega) (fun u' p1 p2 p3 => ⟨rfl, fin h I⟩) (fun u' p1 p2 p3 p4 => ⟨rfl, fin h I⟩) (fun u' l p1 p2 p3 p4 p5 p6 h2 F2 fr2 => ⟨rfl, fin h2 (I.kp F2 fr2 (by simp))⟩) (fun u' l j p1 p2 p3 p4 p5 p6 p7 => ?_)⟩
    · have e : u' = u := by omega
      subst e
      omega
  · intro u q1 q2 q3 q4
    refine ⟨_, rfl, cm_325 I.1 I.2.2.1.1 (fun no => by omega) (fun u' p1 p2 p3 => ⟨rfl, fin h I⟩) (fun u' p1 p2 p3 p4 => ⟨rfl, fin h I⟩) (fun u' l p1 p2 p3 p4 p5 p6 h2 F2 fr2 => ⟨rfl, fin h2 (I.kp F2 fr2 (by simp))⟩) (fun u' l j p1 p2 p3 p4 p5 p6 p7 => ?_)⟩
    · have e : u' = u := by omega
      subst e
      omega
  · intro u l q1 q2 q3 q4 q5 q6 h1 y1
    have i1 := I.kp y1.1 y1.2 (by simp)
    refine ⟨_, rfl, cm_325 i1.1 i1.2.2.1.1 (fun no => by omega) (fun u' p1 p2 p3 => ⟨rfl, fin h1 i1⟩) (fun u' p1 p2 p3 p4 => ⟨rfl, fin h1 i1⟩) (fun u' l p1 p2 p3 p4 p5 p6 h2 F2 fr2 => ⟨rfl, fin h2 (i1.kp F2 fr2 (by simp))⟩) (fun u' l' j p1 p2 p3 p4 p5 p6 p7 => ?_)⟩
    · have e : u' = u := by omega
      subst e
      have e2 : l' = l := zbest_one (I.2.1.2.2.1.2.2.2.2.1 _ q1).1.1.2 p5 q5
      subst e2
      omega
  · intro u l j q1 q2 q3 q4 q5 q6 q7 h1 y1
    have i1 := I.kp y1.1 y1.2 (by simp)
    refine ⟨_, rfl, cm_325 i1.1 i1.2.2.1.1 (fun no => by omega) (fun u' p1 p2 p3 => ?_) (fun u' p1 p2 p3 p4 => ?_) (fun u' l' p1 p2 p3 p4 p5 p6 h2 F2 fr2 => ?_) (fun u' l' j' p1 p2 p3 p4 p5 p6 p7 h2 F2 fr2 => ?_)⟩
    · have e : u' = u := by omega
      subst e
      omega
    · have e : u' = u := by omega
      subst e
      omega
    · have e : u' = u := by omega
      subst e
      have e2 : l' = l := zbest_one (I.2.1.2.2.1.2.2.2.2.1 _ q1).1.1.2 p5 q5
      subst e2
      omega
    · have e : u' = u := by omega
      subst e
      have e2 : l' = l := zbest_one (I.2.1.2.2.1.2.2.2.2.1 _ q1).1.1.2 p5 q5
      subst e2
      have e3 : j' = j := by omega
      subst e3
      exact ⟨rfl, fin h2 (i1.kp F2 fr2 (by simp))⟩
theorem zop_161 {X : List Int} (k : Nat) : zOp_161 X (zInv k) (zInv (k + 1)) := by
  intro h J
  obtain ⟨N, s, A, G, g, T, tb, I, W, hs⟩ := J
  have fin : ∀ h2, zIv h2 N s A G g T tb → zInv (k + 1) h2 := fun h2 i => ⟨N, s, A, G, g, T, tb, i, W, by omega⟩
  have hN := I.2.1.2.2.1.2.1
  exact sg_161_0 ⟨rfl, _, rfl, sg_240_0 ⟨rfl, by rw [I.2.2.2], fin h I⟩⟩
theorem zop_201 {X : List Int} (k : Nat) : zOp_201 X (zInv k) (zInv (k + 1)) := by
  intro h J a0 _
  obtain ⟨N, s, A, G, g, T, tb, I, W, hs⟩ := J
  have fin : ∀ h2, zIv h2 N s A G g T tb → zInv (k + 1) h2 := fun h2 i => ⟨N, s, A, G, g, T, tb, i, W, by omega⟩
  have hN := I.2.1.2.2.1.2.1
  refine cx_201 I.1 ⟨_, rfl, cm_327 ⟨?_, fin h I⟩⟩
  rw [I.2.1.2.2.1.1, I.2.2.1.1.1, I.2.1.2.2.2.2.2.2.2.2.1.1, I.2.2.1.2.2.1.1, I.2.1.2.2.2.2.2.2.2.2.2.1.1, I.2.2.1.2.2.2.1]
