/-! CALLS THAT ONLY READ, TWO -/
theorem zFc_n {n : Nat} {o : Int} (h0 : 0 ≤ o) (h : o < zFc (n : Int)) : o.toNat < zfac n := by
  have h : o < (zfac ((n : Int)).toNat : Int) := h
  rw [Int.toNat_natCast] at h
  omega
theorem zop_186 {X : List Int} (k : Nat) : zOp_186 X (zInv k) (zInv (k + 1)) := by
  intro h J a0 a1 _ _
  obtain ⟨N, s, A, G, g, T, tb, I, W, hs⟩ := J
  have fin : ∀ h2, zIv h2 N s A G g T tb → zInv (k + 1) h2 := fun h2 i => ⟨N, s, A, G, g, T, tb, i, W, by omega⟩
  have hN := I.2.1.2.2.1.2.1
  refine cx_186 I.1 I.2.1.1 I.2.1.2.2.1 I.2.1.2.2.2.2.2.1 I.2.1.2.2.2.2.2.2.2.2.1 W.1 W.2.1 I.2.1.2.2.2.2.2.2.2.1 ?_ ?_
  · intro no 
    have i1 : zIv h N s A G g T tb := I
    refine ⟨_, rfl, cm_300 i1.1 i1.2.2.1.1 i1.2.2.1.2.1 i1.2.2.1.2.2.1 W.1 ?_ ?_⟩
    · intro no' 
      exact ⟨rfl, fin h i1⟩
    · intro u' p1 p2 p3 p4 h2 y2
      exfalso
      first | omega | contradiction | exact no u' p1 p2 p3 p4
  · intro u q1 q2 q3 q4 h1 y1
    have i1 : zIv h1 N s A G g T tb := I.wy y1
    refine ⟨_, rfl, cm_300 i1.1 i1.2.2.1.1 i1.2.2.1.2.1 i1.2.2.1.2.2.1 W.1 ?_ ?_⟩
    · intro no' 
      exfalso
      first | omega | contradiction | exact no' u q1 q2 q3 q4
    · intro u' p1 p2 p3 p4 h2 y2
      have e_u : u' = u := by omega
      subst e_u
      exact ⟨rfl, fin h2 (i1.lz y2)⟩
theorem zop_187 {X : List Int} (k : Nat) : zOp_187 X (zInv k) (zInv (k + 1)) := by
  intro h J a0 a1 a2 a3 _ _ _ _
  obtain ⟨N, s, A, G, g, T, tb, I, W, hs⟩ := J
  have fin : ∀ h2, zIv h2 N s A G g T tb → zInv (k + 1) h2 := fun h2 i => ⟨N, s, A, G, g, T, tb, i, W, by omega⟩
  have hN := I.2.1.2.2.1.2.1
  refine cx_187 I.1 I.2.1.1 I.2.1.2.2.1 I.2.1.2.2.2.2.2.1 I.2.1.2.2.2.2.2.2.2.2.1 W.1 W.2.1 I.2.1.2.2.2.2.2.2.2.1 ?_ ?_
  · intro no 
    have i1 : zIv h N s A G g T tb := I
    refine ⟨_, rfl, cm_302 i1.1 i1.2.2.1.1 i1.2.2.1.2.1 i1.2.2.1.2.2.1 W.1 ?_ ?_⟩
    · intro no' 
      exact ⟨rfl, fin h i1⟩
    · intro u' p1 p2 p3 p4 p5 p6 p7 p8 h2 y2
      exfalso
      first | omega | contradiction | exact no u' p1 p2 p3 p4 p5 p6 p7 p8
  · intro u q1 q2 q3 q4 q5 q6 q7 q8 h1 y1
    have i1 : zIv h1 N s A G g T tb := I.wy y1
    refine ⟨_, rfl, cm_302 i1.1 i1.2.2.1.1 i1.2.2.1.2.1 i1.2.2.1.2.2.1 W.1 ?_ ?_⟩
    · intro no' 
      exfalso
      first | omega | contradiction | exact no' u q1 q2 q3 q4 q5 q6 q7 q8
    · intro u' p1 p2 p3 p4 p5 p6 p7 p8 h2 y2
      have e_u : u' = u := by omega
      subst e_u
      exact ⟨rfl, fin h2 (i1.lz y2)⟩
theorem zop_188 {X : List Int} (k : Nat) : zOp_188 X (zInv k) (zInv (k + 1)) := by
  intro h J a0 a1 _ _
  obtain ⟨N, s, A, G, g, T, tb, I, W, hs⟩ := J
  have fin : ∀ h2, zIv h2 N s A G g T tb → zInv (k + 1) h2 := fun h2 i => ⟨N, s, A, G, g, T, tb, i, W, by omega⟩
  have hN := I.2.1.2.2.1.2.1
  refine cx_188 I.1 I.2.1.1 I.2.1.2.2.1 I.2.1.2.2.2.2.2.1 I.2.1.2.2.2.2.2.2.2.2.1 W.1 W.2.1 I.2.1.2.2.2.2.2.2.2.1 ?_ ?_
  · intro no 
    have i1 : zIv h N s A G g T tb := I
    refine ⟨_, rfl, cm_303 i1.1 i1.2.2.1.1 i1.2.2.1.2.1 i1.2.2.1.2.2.1 W.1 ?_ ?_⟩
    · intro no' 
      exact ⟨rfl, fin h i1⟩
    · intro u' p1 p2 p3 p4 h2 y2
      exfalso
      first | omega | contradiction | exact no u' p1 p2 p3 p4
  · intro u q1 q2 q3 q4 h1 y1
    have i1 : zIv h1 N s A G g T tb := I.wy y1
    refine ⟨_, rfl, cm_303 i1.1 i1.2.2.1.1 i1.2.2.1.2.1 i1.2.2.1.2.2.1 W.1 ?_ ?_⟩
    · intro no' 
      exfalso
      first | omega | contradiction | exact no' u q1 q2 q3 q4
    · intro u' p1 p2 p3 p4 h2 y2
      have e_u : u' = u := by omega
      subst e_u
      exact ⟨rfl, fin h2 (i1.lz y2)⟩
theorem zop_189 {X : List Int} (k : Nat) : zOp_189 X (zInv k) (zInv (k + 1)) := by
  intro h J a0 a1 a2 _ _ _
  obtain ⟨N, s, A, G, g, T, tb, I, W, hs⟩ := J
  have fin : ∀ h2, zIv h2 N s A G g T tb → zInv (k + 1) h2 := fun h2 i => ⟨N, s, A, G, g, T, tb, i, W, by omega⟩
  have hN := I.2.1.2.2.1.2.1
  refine cx_189 I.1 I.2.1.2.2.1 ?_ ?_ ?_
  · intro no 
    have i1 : zIv h N s A G g T tb := I
    refine ⟨_, rfl, cm_306 i1.1 i1.2.2.1.1 ?_ ?_ ?_⟩
    · intro no' 
      exact ⟨rfl, fin h i1⟩
    · intro u' p1 p2 p3 p4 p5 p6 p7 
      exfalso
      first | omega | contradiction | exact no u' p1 p2 p3 p4 p5 p6
    · intro u' p1 p2 p3 p4 p5 p6 p7 h2 F2 fr2 _
      exfalso
      first | omega | contradiction | exact no u' p1 p2 p3 p4 p5 p6
  · intro u q1 q2 q3 q4 q5 q6 q7 
    have i1 : zIv h N s A G g T tb := I
    refine ⟨_, rfl, cm_306 i1.1 i1.2.2.1.1 ?_ ?_ ?_⟩
    · intro no' 
      exfalso
      first | omega | contradiction | exact no' u q1 q2 q3 q4 q5 q6
    · intro u' p1 p2 p3 p4 p5 p6 p7 
      have e_u : u' = u := by omega
      subst e_u
      exact ⟨rfl, fin h i1⟩
    · intro u' p1 p2 p3 p4 p5 p6 p7 h2 F2 fr2 _
      exfalso
      have e_u : u' = u := by omega
      subst e_u
      first | omega | contradiction | exact q3 ⟨p3, p4⟩ | exact p3 ⟨q3, q4⟩ | exact q5 ⟨p5, p6, p7⟩ | exact p5 ⟨q5, q6, q7⟩
  · intro u q1 q2 q3 q4 q5 q6 q7 h1 F1 fr1 _
    have i1 : zIv h1 N s A G g T tb := I.kp F1 fr1 (by simp)
    refine ⟨_, rfl, cm_306 i1.1 i1.2.2.1.1 ?_ ?_ ?_⟩
    · intro no' 
      exfalso
      first | omega | contradiction | exact no' u q1 q2 q3 q4 q5 q6
    · intro u' p1 p2 p3 p4 p5 p6 p7 
      exfalso
      have e_u : u' = u := by omega
      subst e_u
      first | omega | contradiction | exact q3 ⟨p3, p4⟩ | exact p3 ⟨q3, q4⟩ | exact q5 ⟨p5, p6, p7⟩ | exact p5 ⟨q5, q6, q7⟩
    · intro u' p1 p2 p3 p4 p5 p6 p7 h2 F2 fr2 _
      have e_u : u' = u := by omega
      subst e_u
      exact ⟨rfl, fin h2 (i1.kp F2 fr2 (by simp))⟩
theorem zop_190 {X : List Int} (k : Nat) : zOp_190 X (zInv k) (zInv (k + 1)) := by
  intro h J a0 a1 a2 a3 _ _ _ _
  obtain ⟨N, s, A, G, g, T, tb, I, W, hs⟩ := J
  have fin : ∀ h2, zIv h2 N s A G g T tb → zInv (k + 1) h2 := fun h2 i => ⟨N, s, A, G, g, T, tb, i, W, by omega⟩
  have hN := I.2.1.2.2.1.2.1
  refine cx_190 I.1 I.2.1.2.2.1 ?_ ?_
  · intro no h1 F1 fr1
    have i1 : zIv h1 N s A G g T tb := I.kp F1 fr1 (by simp)
    refine ⟨_, rfl, cm_307 i1.1 i1.2.2.1.1 ?_ ?_⟩
    · intro no' h2 F2 fr2
      exact ⟨rfl, fin h2 (i1.kp F2 fr2 (by simp))⟩
    · intro u' p1 p2 p3 p4 p5 p6 p7 p8 p9 h2 F2 fr2
      exfalso
      first | omega | contradiction | exact no u' p1 p2 p3 p4 p5 p6 p7 p8 p9
  · intro u q1 q2 q3 q4 q5 q6 q7 q8 q9 h1 F1 fr1
    have i1 : zIv h1 N s A G g T tb := I.kp F1 fr1 (by simp)
    refine ⟨_, rfl, cm_307 i1.1 i1.2.2.1.1 ?_ ?_⟩
    · intro no' h2 F2 fr2
      exfalso
      first | omega | contradiction | exact no' u q1 q2 q3 q4 q5 q6 q7 q8 q9
    · intro u' p1 p2 p3 p4 p5 p6 p7 p8 p9 h2 F2 fr2
      have e_u : u' = u := by omega
      subst e_u
      exact ⟨rfl, fin h2 (i1.kp F2 fr2 (by simp))⟩
theorem zop_191 {X : List Int} (k : Nat) : zOp_191 X (zInv k) (zInv (k + 1)) := by
  intro h J a0 a1 _ _
  obtain ⟨N, s, A, G, g, T, tb, I, W, hs⟩ := J
  have fin : ∀ h2, zIv h2 N s A G g T tb → zInv (k + 1) h2 := fun h2 i => ⟨N, s, A, G, g, T, tb, i, W, by omega⟩
  have hN := I.2.1.2.2.1.2.1
  refine cx_191 I.1 I.2.1.1 I.2.1.2.2.1 I.2.1.2.2.2.2.2.2.1 ?_ ?_ ?_ ?_
  · intro no 
    have i1 : zIv h N s A G g T tb := I
    refine ⟨_, rfl, cm_309 i1.1 i1.2.2.1.1 i1.2.2.1.2.1 ?_ ?_ ?_ ?_⟩
    · intro no' 
      exact ⟨rfl, fin h i1⟩
    · intro u' p1 p2 p3 p4 p5 
      exfalso
      first | omega | contradiction | exact no u' p1 p2 p3 p4
    · intro u' p1 p2 p3 p4 p5 p6 
      exfalso
      first | omega | contradiction | exact no u' p1 p2 p3 p4
    · intro u' p1 p2 p3 p4 p5 p6 h2 R2 y2 D2
      exfalso
      first | omega | contradiction | exact no u' p1 p2 p3 p4
  · intro u q1 q2 q3 q4 q5 
    have i1 : zIv h N s A G g T tb := I
    refine ⟨_, rfl, cm_309 i1.1 i1.2.2.1.1 i1.2.2.1.2.1 ?_ ?_ ?_ ?_⟩
    · intro no' 
      exfalso
      first | omega | contradiction | exact no' u q1 q2 q3 q4
    · intro u' p1 p2 p3 p4 p5 
      have e_u : u' = u := by omega
      subst e_u
      exact ⟨rfl, fin h i1⟩
    · intro u' p1 p2 p3 p4 p5 p6 
      exfalso
      have e_u : u' = u := by omega
      subst e_u
      first | omega | contradiction | exact q3 ⟨p3, p4⟩ | exact p3 ⟨q3, q4⟩ | exact q5 ⟨p5, p6, p7⟩ | exact p5 ⟨q5, q6, q7⟩
    · intro u' p1 p2 p3 p4 p5 p6 h2 R2 y2 D2
      exfalso
      have e_u : u' = u := by omega
      subst e_u
      first | omega | contradiction | exact q3 ⟨p3, p4⟩ | exact p3 ⟨q3, q4⟩ | exact q5 ⟨p5, p6, p7⟩ | exact p5 ⟨q5, q6, q7⟩
  · intro u q1 q2 q3 q4 q5 q6 
    have i1 : zIv h N s A G g T tb := I
    refine ⟨_, rfl, cm_309 i1.1 i1.2.2.1.1 i1.2.2.1.2.1 ?_ ?_ ?_ ?_⟩
    · intro no' 
      exfalso
      first | omega | contradiction | exact no' u q1 q2 q3 q4
    · intro u' p1 p2 p3 p4 p5 
      exfalso
      have e_u : u' = u := by omega
      subst e_u
      first | omega | contradiction | exact q3 ⟨p3, p4⟩ | exact p3 ⟨q3, q4⟩ | exact q5 ⟨p5, p6, p7⟩ | exact p5 ⟨q5, q6, q7⟩
    · intro u' p1 p2 p3 p4 p5 p6 
      have e_u : u' = u := by omega
      subst e_u
      exact ⟨rfl, fin h i1⟩
    · intro u' p1 p2 p3 p4 p5 p6 h2 R2 y2 D2
      exfalso
      have e_u : u' = u := by omega
      subst e_u
      first | omega | contradiction | exact q3 ⟨p3, p4⟩ | exact p3 ⟨q3, q4⟩ | exact q5 ⟨p5, p6, p7⟩ | exact p5 ⟨q5, q6, q7⟩
  · intro u q1 q2 q3 q4 q5 q6 h1 R1 F1 fr1 V1 D1
    have i1 : zIv h1 N s A G g T tb := I.pv F1 fr1 V1
    refine ⟨_, rfl, cm_309 i1.1 i1.2.2.1.1 i1.2.2.1.2.1 ?_ ?_ ?_ ?_⟩
    · intro no' 
      exfalso
      first | omega | contradiction | exact no' u q1 q2 q3 q4
    · intro u' p1 p2 p3 p4 p5 
      exfalso
      have e_u : u' = u := by omega
      subst e_u
      first | omega | contradiction | exact q3 ⟨p3, p4⟩ | exact p3 ⟨q3, q4⟩ | exact q5 ⟨p5, p6, p7⟩ | exact p5 ⟨q5, q6, q7⟩
    · intro u' p1 p2 p3 p4 p5 p6 
      exfalso
      have e_u : u' = u := by omega
      subst e_u
      first | omega | contradiction | exact q3 ⟨p3, p4⟩ | exact p3 ⟨q3, q4⟩ | exact q5 ⟨p5, p6, p7⟩ | exact p5 ⟨q5, q6, q7⟩
    · intro u' p1 p2 p3 p4 p5 p6 h2 R2 y2 D2
      have e_u : u' = u := by omega
      subst e_u
      exact ⟨by rw [zDA_one _ R2 R1 (fun j hj => ((I.2.1.2.2.1.2.2.2.2.1 _ q1).1.2.2.2 j hj).2.1) D2 D1 _ (zFc_n q3 q4)], fin h2 (i1.lr y2)⟩
theorem zop_192 {X : List Int} (k : Nat) : zOp_192 X (zInv k) (zInv (k + 1)) := by
  intro h J a0 _
  obtain ⟨N, s, A, G, g, T, tb, I, W, hs⟩ := J
  have fin : ∀ h2, zIv h2 N s A G g T tb → zInv (k + 1) h2 := fun h2 i => ⟨N, s, A, G, g, T, tb, i, W, by omega⟩
  have hN := I.2.1.2.2.1.2.1
  refine cx_192 I.1 I.2.1.2.2.1 ?_ ?_ ?_
  · intro no 
    have i1 : zIv h N s A G g T tb := I
    refine ⟨_, rfl, cm_311 i1.1 i1.2.2.1.1 i1.2.2.1.2.1 ?_ ?_ ?_⟩
    · intro no' 
      exact ⟨rfl, fin h i1⟩
    · intro u' p1 p2 p3 
      exfalso
      first | omega | contradiction
    · intro u' p1 p2 p3 h2 y2
      exfalso
      first | omega | contradiction
  · intro u q1 q2 q3 
    have i1 : zIv h N s A G g T tb := I
    refine ⟨_, rfl, cm_311 i1.1 i1.2.2.1.1 i1.2.2.1.2.1 ?_ ?_ ?_⟩
    · intro no' 
      exfalso
      first | omega | contradiction
    · intro u' p1 p2 p3 
      have e_u : u' = u := by omega
      subst e_u
      exact ⟨rfl, fin h i1⟩
    · intro u' p1 p2 p3 h2 y2
      exfalso
      have e_u : u' = u := by omega
      subst e_u
      first | omega | contradiction | exact q3 ⟨p3, p4⟩ | exact p3 ⟨q3, q4⟩ | exact q5 ⟨p5, p6, p7⟩ | exact p5 ⟨q5, q6, q7⟩
  · intro u q1 q2 q3 h1 y1
    have i1 : zIv h1 N s A G g T tb := I.kp y1.1 y1.2 (by simp)
    refine ⟨_, rfl, cm_311 i1.1 i1.2.2.1.1 i1.2.2.1.2.1 ?_ ?_ ?_⟩
    · intro no' 
      exfalso
      first | omega | contradiction
    · intro u' p1 p2 p3 
      exfalso
      have e_u : u' = u := by omega
      subst e_u
      first | omega | contradiction | exact q3 ⟨p3, p4⟩ | exact p3 ⟨q3, q4⟩ | exact q5 ⟨p5, p6, p7⟩ | exact p5 ⟨q5, q6, q7⟩
    · intro u' p1 p2 p3 h2 y2
      have e_u : u' = u := by omega
      subst e_u
      exact ⟨rfl, fin h2 (i1.ly y2)⟩
theorem zop_193 {X : List Int} (k : Nat) : zOp_193 X (zInv k) (zInv (k + 1)) := by
  intro h J a0 _
  obtain ⟨N, s, A, G, g, T, tb, I, W, hs⟩ := J
  have fin : ∀ h2, zIv h2 N s A G g T tb → zInv (k + 1) h2 := fun h2 i => ⟨N, s, A, G, g, T, tb, i, W, by omega⟩
  have hN := I.2.1.2.2.1.2.1
  refine cx_193 I.1 I.2.1.2.2.1 ?_ ?_ ?_
  · intro no 
    have i1 : zIv h N s A G g T tb := I
    refine ⟨_, rfl, cm_312 i1.1 i1.2.2.1.1 i1.2.2.1.2.1 ?_ ?_ ?_⟩
    · intro no' 
      exact ⟨rfl, fin h i1⟩
    · intro u' p1 p2 p3 
      exfalso
      first | omega | contradiction
    · intro u' p1 p2 p3 h2 y2
      exfalso
      first | omega | contradiction
  · intro u q1 q2 q3 
    have i1 : zIv h N s A G g T tb := I
    refine ⟨_, rfl, cm_312 i1.1 i1.2.2.1.1 i1.2.2.1.2.1 ?_ ?_ ?_⟩
    · intro no' 
      exfalso
      first | omega | contradiction
    · intro u' p1 p2 p3 
      have e_u : u' = u := by omega
      subst e_u
      exact ⟨rfl, fin h i1⟩
    · intro u' p1 p2 p3 h2 y2
      exfalso
      have e_u : u' = u := by omega
      subst e_u
      first | omega | contradiction | exact q3 ⟨p3, p4⟩ | exact p3 ⟨q3, q4⟩ | exact q5 ⟨p5, p6, p7⟩ | exact p5 ⟨q5, q6, q7⟩
  · intro u q1 q2 q3 h1 y1
    have i1 : zIv h1 N s A G g T tb := I.kp y1.1 y1.2 (by simp)
    refine ⟨_, rfl, cm_312 i1.1 i1.2.2.1.1 i1.2.2.1.2.1 ?_ ?_ ?_⟩
    · intro no' 
      exfalso
      first | omega | contradiction
    · intro u' p1 p2 p3 
      exfalso
      have e_u : u' = u := by omega
      subst e_u
      first | omega | contradiction | exact q3 ⟨p3, p4⟩ | exact p3 ⟨q3, q4⟩ | exact q5 ⟨p5, p6, p7⟩ | exact p5 ⟨q5, q6, q7⟩
    · intro u' p1 p2 p3 h2 y2
      have e_u : u' = u := by omega
      subst e_u
      exact ⟨rfl, fin h2 (i1.ly y2)⟩
theorem zop_194 {X : List Int} (k : Nat) : zOp_194 X (zInv k) (zInv (k + 1)) := by
  intro h J a0 _
  obtain ⟨N, s, A, G, g, T, tb, I, W, hs⟩ := J
  have fin : ∀ h2, zIv h2 N s A G g T tb → zInv (k + 1) h2 := fun h2 i => ⟨N, s, A, G, g, T, tb, i, W, by omega⟩
  have hN := I.2.1.2.2.1.2.1
  refine cx_194 I.1 I.2.1.2.2.1 ?_ ?_ ?_
  · intro no 
    have i1 : zIv h N s A G g T tb := I
    refine ⟨_, rfl, cm_316 i1.1 i1.2.2.1.1 ?_ ?_ ?_⟩
    · intro no' 
      exact ⟨rfl, fin h i1⟩
    · intro u' p1 p2 p3 
      exfalso
      first | omega | contradiction
    · intro u' p1 p2 p3 
      exfalso
      first | omega | contradiction
  · intro u q1 q2 q3 
    have i1 : zIv h N s A G g T tb := I
    refine ⟨_, rfl, cm_316 i1.1 i1.2.2.1.1 ?_ ?_ ?_⟩
    · intro no' 
      exfalso
      first | omega | contradiction
    · intro u' p1 p2 p3 
      have e_u : u' = u := by omega
      subst e_u
      exact ⟨rfl, fin h i1⟩
    · intro u' p1 p2 p3 
      exfalso
      have e_u : u' = u := by omega
      subst e_u
      first | omega | contradiction | exact q3 ⟨p3, p4⟩ | exact p3 ⟨q3, q4⟩ | exact q5 ⟨p5, p6, p7⟩ | exact p5 ⟨q5, q6, q7⟩
  · intro u q1 q2 q3 h1 y1 _ _
    have i1 : zIv h1 N s A G g T tb := I.kp y1.1 y1.2 (by simp)
    refine ⟨_, rfl, cm_316 i1.1 i1.2.2.1.1 ?_ ?_ ?_⟩
    · intro no' 
      exfalso
      first | omega | contradiction
    · intro u' p1 p2 p3 
      exfalso
      have e_u : u' = u := by omega
      subst e_u
      first | omega | contradiction | exact q3 ⟨p3, p4⟩ | exact p3 ⟨q3, q4⟩ | exact q5 ⟨p5, p6, p7⟩ | exact p5 ⟨q5, q6, q7⟩
    · intro u' p1 p2 p3 
      have e_u : u' = u := by omega
      subst e_u
      exact ⟨rfl, fin h1 i1⟩
theorem zop_196 {X : List Int} (k : Nat) : zOp_196 X (zInv k) (zInv (k + 1)) := by
  intro h J a0 a1 _ _
  obtain ⟨N, s, A, G, g, T, tb, I, W, hs⟩ := J
  have fin : ∀ h2, zIv h2 N s A G g T tb → zInv (k + 1) h2 := fun h2 i => ⟨N, s, A, G, g, T, tb, i, W, by omega⟩
  have hN := I.2.1.2.2.1.2.1
  refine cx_196 I.1 I.2.1.2.2.1 ?_ ?_ ?_ ?_
  · intro no 
    have i1 : zIv h N s A G g T tb := I
    refine ⟨_, rfl, cm_318 i1.1 i1.2.2.1.1 i1.2.2.1.2.1 ?_ ?_ ?_ ?_⟩
    · intro no' 
      exact ⟨rfl, fin h i1⟩
    · intro u' j' p1 p2 p3 p4 p5 
      exfalso
      first | omega | contradiction | exact no u' j' p1 p2 p3 p4
    · intro u' j' p1 p2 p3 p4 p5 p6 h2 y2
      exfalso
      first | omega | contradiction | exact no u' j' p1 p2 p3 p4
    · intro u' j' p1 p2 p3 p4 p5 p6 h2 y2
      exfalso
      first | omega | contradiction | exact no u' j' p1 p2 p3 p4
  · intro u j q1 q2 q3 q4 q5 
    have i1 : zIv h N s A G g T tb := I
    refine ⟨_, rfl, cm_318 i1.1 i1.2.2.1.1 i1.2.2.1.2.1 ?_ ?_ ?_ ?_⟩
    · intro no' 
      exfalso
      first | omega | contradiction | exact no' u j q1 q2 q3 q4
    · intro u' j' p1 p2 p3 p4 p5 
      have e_u : u' = u := by omega
      subst e_u
      have e_j : j' = j := by omega
      subst e_j
      exact ⟨rfl, fin h i1⟩
    · intro u' j' p1 p2 p3 p4 p5 p6 h2 y2
      exfalso
      have e_u : u' = u := by omega
      subst e_u
      have e_j : j' = j := by omega
      subst e_j
      first | omega | contradiction | exact q3 ⟨p3, p4⟩ | exact p3 ⟨q3, q4⟩ | exact q5 ⟨p5, p6, p7⟩ | exact p5 ⟨q5, q6, q7⟩
    · intro u' j' p1 p2 p3 p4 p5 p6 h2 y2
      exfalso
      have e_u : u' = u := by omega
      subst e_u
      have e_j : j' = j := by omega
      subst e_j
      first | omega | contradiction | exact q3 ⟨p3, p4⟩ | exact p3 ⟨q3, q4⟩ | exact q5 ⟨p5, p6, p7⟩ | exact p5 ⟨q5, q6, q7⟩
  · intro u j q1 q2 q3 q4 q5 q6 h1 y1
    have i1 : zIv h1 N s A G g T tb := I.kp y1.1 y1.2 (by simp)
    refine ⟨_, rfl, cm_318 i1.1 i1.2.2.1.1 i1.2.2.1.2.1 ?_ ?_ ?_ ?_⟩
    · intro no' 
      exfalso
      first | omega | contradiction | exact no' u j q1 q2 q3 q4
    · intro u' j' p1 p2 p3 p4 p5 
      exfalso
      have e_u : u' = u := by omega
      subst e_u
      have e_j : j' = j := by omega
      subst e_j
      first | omega | contradiction | exact q3 ⟨p3, p4⟩ | exact p3 ⟨q3, q4⟩ | exact q5 ⟨p5, p6, p7⟩ | exact p5 ⟨q5, q6, q7⟩
    · intro u' j' p1 p2 p3 p4 p5 p6 h2 y2
      have e_u : u' = u := by omega
      subst e_u
      have e_j : j' = j := by omega
      subst e_j
      exact ⟨rfl, fin h2 (i1.ly y2)⟩
    · intro u' j' p1 p2 p3 p4 p5 p6 h2 y2
      exfalso
      have e_u : u' = u := by omega
      subst e_u
      have e_j : j' = j := by omega
      subst e_j
      first | omega | contradiction | exact q3 ⟨p3, p4⟩ | exact p3 ⟨q3, q4⟩ | exact q5 ⟨p5, p6, p7⟩ | exact p5 ⟨q5, q6, q7⟩
  · intro u j q1 q2 q3 q4 q5 q6 h1 y1
    have i1 : zIv h1 N s A G g T tb := I.kp y1.1 y1.2 (by simp)
    refine ⟨_, rfl, cm_318 i1.1 i1.2.2.1.1 i1.2.2.1.2.1 ?_ ?_ ?_ ?_⟩
    · intro no' 
      exfalso
      first | omega | contradiction | exact no' u j q1 q2 q3 q4
    · intro u' j' p1 p2 p3 p4 p5 
      exfalso
      have e_u : u' = u := by omega
      subst e_u
      have e_j : j' = j := by omega
      subst e_j
      first | omega | contradiction | exact q3 ⟨p3, p4⟩ | exact p3 ⟨q3, q4⟩ | exact q5 ⟨p5, p6, p7⟩ | exact p5 ⟨q5, q6, q7⟩
    · intro u' j' p1 p2 p3 p4 p5 p6 h2 y2
      exfalso
      have e_u : u' = u := by omega
      subst e_u
      have e_j : j' = j := by omega
      subst e_j
      first | omega | contradiction | exact q3 ⟨p3, p4⟩ | exact p3 ⟨q3, q4⟩ | exact q5 ⟨p5, p6, p7⟩ | exact p5 ⟨q5, q6, q7⟩
    · intro u' j' p1 p2 p3 p4 p5 p6 h2 y2
      have e_u : u' = u := by omega
      subst e_u
      have e_j : j' = j := by omega
      subst e_j
      exact ⟨rfl, fin h2 (i1.ly y2)⟩
theorem zop_197 {X : List Int} (k : Nat) : zOp_197 X (zInv k) (zInv (k + 1)) := by
  intro h J a0 a1 _ _
  obtain ⟨N, s, A, G, g, T, tb, I, W, hs⟩ := J
  have fin : ∀ h2, zIv h2 N s A G g T tb → zInv (k + 1) h2 := fun h2 i => ⟨N, s, A, G, g, T, tb, i, W, by omega⟩
  have hN := I.2.1.2.2.1.2.1
  refine cx_197 I.1 I.2.1.2.2.1 ?_ ?_ ?_
  · intro no 
    have i1 : zIv h N s A G g T tb := I
    refine ⟨_, rfl, cm_319 i1.1 i1.2.2.1.1 i1.2.2.1.2.1 ?_ ?_ ?_⟩
    · intro no' 
      exact ⟨rfl, fin h i1⟩
    · intro u' j' p1 p2 p3 p4 p5 
      exfalso
      first | omega | contradiction | exact no u' j' p1 p2 p3 p4
    · intro u' j' p1 p2 p3 p4 p5 h2 y2
      exfalso
      first | omega | contradiction | exact no u' j' p1 p2 p3 p4
  · intro u j q1 q2 q3 q4 q5 
    have i1 : zIv h N s A G g T tb := I
    refine ⟨_, rfl, cm_319 i1.1 i1.2.2.1.1 i1.2.2.1.2.1 ?_ ?_ ?_⟩
    · intro no' 
      exfalso
      first | omega | contradiction | exact no' u j q1 q2 q3 q4
    · intro u' j' p1 p2 p3 p4 p5 
      have e_u : u' = u := by omega
      subst e_u
      have e_j : j' = j := by omega
      subst e_j
      exact ⟨rfl, fin h i1⟩
    · intro u' j' p1 p2 p3 p4 p5 h2 y2
      exfalso
      have e_u : u' = u := by omega
      subst e_u
      have e_j : j' = j := by omega
      subst e_j
      first | omega | contradiction | exact q3 ⟨p3, p4⟩ | exact p3 ⟨q3, q4⟩ | exact q5 ⟨p5, p6, p7⟩ | exact p5 ⟨q5, q6, q7⟩
  · intro u j q1 q2 q3 q4 q5 h1 y1
    have i1 : zIv h1 N s A G g T tb := I.kp y1.1 y1.2 (by simp)
    refine ⟨_, rfl, cm_319 i1.1 i1.2.2.1.1 i1.2.2.1.2.1 ?_ ?_ ?_⟩
    · intro no' 
      exfalso
      first | omega | contradiction | exact no' u j q1 q2 q3 q4
    · intro u' j' p1 p2 p3 p4 p5 
      exfalso
      have e_u : u' = u := by omega
      subst e_u
      have e_j : j' = j := by omega
      subst e_j
      first | omega | contradiction | exact q3 ⟨p3, p4⟩ | exact p3 ⟨q3, q4⟩ | exact q5 ⟨p5, p6, p7⟩ | exact p5 ⟨q5, q6, q7⟩
    · intro u' j' p1 p2 p3 p4 p5 h2 y2
      have e_u : u' = u := by omega
      subst e_u
      have e_j : j' = j := by omega
      subst e_j
      exact ⟨rfl, fin h2 (i1.ly y2)⟩
theorem zop_200 {X : List Int} (k : Nat) : zOp_200 X (zInv k) (zInv (k + 1)) := by
  intro h J a0 a1 _ _
  obtain ⟨N, s, A, G, g, T, tb, I, W, hs⟩ := J
  have fin : ∀ h2, zIv h2 N s A G g T tb → zInv (k + 1) h2 := fun h2 i => ⟨N, s, A, G, g, T, tb, i, W, by omega⟩
  have hN := I.2.1.2.2.1.2.1
  refine cx_200 I.1 I.2.1.2.2.1 ?_ ?_ ?_
  · intro no 
    have i1 : zIv h N s A G g T tb := I
    refine ⟨_, rfl, cm_326 i1.1 i1.2.2.1.1 i1.2.2.1.2.1 ?_ ?_ ?_⟩
    · intro no' 
      exact ⟨rfl, fin h i1⟩
    · intro u' v' p1 p2 p3 p4 p5 
      exfalso
      first | omega | contradiction | exact no u' v' p1 p2 p3 p4
    · intro u' v' p1 p2 p3 p4 p5 p6 p7 h2 y2
      exfalso
      first | omega | contradiction | exact no u' v' p1 p2 p3 p4
  · intro u v q1 q2 q3 q4 q5 
    have i1 : zIv h N s A G g T tb := I
    refine ⟨_, rfl, cm_326 i1.1 i1.2.2.1.1 i1.2.2.1.2.1 ?_ ?_ ?_⟩
    · intro no' 
      exfalso
      first | omega | contradiction | exact no' u v q1 q2 q3 q4
    · intro u' v' p1 p2 p3 p4 p5 
      have e_u : u' = u := by omega
      subst e_u
      have e_v : v' = v := by omega
      subst e_v
      exact ⟨rfl, fin h i1⟩
    · intro u' v' p1 p2 p3 p4 p5 p6 p7 h2 y2
      exfalso
      have e_u : u' = u := by omega
      subst e_u
      have e_v : v' = v := by omega
      subst e_v
      first | omega | contradiction | exact q3 ⟨p3, p4⟩ | exact p3 ⟨q3, q4⟩ | exact q5 ⟨p5, p6, p7⟩ | exact p5 ⟨q5, q6, q7⟩
  · intro u v q1 q2 q3 q4 q5 q6 q7 h1 y1
    have i1 : zIv h1 N s A G g T tb := I.kp y1.1 y1.2 (by simp)
    refine ⟨_, rfl, cm_326 i1.1 i1.2.2.1.1 i1.2.2.1.2.1 ?_ ?_ ?_⟩
    · intro no' 
      exfalso
      first | omega | contradiction | exact no' u v q1 q2 q3 q4
    · intro u' v' p1 p2 p3 p4 p5 
      exfalso
      have e_u : u' = u := by omega
      subst e_u
      have e_v : v' = v := by omega
      subst e_v
      first | omega | contradiction | exact q3 ⟨p3, p4⟩ | exact p3 ⟨q3, q4⟩ | exact q5 ⟨p5, p6, p7⟩ | exact p5 ⟨q5, q6, q7⟩
    · intro u' v' p1 p2 p3 p4 p5 p6 p7 h2 y2
      have e_u : u' = u := by omega
      subst e_u
      have e_v : v' = v := by omega
      subst e_v
      exact ⟨rfl, fin h2 (i1.ly y2)⟩
