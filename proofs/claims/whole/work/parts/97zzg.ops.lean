/-! CALLS THAT ONLY READ -/
theorem zop_166 {X : List Int} (k : Nat) : zOp_166 X (zInv k) (zInv (k + 1)) := by
  intro h J a0 a1 _ _
  obtain ⟨N, s, A, G, g, T, tb, I, W, hs⟩ := J
  have fin : ∀ h2, zIv h2 N s A G g T tb → zInv (k + 1) h2 := fun h2 i => ⟨N, s, A, G, g, T, tb, i, W, by omega⟩
  have hN := I.2.1.2.2.1.2.1
  refine cx_166 I.1 I.2.1.2.2.1 ?_ ?_
  · intro no 
    have i1 : zIv h N s A G g T tb := I
    refine ⟨_, rfl, cm_254 i1.1 i1.2.2.1.1 ?_ ?_⟩
    · intro no' 
      exact ⟨rfl, fin h i1⟩
    · intro u' p1 p2 h2 F2 fr2
      exfalso
      first | omega | contradiction
  · intro u q1 q2 h1 F1 fr1
    have i1 : zIv h1 N s A G g T tb := I.kp F1 fr1 (by simp; omega)
    refine ⟨_, rfl, cm_254 i1.1 i1.2.2.1.1 ?_ ?_⟩
    · intro no' 
      exfalso
      first | omega | contradiction
    · intro u' p1 p2 h2 F2 fr2
      have e_u : u' = u := by omega
      subst e_u
      exact ⟨rfl, fin h2 (i1.kp F2 fr2 (by simp))⟩
theorem zop_167 {X : List Int} (k : Nat) : zOp_167 X (zInv k) (zInv (k + 1)) := by
  intro h J a0 a1 a2 _ _ _
  obtain ⟨N, s, A, G, g, T, tb, I, W, hs⟩ := J
  have fin : ∀ h2, zIv h2 N s A G g T tb → zInv (k + 1) h2 := fun h2 i => ⟨N, s, A, G, g, T, tb, i, W, by omega⟩
  have hN := I.2.1.2.2.1.2.1
  refine cx_167 I.1 I.2.1.2.2.1 ?_ ?_
  · intro no 
    have i1 : zIv h N s A G g T tb := I
    refine ⟨_, rfl, cm_255 i1.1 i1.2.2.1.1 ?_ ?_⟩
    · intro no' 
      exact ⟨rfl, fin h i1⟩
    · intro u' j' p1 p2 p3 p4 h2 F2 fr2
      exfalso
      first | omega | contradiction | exact no u' j' p1 p2 p3 p4
  · intro u j q1 q2 q3 q4 h1 F1 fr1
    have i1 : zIv h1 N s A G g T tb := I.kp F1 fr1 (by simp; omega)
    refine ⟨_, rfl, cm_255 i1.1 i1.2.2.1.1 ?_ ?_⟩
    · intro no' 
      exfalso
      first | omega | contradiction | exact no' u j q1 q2 q3 q4
    · intro u' j' p1 p2 p3 p4 h2 F2 fr2
      have e_u : u' = u := by omega
      subst e_u
      have e_j : j' = j := by omega
      subst e_j
      exact ⟨rfl, fin h2 (i1.kp F2 fr2 (by simp))⟩
theorem zop_168 {X : List Int} (k : Nat) : zOp_168 X (zInv k) (zInv (k + 1)) := by
  intro h J a0 a1 a2 _ _ _
  obtain ⟨N, s, A, G, g, T, tb, I, W, hs⟩ := J
  have fin : ∀ h2, zIv h2 N s A G g T tb → zInv (k + 1) h2 := fun h2 i => ⟨N, s, A, G, g, T, tb, i, W, by omega⟩
  have hN := I.2.1.2.2.1.2.1
  refine cx_168 I.1 ?_ ?_
  · intro no 
    have i1 : zIv h N s A G g T tb := I
    refine ⟨_, rfl, cm_265 i1.1 i1.2.2.1.2.1 ?_ ?_⟩
    · intro no' 
      exact ⟨rfl, fin h i1⟩
    · intro p1 p2 p3 p4 p5 h2 y2
      exfalso
      first | omega | contradiction
  · intro q1 q2 q3 q4 q5 
    have i1 : zIv h N s A G g T tb := I
    refine ⟨_, rfl, cm_265 i1.1 i1.2.2.1.2.1 ?_ ?_⟩
    · intro no' 
      exfalso
      first | omega | contradiction
    · intro p1 p2 p3 p4 p5 h2 y2
      exact ⟨rfl, fin h2 (i1.ly y2)⟩
theorem zop_169 {X : List Int} (k : Nat) : zOp_169 X (zInv k) (zInv (k + 1)) := by
  intro h J a0 a1 a2 _ _ _
  obtain ⟨N, s, A, G, g, T, tb, I, W, hs⟩ := J
  have fin : ∀ h2, zIv h2 N s A G g T tb → zInv (k + 1) h2 := fun h2 i => ⟨N, s, A, G, g, T, tb, i, W, by omega⟩
  have hN := I.2.1.2.2.1.2.1
  refine cx_169 I.1 I.2.1.1 I.2.1.2.2.1 ?_ ?_
  · intro no 
    have i1 : zIv h N s A G g T tb := I
    refine ⟨_, rfl, cm_269 i1.1 i1.2.2.1.1 i1.2.2.1.2.1 ?_ ?_⟩
    · intro no' 
      exact ⟨rfl, fin h i1⟩
    · intro u' p1 p2 p3 p4 p5 p6 h2 y2
      exfalso
      first | omega | contradiction | exact no u' p1 p2 p3 p4 p5 p6
  · intro u q1 q2 q3 q4 q5 q6 
    have i1 : zIv h N s A G g T tb := I
    refine ⟨_, rfl, cm_269 i1.1 i1.2.2.1.1 i1.2.2.1.2.1 ?_ ?_⟩
    · intro no' 
      exfalso
      first | omega | contradiction | exact no' u q1 q2 q3 q4 q5 q6
    · intro u' p1 p2 p3 p4 p5 p6 h2 y2
      have e_u : u' = u := by omega
      subst e_u
      exact ⟨rfl, fin h2 (i1.ly y2)⟩
theorem zop_170 {X : List Int} (k : Nat) : zOp_170 X (zInv k) (zInv (k + 1)) := by
  intro h J a0 a1 a2 a3 _ _ _ _
  obtain ⟨N, s, A, G, g, T, tb, I, W, hs⟩ := J
  have fin : ∀ h2, zIv h2 N s A G g T tb → zInv (k + 1) h2 := fun h2 i => ⟨N, s, A, G, g, T, tb, i, W, by omega⟩
  have hN := I.2.1.2.2.1.2.1
  refine cx_170 I.1 I.2.1.1 I.2.1.2.2.1 ?_ ?_
  · intro no 
    have i1 : zIv h N s A G g T tb := I
    refine ⟨_, rfl, cm_270 i1.1 i1.2.2.1.1 i1.2.2.1.2.1 ?_ ?_⟩
    · intro no' 
      exact ⟨rfl, fin h i1⟩
    · intro u' p1 p2 p3 p4 p5 p6 p7 p8 h2 y2
      exfalso
      first | omega | contradiction | exact no u' p1 p2 p3 p4 p5 p6 p7 p8
  · intro u q1 q2 q3 q4 q5 q6 q7 q8 
    have i1 : zIv h N s A G g T tb := I
    refine ⟨_, rfl, cm_270 i1.1 i1.2.2.1.1 i1.2.2.1.2.1 ?_ ?_⟩
    · intro no' 
      exfalso
      first | omega | contradiction | exact no' u q1 q2 q3 q4 q5 q6 q7 q8
    · intro u' p1 p2 p3 p4 p5 p6 p7 p8 h2 y2
      have e_u : u' = u := by omega
      subst e_u
      exact ⟨rfl, fin h2 (i1.ly y2)⟩
theorem zop_171 {X : List Int} (k : Nat) : zOp_171 X (zInv k) (zInv (k + 1)) := by
  intro h J a0 a1 _ _
  obtain ⟨N, s, A, G, g, T, tb, I, W, hs⟩ := J
  have fin : ∀ h2, zIv h2 N s A G g T tb → zInv (k + 1) h2 := fun h2 i => ⟨N, s, A, G, g, T, tb, i, W, by omega⟩
  have hN := I.2.1.2.2.1.2.1
  refine cx_171 I.1 ?_ ?_
  · intro no 
    have i1 : zIv h N s A G g T tb := I
    refine ⟨_, rfl, cm_271 i1.1 i1.2.2.1.2.1 ?_ ?_⟩
    · intro no' 
      exact ⟨rfl, fin h i1⟩
    · intro p1 p2 p3 h2 y2
      exfalso
      first | omega | contradiction
  · intro q1 q2 q3 
    have i1 : zIv h N s A G g T tb := I
    refine ⟨_, rfl, cm_271 i1.1 i1.2.2.1.2.1 ?_ ?_⟩
    · intro no' 
      exfalso
      first | omega | contradiction
    · intro p1 p2 p3 h2 y2
      exact ⟨rfl, fin h2 (i1.ly y2)⟩
theorem zop_172 {X : List Int} (k : Nat) : zOp_172 X (zInv k) (zInv (k + 1)) := by
  intro h J a0 a1 _ _
  obtain ⟨N, s, A, G, g, T, tb, I, W, hs⟩ := J
  have fin : ∀ h2, zIv h2 N s A G g T tb → zInv (k + 1) h2 := fun h2 i => ⟨N, s, A, G, g, T, tb, i, W, by omega⟩
  have hN := I.2.1.2.2.1.2.1
  refine cx_172 I.1 I.2.1.1 I.2.1.2.1 ?_ ?_
  · intro no 
    have i1 : zIv h N s A G g T tb := I
    refine ⟨_, rfl, cm_272 i1.1 i1.2.2.1.2.1 ?_ ?_⟩
    · intro no' 
      exact ⟨rfl, fin h i1⟩
    · intro p1 p2 p3 h2 y2
      exfalso
      first | omega | contradiction
  · intro q1 q2 q3 h1 y1
    have i1 : zIv h1 N s A G g T tb := I.cy y1
    refine ⟨_, rfl, cm_272 i1.1 i1.2.2.1.2.1 ?_ ?_⟩
    · intro no' 
      exfalso
      first | omega | contradiction
    · intro p1 p2 p3 h2 y2
      exact ⟨rfl, fin h2 (i1.ly y2)⟩
theorem zop_173 {X : List Int} (k : Nat) : zOp_173 X (zInv k) (zInv (k + 1)) := by
  intro h J a0 a1 a2 a3 _ _ _ _
  obtain ⟨N, s, A, G, g, T, tb, I, W, hs⟩ := J
  have fin : ∀ h2, zIv h2 N s A G g T tb → zInv (k + 1) h2 := fun h2 i => ⟨N, s, A, G, g, T, tb, i, W, by omega⟩
  have hN := I.2.1.2.2.1.2.1
  refine cx_173 I.1 I.2.1.1 I.2.1.2.1 ?_ ?_
  · intro no h1 y1
    have i1 : zIv h1 N s A G g T tb := I.cy y1
    refine ⟨_, rfl, cm_275 i1.1 i1.2.2.1.2.1 ?_ ?_⟩
    · intro no' h2 y2
      exact ⟨rfl, fin h2 (i1.ly y2)⟩
    · intro p1 p2 p3 p4 p5 p6 p7 h2 y2
      exfalso
      first | omega | contradiction
  · intro q1 q2 q3 q4 q5 q6 q7 h1 y1
    have i1 : zIv h1 N s A G g T tb := I.cy y1
    refine ⟨_, rfl, cm_275 i1.1 i1.2.2.1.2.1 ?_ ?_⟩
    · intro no' h2 y2
      exfalso
      first | omega | contradiction
    · intro p1 p2 p3 p4 p5 p6 p7 h2 y2
      exact ⟨rfl, fin h2 (i1.ly y2)⟩
theorem zop_174 {X : List Int} (k : Nat) : zOp_174 X (zInv k) (zInv (k + 1)) := by
  intro h J a0 _
  obtain ⟨N, s, A, G, g, T, tb, I, W, hs⟩ := J
  have fin : ∀ h2, zIv h2 N s A G g T tb → zInv (k + 1) h2 := fun h2 i => ⟨N, s, A, G, g, T, tb, i, W, by omega⟩
  have hN := I.2.1.2.2.1.2.1
  refine cx_174 I.1 I.2.1.1 I.2.1.2.1 I.2.1.2.2.1 ?_ ?_ ?_
  · intro no 
    have i1 : zIv h N s A G g T tb := I
    refine ⟨_, rfl, cm_276 i1.1 i1.2.2.1.1 i1.2.2.1.2.1 ?_ ?_ ?_⟩
    · intro no' 
      exact ⟨rfl, fin h i1⟩
    · intro u' p1 p2 p3 h2 y2
      exfalso
      first | omega | contradiction
    · intro u' p1 p2 p3 p4 h2 y2
      exfalso
      first | omega | contradiction
  · intro u q1 q2 q3 
    have i1 : zIv h N s A G g T tb := I
    refine ⟨_, rfl, cm_276 i1.1 i1.2.2.1.1 i1.2.2.1.2.1 ?_ ?_ ?_⟩
    · intro no' 
      exfalso
      first | omega | contradiction
    · intro u' p1 p2 p3 h2 y2
      have e_u : u' = u := by omega
      subst e_u
      exact ⟨rfl, fin h2 (i1.ly y2)⟩
    · intro u' p1 p2 p3 p4 h2 y2
      exfalso
      have e_u : u' = u := by omega
      subst e_u
      first | omega | contradiction | exact q3 ⟨p3, p4⟩ | exact p3 ⟨q3, q4⟩ | exact q5 ⟨p5, p6, p7⟩ | exact p5 ⟨q5, q6, q7⟩
  · intro u q1 q2 q3 q4 h1 y1
    have i1 : zIv h1 N s A G g T tb := I.cy y1
    refine ⟨_, rfl, cm_276 i1.1 i1.2.2.1.1 i1.2.2.1.2.1 ?_ ?_ ?_⟩
    · intro no' 
      exfalso
      first | omega | contradiction
    · intro u' p1 p2 p3 h2 y2
      exfalso
      have e_u : u' = u := by omega
      subst e_u
      first | omega | contradiction | exact q3 ⟨p3, p4⟩ | exact p3 ⟨q3, q4⟩ | exact q5 ⟨p5, p6, p7⟩ | exact p5 ⟨q5, q6, q7⟩
    · intro u' p1 p2 p3 p4 h2 y2
      have e_u : u' = u := by omega
      subst e_u
      exact ⟨rfl, fin h2 (i1.ly y2)⟩
theorem zop_175 {X : List Int} (k : Nat) : zOp_175 X (zInv k) (zInv (k + 1)) := by
  intro h J a0 _
  obtain ⟨N, s, A, G, g, T, tb, I, W, hs⟩ := J
  have fin : ∀ h2, zIv h2 N s A G g T tb → zInv (k + 1) h2 := fun h2 i => ⟨N, s, A, G, g, T, tb, i, W, by omega⟩
  have hN := I.2.1.2.2.1.2.1
  refine cx_175 I.1 I.2.1.2.2.1 ?_ ?_ ?_
  · intro no 
    have i1 : zIv h N s A G g T tb := I
    refine ⟨_, rfl, cm_279 i1.1 i1.2.2.1.1 ?_ ?_ ?_⟩
    · intro no' 
      exact ⟨rfl, fin h i1⟩
    · intro u' p1 p2 p3 
      exfalso
      first | omega | contradiction
    · intro u' p1 p2 p3 h2 F2 fr2 cs2
      exfalso
      first | omega | contradiction
  · intro u q1 q2 q3 
    have i1 : zIv h N s A G g T tb := I
    refine ⟨_, rfl, cm_279 i1.1 i1.2.2.1.1 ?_ ?_ ?_⟩
    · intro no' 
      exfalso
      first | omega | contradiction
    · intro u' p1 p2 p3 
      have e_u : u' = u := by omega
      subst e_u
      exact ⟨rfl, fin h i1⟩
    · intro u' p1 p2 p3 h2 F2 fr2 cs2
      exfalso
      have e_u : u' = u := by omega
      subst e_u
      first | omega | contradiction | exact q3 ⟨p3, p4⟩ | exact p3 ⟨q3, q4⟩ | exact q5 ⟨p5, p6, p7⟩ | exact p5 ⟨q5, q6, q7⟩
  · intro u q1 q2 q3 h1 F1 fr1
    have i1 : zIv h1 N s A G g T tb := I.kp F1 fr1 (by simp)
    refine ⟨_, rfl, cm_279 i1.1 i1.2.2.1.1 ?_ ?_ ?_⟩
    · intro no' 
      exfalso
      first | omega | contradiction
    · intro u' p1 p2 p3 
      exfalso
      have e_u : u' = u := by omega
      subst e_u
      first | omega | contradiction | exact q3 ⟨p3, p4⟩ | exact p3 ⟨q3, q4⟩ | exact q5 ⟨p5, p6, p7⟩ | exact p5 ⟨q5, q6, q7⟩
    · intro u' p1 p2 p3 h2 F2 fr2 cs2
      have e_u : u' = u := by omega
      subst e_u
      exact ⟨rfl, fin h2 (i1.cl F2 fr2 cs2)⟩
theorem zop_176 {X : List Int} (k : Nat) : zOp_176 X (zInv k) (zInv (k + 1)) := by
  intro h J a0 a1 _ _
  obtain ⟨N, s, A, G, g, T, tb, I, W, hs⟩ := J
  have fin : ∀ h2, zIv h2 N s A G g T tb → zInv (k + 1) h2 := fun h2 i => ⟨N, s, A, G, g, T, tb, i, W, by omega⟩
  have hN := I.2.1.2.2.1.2.1
  refine cx_176 I.1 I.2.1.2.2.1 ?_ ?_
  · intro no h1 F1 fr1
    have i1 : zIv h1 N s A G g T tb := I.kp F1 fr1 (by simp)
    refine ⟨_, rfl, cm_280 i1.1 i1.2.2.1.1 ?_ ?_⟩
    · intro no' h2 F2 fr2 cs2
      exact ⟨rfl, fin h2 (i1.cl F2 fr2 cs2)⟩
    · intro u' p1 p2 p3 p4 p5 h2 F2 fr2 cs2
      exfalso
      first | omega | contradiction | exact no u' p1 p2 p3 p4 p5
  · intro u q1 q2 q3 q4 q5 h1 F1 fr1
    have i1 : zIv h1 N s A G g T tb := I.kp F1 fr1 (by simp)
    refine ⟨_, rfl, cm_280 i1.1 i1.2.2.1.1 ?_ ?_⟩
    · intro no' h2 F2 fr2 cs2
      exfalso
      first | omega | contradiction | exact no' u q1 q2 q3 q4 q5
    · intro u' p1 p2 p3 p4 p5 h2 F2 fr2 cs2
      have e_u : u' = u := by omega
      subst e_u
      exact ⟨rfl, fin h2 (i1.cl F2 fr2 cs2)⟩
theorem zop_180 {X : List Int} (k : Nat) : zOp_180 X (zInv k) (zInv (k + 1)) := by
  intro h J a0 _
  obtain ⟨N, s, A, G, g, T, tb, I, W, hs⟩ := J
  have fin : ∀ h2, zIv h2 N s A G g T tb → zInv (k + 1) h2 := fun h2 i => ⟨N, s, A, G, g, T, tb, i, W, by omega⟩
  have hN := I.2.1.2.2.1.2.1
  refine cx_180 I.1 I.2.1.2.2.1 ?_ ?_
  · intro no 
    have i1 : zIv h N s A G g T tb := I
    refine ⟨_, rfl, cm_289 i1.1 i1.2.2.1.1 ?_ ?_⟩
    · intro no' 
      exact ⟨rfl, fin h i1⟩
    · intro u' p1 p2 
      exfalso
      first | omega | contradiction
  · intro u q1 q2 
    have i1 : zIv h N s A G g T tb := I
    refine ⟨_, rfl, cm_289 i1.1 i1.2.2.1.1 ?_ ?_⟩
    · intro no' 
      exfalso
      first | omega | contradiction
    · intro u' p1 p2 
      have e_u : u' = u := by omega
      subst e_u
      exact ⟨rfl, fin h i1⟩
theorem zop_181 {X : List Int} (k : Nat) : zOp_181 X (zInv k) (zInv (k + 1)) := by
  intro h J a0 a1 a2 a3 _ _ _ _
  obtain ⟨N, s, A, G, g, T, tb, I, W, hs⟩ := J
  have fin : ∀ h2, zIv h2 N s A G g T tb → zInv (k + 1) h2 := fun h2 i => ⟨N, s, A, G, g, T, tb, i, W, by omega⟩
  have hN := I.2.1.2.2.1.2.1
  refine cx_181 I.1 I.2.1.1 I.2.1.2.2.1 I.2.1.2.2.2.2.1 ?_ ?_
  · intro no 
    have i1 : zIv h N s A G g T tb := I
    refine ⟨_, rfl, cm_291 i1.1 i1.2.2.1.1 i1.2.2.1.2.1 ?_ ?_⟩
    · intro no' 
      exact ⟨rfl, fin h i1⟩
    · intro u' p1 p2 p3 p4 p5 p6 p7 p8 h2 y2
      exfalso
      first | omega | contradiction | exact no u' p1 p2 p3 p4 p5 p6 p7 p8
  · intro u q1 q2 q3 q4 q5 q6 q7 q8 h1 F1 fr1 V1
    have i1 : zIv h1 N s A G g T tb := I.q4 F1 fr1 V1
    refine ⟨_, rfl, cm_291 i1.1 i1.2.2.1.1 i1.2.2.1.2.1 ?_ ?_⟩
    · intro no' 
      exfalso
      first | omega | contradiction | exact no' u q1 q2 q3 q4 q5 q6 q7 q8
    · intro u' p1 p2 p3 p4 p5 p6 p7 p8 h2 y2
      have e_u : u' = u := by omega
      subst e_u
      exact ⟨rfl, fin h2 (i1.lz y2)⟩
theorem zop_182 {X : List Int} (k : Nat) : zOp_182 X (zInv k) (zInv (k + 1)) := by
  intro h J a0 a1 a2 _ _ _
  obtain ⟨N, s, A, G, g, T, tb, I, W, hs⟩ := J
  have fin : ∀ h2, zIv h2 N s A G g T tb → zInv (k + 1) h2 := fun h2 i => ⟨N, s, A, G, g, T, tb, i, W, by omega⟩
  have hN := I.2.1.2.2.1.2.1
  refine cx_182 I.1 I.2.1.1 I.2.1.2.2.1 I.2.1.2.2.2.2.1 ?_ ?_
  · intro no 
    have i1 : zIv h N s A G g T tb := I
    refine ⟨_, rfl, cm_292 i1.1 i1.2.2.1.1 i1.2.2.1.2.1 ?_ ?_⟩
    · intro no' 
      exact ⟨rfl, fin h i1⟩
    · intro u' p1 p2 p3 p4 p5 p6 h2 y2
      exfalso
      first | omega | contradiction | exact no u' p1 p2 p3 p4 p5 p6
  · intro u q1 q2 q3 q4 q5 q6 h1 F1 fr1 V1
    have i1 : zIv h1 N s A G g T tb := I.q4 F1 fr1 V1
    refine ⟨_, rfl, cm_292 i1.1 i1.2.2.1.1 i1.2.2.1.2.1 ?_ ?_⟩
    · intro no' 
      exfalso
      first | omega | contradiction | exact no' u q1 q2 q3 q4 q5 q6
    · intro u' p1 p2 p3 p4 p5 p6 h2 y2
      have e_u : u' = u := by omega
      subst e_u
      exact ⟨rfl, fin h2 (i1.lz y2)⟩
theorem zop_183 {X : List Int} (k : Nat) : zOp_183 X (zInv k) (zInv (k + 1)) := by
  intro h J a0 a1 _ _
  obtain ⟨N, s, A, G, g, T, tb, I, W, hs⟩ := J
  have fin : ∀ h2, zIv h2 N s A G g T tb → zInv (k + 1) h2 := fun h2 i => ⟨N, s, A, G, g, T, tb, i, W, by omega⟩
  have hN := I.2.1.2.2.1.2.1
  refine cx_183 I.1 I.2.1.1 I.2.1.2.2.1 I.2.1.2.2.2.2.1 ?_ ?_
  · intro no 
    have i1 : zIv h N s A G g T tb := I
    refine ⟨_, rfl, cm_293 i1.1 i1.2.2.1.1 i1.2.2.1.2.1 ?_ ?_⟩
    · intro no' 
      exact ⟨rfl, fin h i1⟩
    · intro u' p1 p2 p3 p4 h2 y2
      exfalso
      first | omega | contradiction | exact no u' p1 p2 p3 p4
  · intro u q1 q2 q3 q4 h1 F1 fr1 V1
    have i1 : zIv h1 N s A G g T tb := I.q4 F1 fr1 V1
    refine ⟨_, rfl, cm_293 i1.1 i1.2.2.1.1 i1.2.2.1.2.1 ?_ ?_⟩
    · intro no' 
      exfalso
      first | omega | contradiction | exact no' u q1 q2 q3 q4
    · intro u' p1 p2 p3 p4 h2 y2
      have e_u : u' = u := by omega
      subst e_u
      exact ⟨rfl, fin h2 (i1.lz y2)⟩
