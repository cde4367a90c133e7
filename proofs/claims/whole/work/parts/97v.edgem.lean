/-! THE REFERENCE: THE GRAPH OF WORDS -/
theorem zMO.kp {h h2 : zHP} {n : Nat} (M : zMO h n) (e : ∀ c, c = 108 ∨ (136 ≤ c ∧ c ≤ 140) → h2 c = h c) : zMO h2 n := by
  obtain ⟨m1, m2, m3, m4, m5⟩ := M
  refine ⟨by rw [e 108 (by omega)]; exact m1, fun u hu i hi => ?_, ?_, ?_, ?_⟩
  · rw [e 136 (by omega)]; exact m2 u hu i hi
  · rw [e 137 (by omega), e 138 (by omega)]; exact m3
  · rw [e 139 (by omega)]; exact m4
  · rw [e 140 (by omega)]; exact m5
/-- an edge that is laid -/
def zWa1 (h : zHP) (n o v i : Nat) : Prop := (zisS n o v i → h 145 (21 * v + i) = (zslr n o v i : Int) ∧ h 146 (21 * v + i) = 0) ∧ (zisT n o v i → h 145 (21 * v + i) = (ztnr n o v i : Int) ∧ h 146 (21 * v + i) = 1) ∧ (¬ zisS n o v i → ¬ zisT n o v i → h 145 (21 * v + i) = -1)
def zWE (h : zHP) (n o c : Nat) : Prop := ∀ v i, i < 21 → 21 * v + i < c → zWa1 h n o v i
theorem zST {n o v i : Nat} (S : zisS n o v i) (T : zisT n o v i) : False := by
  obtain ⟨_, s⟩ := S
  obtain ⟨_, _, t⟩ := T
  unfold zfarb at s
  omega
theorem zWa1.up {h : zHP} {n o v i e : Nat} {x : Int} (W : zWa1 h n o v i) (he : 21 * v + i ≠ e) : zWa1 (zup h 145 e x) n o v i := by
  unfold zWa1
  rw [zup_k he, zup_c (by decide)]
  exact W
theorem zWa1.up2 {h : zHP} {n o v i e : Nat} {x : Int} (W : zWa1 h n o v i) (he : 21 * v + i ≠ e) : zWa1 (zup h 146 e x) n o v i := by
  unfold zWa1
  rw [zup_c (by decide), zup_k he]
  exact W
theorem zWa1.fr {h h2 : zHP} {n o v i : Nat} (W : zWa1 h n o v i) (f : zfr [142] h h2) : zWa1 h2 n o v i := by
  unfold zWa1
  rw [f 145 (by decide), f 146 (by decide)]
  exact W
section
variable {X : List Int} {h : zHP} {K : Option zAV → zHP → Prop}
/-- graph -/
theorem cm_282 {n o : Nat} (F : zFin h) (M : zMO h n) (hn : n ≤ 7) (ho : o < zfac n) (h8 : zTl n o ≤ 800) (k : ∀ h', zFin h' → zfr [142, 145, 146] h h' → zWE h' n o (21 * zTl n o) → K none h') : zC X 282 [zR 108, zI n, zI o] h K := by
  have h5 := zfac7 hn
  have m21 := zinvs_le (o := o) hn
  have main : ∀ (q c v i : Nat) (h1 : zHP) (x5 x6 : Int), 21 * zTl n o - c = q → c = 21 * v + i → i < 21 → v < zTl n o → x5 = (v : Int) → x6 = (i : Int) → zFin h1 → zfr [142, 145, 146] h h1 → zWE h1 n o c → zAt X 282 28 0 0 [some (zR 108), some (zI (n : Int)), some (zI (o : Int)), some (zI (zTl n o : Int)), some (zI (zinvs n o : Int)), some (zI x5), some (zI x6), none] [] zSHc h1 (fun v sh' h' => sh' = zSHc ∧ K v h') := by
    intro q
    induction q with
    | zero => intro c v i h1 x5 x6 hq hc hi hv; omega
    | succ q ih =>
      intro c v i h1 x5 x6 hq hc hi hv e5 e6 F1 fr W
      have next : ∀ h2, zFin h2 → zfr [142, 145, 146] h h2 → zWE h2 n o (c + 1) → zAt X 282 28 0 0 [some (zR 108), some (zI (n : Int)), some (zI (o : Int)), some (zI (zTl n o : Int)), some (zI (zinvs n o : Int)), some (zI x5), some (zI (x6 + 1)), none] [] zSHc h2 (fun v sh' h' => sh' = zSHc ∧ K v h') := fun h2 F2 fr2 W2 => by
        by_cases c1 : i + 1 < 21
        · exact ih (c + 1) v (i + 1) h2 x5 (x6 + 1) (by omega) (by omega) c1 hv e5 (by omega) F2 fr2 W2
        · refine sg_282_28 F2 (fun _ => by omega) (fun _ => ?_) (fun z => by omega) (fun z => by omega) (fun z => by omega) (fun z => by omega)
          by_cases c2 : v + 1 < zTl n o
          · exact sg_282_19 (fun z => by omega) (fun _ => ih (c + 1) (v + 1) 0 h2 (x5 + 1) 0 (by omega) (by omega) (by omega) c2 (by omega) rfl F2 fr2 W2)
          · exact sg_282_19 (fun _ => ⟨rfl, k h2 F2 fr2 (by rw [show 21 * zTl n o = c + 1 by omega]; exact W2)⟩) (fun z => by omega)
      have ee : ((21 * x5) + x6).toNat = c := by omega
      refine sg_282_28 F1 (fun z => by omega) (fun z => by omega) (fun _ => by omega) (fun _ => by omega) (fun _ => by omega) (fun _ => ?_)
      rw [ee]
      have F2 : zFin (zup (zup h1 145 c (-1)) 146 c 0) := (F1.upA zfa_145).upA zfa_146
      have fr2 : zfr [142, 145, 146] h (zup (zup h1 145 c (-1)) 146 c 0) := (fr.up (by simp)).up (by simp)
      have W2 : zWE (zup (zup h1 145 c (-1)) 146 c 0) n o c := fun v' i' a b => ((W v' i' a b).up (by omega)).up2 (by omega)
      have z5 : zup (zup h1 145 c (-1)) 146 c 0 145 c = -1 := by rw [zup_c (by decide), zup_eq]
      have z6 : zup (zup h1 145 c (-1)) 146 c 0 146 c = 0 := zup_eq
      generalize zup (zup h1 145 c (-1)) 146 c 0 = h2 at F2 fr2 W2 z5 z6
      have M2 : zMO h2 n := M.kp fun c hc => fr2 c (by simp; omega)
      refine cm_273 (r := v) F2 M2 hn ho hv rfl e5 fun h3 F3 fr3 w3 => ?_
      have M3 := M2.w fr3
      have y5 : h3 145 c = -1 := by rw [fr3 145 (by decide)]; exact z5
      have y6 : h3 146 c = 0 := by rw [fr3 146 (by decide)]; exact z6
      have W3 : zWE h3 n o c := fun v' i' a b => (W2 v' i' a b).fr fr3
      have fr4 : zfr [142, 145, 146] h h3 := fr2.trans (fr3.mono (by simp))
      have V := zvw_let ho hv
      clear F2 fr2 W2 z5 z6 M2 fr3 F1 fr W M
      have t6 : x6.toNat = i := by omega
      have t7 : (x6 + 1).toNat = i + 1 := by omega
      have t8 : (x6 + 2).toNat = i + 2 := by omega
      have done : ∀ h4, zFin h4 → zfr [142, 145, 146] h h4 → zWE h4 n o c → zWa1 h4 n o v i → zAt X 282 28 0 0 [some (zR 108), some (zI (n : Int)), some (zI (o : Int)), some (zI (zTl n o : Int)), some (zI (zinvs n o : Int)), some (zI x5), some (zI (x6 + 1)), none] [] zSHc h4 (fun v sh' h' => sh' = zSHc ∧ K v h') := fun h4 F4 fr4 W4 w => next h4 F4 fr4 fun v' i' a b => by
        by_cases d : 21 * v' + i' < c
        · exact W4 v' i' a d
        · have ev : v' = v := by omega
          have ei : i' = i := by omega
          rw [ev, ei]
          exact w
      have none_ : ¬ zisS n o v i → ¬ zisT n o v i → zAt X 282 28 0 0 [some (zR 108), some (zI (n : Int)), some (zI (o : Int)), some (zI (zTl n o : Int)), some (zI (zinvs n o : Int)), some (zI x5), some (zI (x6 + 1)), none] [] zSHc h3 (fun v sh' h' => sh' = zSHc ∧ K v h') := fun nS nT => done h3 F3 fr4 W3 ⟨fun z => absurd z nS, fun z => absurd z nT, fun _ _ => by rw [← hc]; exact y5⟩
      by_cases c1 : i + 1 < zinvs n o
      · have ea : h3 142 x6.toNat = (zlet n o v i : Int) := by rw [t6]; exact w3 i (by omega)
        have eb : h3 142 ((x6 + 1).toNat) = (zlet n o v (i + 1) : Int) := by rw [t7]; exact w3 (i + 1) c1
        have la := (V.2 i (by omega)).1
        have lb := (V.2 (i + 1) c1).1
        by_cases far : zfarb (zlet n o v i) (zlet n o v (i + 1))
        · have S : zisS n o v i := ⟨c1, far⟩
          have ap : 1 < zapart (h3 142 x6.toNat) (h3 142 ((x6 + 1).toNat)) := by
            rw [ea, eb]
            unfold zfarb at far
            unfold zapart
            split <;> omega
          refine sg_282_72c F3 (by omega) (fun z => by omega) (fun z => by omega) (fun z => by omega) (fun z => by omega) (fun z => by omega) (fun z => by omega) (fun z => by omega) (fun z => by omega) (fun z => by omega) (fun z => by omega) (fun z => by omega) (fun z => by omega) (fun _ => by omega) (fun _ => by omega) (fun _ => by omega) (fun _ => by omega) (fun _ _ => by omega) (fun _ z => by omega) (fun _ z => by omega) (fun _ z => by omega) (fun _ z => by omega) (fun _ z => by omega) (fun _ z => by omega) (fun _ z => by omega) (fun _ _ => by omega) (fun _ _ => by omega) (fun _ _ => ?_)
          rw [ea, eb, t6, t7]
          have Vs := zsw_ok ho V c1 far
          have hf : ∀ j, j < zinvs n o → zsw (zlet n o v) i j + 2 ≤ n ∧ zup (zup h3 142 i (zlet n o v (i + 1) : Int)) 142 (i + 1) (zlet n o v i : Int) 142 j = (zsw (zlet n o v) i j : Int) := fun j hj => by
            refine ⟨(Vs.2 j hj).1, ?_⟩
            unfold zsw
            by_cases d1 : j = i + 1
            · rw [d1, zup_eq, if_neg (by omega), if_pos rfl]
            · rw [zup_k d1]
              by_cases d2 : j = i
              · rw [d2, zup_eq, if_pos rfl]
              · rw [zup_k d2, if_neg d2, if_neg d1]
                exact w3 j hj
          refine cm_274 (f := zsw (zlet n o v) i) ((F3.upA zfa_142).upA zfa_142) (M3.kp fun c hc => by funext j; rw [zup_c (by omega), zup_c (by omega)]) hn ho rfl rfl hf ?_
          have sl := (zslr_ok ho hv S).1
          refine sg_282_158c (by have : zrks n o (zsw (zlet n o v) i) (zinvs n o) < zTl n o := sl; omega) (by omega) (by omega) ?_
          rw [ee]
          refine done _ (((F3.upA zfa_142).upA zfa_142).upA zfa_145) (((fr4.up (by simp)).up (by simp)).up (by simp)) (fun v' i' a b => ?_) ⟨fun _ => ?_, fun T => (zST S T).elim, fun z => absurd S z⟩
          · have w := W3 v' i' a b
            unfold zWa1
            rw [zup_k (by omega), zup_c (by decide), zup_c (by decide), zup_c (by decide), zup_c (by decide), zup_c (by decide)]
            exact w
          · rw [← hc, zup_eq, zup_c (by decide), zup_c (by decide), zup_c (by decide)]
            exact ⟨rfl, y6⟩
        · have ap : zapart (h3 142 x6.toNat) (h3 142 ((x6 + 1).toNat)) ≤ 1 := by
            rw [ea, eb]
            unfold zfarb at far
            unfold zapart
            split <;> omega
          have nS : ¬ zisS n o v i := fun z => far z.2
          by_cases c2 : i + 2 < zinvs n o
          · have ec : h3 142 ((x6 + 2).toNat) = (zlet n o v (i + 2) : Int) := by rw [t8]; exact w3 (i + 2) c2
            by_cases T : zisT n o v i
            · have nr : zapart (h3 142 x6.toNat) (h3 142 ((x6 + 1).toNat)) = 1 := by
                rw [ea, eb]
                have := T.2.2
                unfold zapart
                split <;> omega
              have sm : h3 142 x6.toNat = h3 142 ((x6 + 2).toNat) := by rw [ea, ec, T.2.1]
              refine sg_282_72c F3 (by omega) (fun z => by omega) (fun z => by omega) (fun z => by omega) (fun z => by omega) (fun z => by omega) (fun z => by omega) (fun z => by omega) (fun z => by omega) (fun z => by omega) (fun z => by omega) (fun z => by omega) (fun z => by omega) (fun _ => by omega) (fun _ => by omega) (fun _ => by omega) (fun _ => by omega) (fun _ _ => by omega) (fun _ _ z => by omega) (fun _ _ _ => by omega) (fun _ _ _ z => absurd sm z) (fun _ _ _ _ z => absurd nr z) (fun _ _ _ _ _ => by omega) (fun _ _ _ _ _ => by omega) (fun _ _ _ _ _ => ?_) (fun _ z => by omega) (fun _ z => by omega) (fun _ z => by omega)
              rw [ea, eb, t6, t7, t8]
              have Vs := ztw_ok ho V c2 T.2.1 T.2.2
              have hf : ∀ j, j < zinvs n o → ztw (zlet n o v) i j + 2 ≤ n ∧ zup (zup (zup h3 142 i (zlet n o v (i + 1) : Int)) 142 (i + 2) ((zup h3 142 i (zlet n o v (i + 1) : Int)) 142 (i + 1))) 142 (i + 1) (zlet n o v i : Int) 142 j = (ztw (zlet n o v) i j : Int) := fun j hj => by
                refine ⟨(Vs.2 j hj).1, ?_⟩
                unfold ztw
                by_cases d1 : j = i + 1
                · rw [d1, zup_eq, if_neg (by omega), if_pos rfl]
                · rw [zup_k d1]
                  by_cases d2 : j = i + 2
                  · rw [d2, zup_eq, zup_k (by omega), if_neg (by omega), if_neg (by omega), if_pos rfl]
                    exact w3 (i + 1) c1
                  · rw [zup_k d2]
                    by_cases d3 : j = i
                    · rw [d3, zup_eq, if_pos rfl]
                    · rw [zup_k d3, if_neg d3, if_neg d1, if_neg d2]
                      exact w3 j hj
              refine cm_274 (f := ztw (zlet n o v) i) (((F3.upA zfa_142).upA zfa_142).upA zfa_142) (M3.kp fun c hc => by funext j; rw [zup_c (by omega), zup_c (by omega), zup_c (by omega)]) hn ho rfl rfl hf ?_
              have sl := (ztnr_ok ho hv T).1
              refine sg_282_286c (((F3.upA zfa_142).upA zfa_142).upA zfa_142) (by have : zrks n o (ztw (zlet n o v) i) (zinvs n o) < zTl n o := sl; omega) (by omega) (by omega) (by omega) (by omega) (by omega) ?_
              rw [ee]
              refine done _ (((((F3.upA zfa_142).upA zfa_142).upA zfa_142).upA zfa_145).upA zfa_146) (((((fr4.up (by simp)).up (by simp)).up (by simp)).up (by simp)).up (by simp)) (fun v' i' a b => ?_) ⟨fun S => absurd S nS, fun _ => ?_, fun _ z => absurd T z⟩
              · refine zWa1.up2 (zWa1.up ?_ (by omega)) (by omega)
                have w := W3 v' i' a b
                unfold zWa1
                rw [zup_c (by decide), zup_c (by decide), zup_c (by decide), zup_c (by decide), zup_c (by decide), zup_c (by decide)]
                exact w
              · rw [← hc, zup_c (by decide), zup_eq, zup_eq]
                exact ⟨rfl, rfl⟩
            · have nx := none_ nS T
              by_cases sm : h3 142 x6.toNat = h3 142 ((x6 + 2).toNat)
              · have nr : ¬ zapart (h3 142 x6.toNat) (h3 142 ((x6 + 1).toNat)) = 1 := fun z => by
                  rw [ea, eb] at z
                  rw [ea, ec] at sm
                  refine T ⟨c2, by omega, ?_⟩
                  unfold zapart at z
                  split at z <;> omega
                exact sg_282_72c F3 (by omega) (fun z => by omega) (fun z => by omega) (fun z => by omega) (fun z => by omega) (fun z => by omega) (fun z => by omega) (fun z => by omega) (fun z => by omega) (fun z => by omega) (fun z => by omega) (fun z => by omega) (fun z => by omega) (fun _ => by omega) (fun _ => by omega) (fun _ => by omega) (fun _ => by omega) (fun _ _ => by omega) (fun _ _ z => by omega) (fun _ _ _ => by omega) (fun _ _ _ z => absurd sm z) (fun _ _ _ _ _ => nx) (fun _ _ _ _ z => absurd z nr) (fun _ _ _ _ z => absurd z nr) (fun _ _ _ _ z => absurd z nr) (fun _ z => by omega) (fun _ z => by omega) (fun _ z => by omega)
              · exact sg_282_72c F3 (by omega) (fun z => by omega) (fun z => by omega) (fun z => by omega) (fun z => by omega) (fun z => by omega) (fun z => by omega) (fun z => by omega) (fun z => by omega) (fun z => by omega) (fun z => by omega) (fun z => by omega) (fun z => by omega) (fun _ => by omega) (fun _ => by omega) (fun _ => by omega) (fun _ => by omega) (fun _ _ => by omega) (fun _ _ z => by omega) (fun _ _ _ => by omega) (fun _ _ _ _ => nx) (fun _ _ _ z => absurd z sm) (fun _ _ _ z => absurd z sm) (fun _ _ _ z => absurd z sm) (fun _ _ _ z => absurd z sm) (fun _ z => by omega) (fun _ z => by omega) (fun _ z => by omega)
          · have nx := none_ nS fun z => c2 z.1
            exact sg_282_72c F3 (by omega) (fun z => by omega) (fun z => by omega) (fun z => by omega) (fun z => by omega) (fun z => by omega) (fun z => by omega) (fun z => by omega) (fun z => by omega) (fun z => by omega) (fun z => by omega) (fun z => by omega) (fun z => by omega) (fun _ => by omega) (fun _ => by omega) (fun _ => by omega) (fun _ => by omega) (fun _ _ => by omega) (fun _ _ _ => nx) (fun _ _ z => by omega) (fun _ _ z => by omega) (fun _ _ z => by omega) (fun _ _ z => by omega) (fun _ _ z => by omega) (fun _ _ z => by omega) (fun _ z => by omega) (fun _ z => by omega) (fun _ z => by omega)
      · have nx := none_ (fun z => c1 z.1) fun z => c1 (by have := z.1; omega)
        exact sg_282_72c F3 (by omega) (fun _ => by omega) (fun _ _ => nx) (fun _ z => by omega) (fun _ z => by omega) (fun _ z => by omega) (fun _ z => by omega) (fun _ z => by omega) (fun _ z => by omega) (fun _ z => by omega) (fun _ z => by omega) (fun _ z => by omega) (fun _ z => by omega) (fun z => by omega) (fun z => by omega) (fun z => by omega) (fun z => by omega) (fun z => by omega) (fun z => by omega) (fun z => by omega) (fun z => by omega) (fun z => by omega) (fun z => by omega) (fun z => by omega) (fun z => by omega) (fun z => by omega) (fun z => by omega) (fun z => by omega)
  have e0 : h 140 ((o : Int)).toNat = (zTl n o : Int) := by rw [Int.toNat_natCast]; exact M.2.2.2.2 o ho
  have e9 : h 139 ((o : Int)).toNat = (zinvs n o : Int) := by rw [Int.toNat_natCast]; exact M.2.2.2.1 o ho
  refine sg_282_0 F (by omega) (by omega) ?_
  rw [e0, e9]
  by_cases c : 0 < zTl n o
  · exact sg_282_19 (fun z => by omega) (fun _ => main _ 0 0 0 h 0 0 rfl rfl (by omega) c rfl rfl F zfr.rfl (fun v i _ z => absurd z (Nat.not_lt_zero _)))
  · exact sg_282_19 (fun _ => ⟨rfl, k h F zfr.rfl fun v i _ z => by omega⟩) (fun z => by omega)
end
