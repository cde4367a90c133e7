/-! TEXTS, THE REFERENCE: ALL TOKENS; THE FORM -/
def zTKm (h : zHP) (tb : Nat → Nat) (T L : Nat) : Prop := L ≤ 2000 ∧ (zkdT tb T L = 69 ∨ zkdT tb T L = 63) ∧ (∀ j, j < L → zkdT tb T j ≠ 69 ∧ zkdT tb T j ≠ 63) ∧ ∀ j, j ≤ L → zMtk h j tb T (zpcT tb T j)
theorem zso_1 {k : Int} : zsoT k = 1 ↔ k = 105 := by
  unfold zsoT
  repeat' split
  all_goals omega
theorem zso_0 {k : Int} : zsoT k = 0 ↔ k = 110 := by
  unfold zsoT
  repeat' split
  all_goals omega
theorem zso_2 {k : Int} : zsoT k = 2 ↔ k = 59 ∨ k = 123 ∨ k = 125 := by
  unfold zsoT
  repeat' split
  all_goals omega
theorem zso_4 {k : Int} : zsoT k = 4 ↔ k = 69 := by
  unfold zsoT
  repeat' split
  all_goals omega
theorem zso_5 {k : Int} : zsoT k = 5 ↔ k = 63 := by
  unfold zsoT
  repeat' split
  all_goals omega
theorem zkn_in (tb : Nat → Nat) (T p : Nat) : zknT tb T p ∈ [69, 63, 105, 110, 59, 123, 125, 76, 82, 71, 66, 77, 85, 117, 116, 84, 80] := by
  unfold zknT
  split
  · decide
  · split
    · split
      · decide
      · rcases zkw_in (zwdN 32 (zlfN tb p) (zlnE tb T p - p)) with z | z
        · rw [z]; decide
        · have w : ∀ k ∈ zwkL, k ∈ [69, 63, 105, 110, 59, 123, 125, 76, 82, 71, 66, 77, 85, 117, 116, 84, (80 : Int)] := by decide
          exact w _ z
    · split
      · split <;> decide
      · split
        · rename_i z
          rcases z with z | z | z <;> rw [z] <;> decide
        · decide
theorem zMtk.fr {h h' : zHP} {i : Nat} {tb : Nat → Nat} {T p : Nat} (m : zMtk h i tb T p) (f : ∀ c, c = 120 ∨ c = 121 ∨ c = 122 ∨ c = 123 → h' c i = h c i) : zMtk h' i tb T p := by
  unfold zMtk
  rw [f 120 (by omega), f 121 (by omega), f 122 (by omega), f 123 (by omega)]
  exact m
section
variable {X : List Int} {h : zHP} {K : Option zAV → zHP → Prop}
/-- scanAll -/
theorem cm_218 {T : Nat} {tb : Nat → Nat} (F : zFin h) (t : zTM h T tb) (k : ∀ h', zFin h' → zfr [108, 120, 121, 122, 123] h h' → (∀ c, c ≠ 14 → h' 108 c = h 108 c) → (∃ L, zTKm h' tb T L) → K none h') : zC X 218 [zR 108] h K := by
  have hT := t.2.1
  have loop : ∀ (q i j : Nat) (h1 : zHP) (x1 : Int), T - j = q → zpsT tb T i ≤ j → j ≤ T → i ≤ j → zeE (zbkB tb) T j = zpcT tb T i → x1 = (j : Int) → zFin h1 → zfr [108, 120, 121, 122, 123] h h1 → (∀ c, c ≠ 14 → h1 108 c = h 108 c) → h1 108 14 = (i : Int) → (∀ r, r < i → zkdT tb T r ≠ 69 ∧ zkdT tb T r ≠ 63) → (∀ r, r < i → zMtk h1 r tb T (zpcT tb T r)) → zAt X 218 9 0 0 [some (zR 108), some (zI x1), some (zI 1), none] [] zSHc h1 (fun v sh' h' => sh' = zSHc ∧ K v h') := by
    intro q
    induction q using Nat.strongRecOn with
    | ind q ih =>
      intro i j h1 x1 hq hpj hjT hij he e1 F1 fr fk e14 A B
      have t1 : zTM h1 T tb := t.k (fk 12 (by decide)) (fr 119 (by decide))
      have e12 := t1.1
      by_cases hj : j < T
      · obtain ⟨b1, b2⟩ := t1.by hj e1
        by_cases cb : zbkB tb j = true
        · have nx := ih (q - 1) (by omega) i (j + 1) h1 (x1 + 1) (by omega) (by omega) (by omega) (by omega) ((zeE_go hj cb).symm.trans he) (by omega) F1 fr fk e14 A B
          unfold zbkB at cb
          rw [decide_eq_true_iff] at cb
          exact sg_218_9 F1 (fun z => by omega) (fun z => by omega) (fun _ z => absurd z (by decide)) (fun _ _ => by omega) (fun _ _ _ => by omega) (fun _ _ _ => nx) (fun _ _ _ _ => by omega) (fun _ _ _ _ => nx) (fun _ _ _ _ _ => by omega) (fun _ _ _ _ _ => nx) (fun _ _ z1 z2 z3 z4 => by omega) (fun _ _ _ _ _ _ => by omega) (fun _ _ _ _ _ _ => nx)
        · have ep : zpcT tb T i = j := he.symm.trans (zeE_st fun z => cb z.2)
          unfold zbkB at cb
          rw [decide_eq_true_iff] at cb
          refine sg_218_9 F1 (fun z => by omega) (fun z => by omega) (fun _ z => absurd z (by decide)) (fun _ _ => by omega) (fun _ _ z => by omega) (fun _ _ z => by omega) (fun _ _ _ z => by omega) (fun _ _ _ z => by omega) (fun _ _ _ _ z => by omega) (fun _ _ _ _ z => by omega) (fun _ _ _ _ _ _ => ?_) (fun _ _ _ _ _ z => by omega) (fun _ _ _ _ _ z => by omega)
          refine cm_217 (i := i) F1 t1 hj e14 (by omega) e1 fun h2 Y m => ?_
          obtain ⟨F2, fr2, fk2, f14, fo⟩ := Y
          obtain ⟨g1, g2⟩ := zbh_gt (tb := tb) hj
          have m : zMtk h2 i tb T (zpcT tb T i) := by rw [ep]; exact m
          have so := m.1
          have kd : zknT tb T (zpcT tb T i) = zkdT tb T i := rfl
          rw [kd] at so
          have n69 : zkdT tb T i ≠ 69 := by
            show zknT tb T (zpcT tb T i) ≠ 69
            rw [ep]
            exact zkn_69 hj
          have frh := fr.trans fr2
          have fkh : ∀ c, c ≠ 14 → h2 108 c = h 108 c := fun c hc => (fk2 c hc).trans (fk c hc)
          have B2 : ∀ r, r ≤ i → zMtk h2 r tb T (zpcT tb T r) := fun r hr => by
            by_cases c : r = i
            · rw [c]; exact m
            · exact (B r (by omega)).fr fun c hc => fo c r hc (by omega)
          have e141 : ((h2 108 14) - 1).toNat = i := by omega
          refine sg_218_62c F2 (by omega) (by omega) (fun z => ?_) (fun z => ?_)
          · rw [e141, so] at z
            have z := zso_5.mp z
            have fin := k h2 F2 frh fkh ⟨i, by omega, Or.inr z, A, B2⟩
            by_cases d : (zbhT tb T j : Int) < h2 108 12
            · exact sg_218_9 F2 (fun w => by omega) (fun w => by omega) (fun _ _ => ⟨rfl, fin⟩) (fun _ w => absurd rfl w) (fun _ w => absurd rfl w) (fun _ w => absurd rfl w) (fun _ w => absurd rfl w) (fun _ w => absurd rfl w) (fun _ w => absurd rfl w) (fun _ w => absurd rfl w) (fun _ w => absurd rfl w) (fun _ w => absurd rfl w) (fun _ w => absurd rfl w)
            · exact sg_218_9 F2 (fun _ _ => ⟨rfl, fin⟩) (fun _ w => absurd rfl w) (fun w => by omega) (fun w => by omega) (fun w => by omega) (fun w => by omega) (fun w => by omega) (fun w => by omega) (fun w => by omega) (fun w => by omega) (fun w => by omega) (fun w => by omega) (fun w => by omega)
          · rw [e141, so] at z
            have n63 : zkdT tb T i ≠ 63 := fun w => z (zso_5.mpr w)
            have eps : zpsT tb T (i + 1) = zbhT tb T j := by
              show zbhT tb T (zplc tb T (zpsT tb T i)) = _
              have : zplc tb T (zpsT tb T i) = j := ep
              rw [this]
            refine ih (T - zbhT tb T j) (by omega) (i + 1) (zbhT tb T j) h2 _ rfl (by omega) g2 (by omega) (by rw [← eps]; rfl) rfl F2 frh fkh f14 (fun r hr => ?_) (fun r hr => B2 r (by omega))
            by_cases c : r = i
            · rw [c]; exact ⟨n69, n63⟩
            · exact A r (by omega)
      · have ep : zpcT tb T i = j := he.symm.trans (zeE_st fun z => hj z.1)
        have eT : j = T := by omega
        have kd : zkdT tb T i = 69 := by
          show zknT tb T (zpcT tb T i) = 69
          unfold zknT
          rw [if_pos (by omega)]
        refine sg_218_9 F1 (fun _ z => absurd z (by decide)) (fun _ _ => ?_) (fun z => by omega) (fun z => by omega) (fun z => by omega) (fun z => by omega) (fun z => by omega) (fun z => by omega) (fun z => by omega) (fun z => by omega) (fun z => by omega) (fun z => by omega) (fun z => by omega)
        refine cm_215 (i := i) F1 e14 (by omega) fun h2 Y y3 y0 y1 y2 => sg_218_101c ⟨rfl, ?_⟩
        obtain ⟨F2, fr2, fk2, f14, fo⟩ := Y
        refine k h2 F2 (fr.trans fr2) (fun c hc => (fk2 c hc).trans (fk c hc)) ⟨i, by omega, Or.inl kd, A, fun r hr => ?_⟩
        by_cases c : r = i
        · have kd2 : zknT tb T (zpcT tb T i) = 69 := kd
          rw [c]
          refine ⟨by rw [y0, kd2]; decide, by rw [y1, e12, ep, eT], fun z => ?_, fun z => ?_, fun z => ?_, fun z => ?_⟩
          all_goals rw [kd2] at z; exact absurd z (by decide)
        · exact (B r (by omega)).fr fun c hc => fo c r hc (by omega)
  refine sg_218_0 (loop _ 0 0 (zup h 108 14 0) 0 rfl (Nat.zero_le _) (Nat.zero_le _) (Nat.le_refl _) rfl rfl (F.up (by decide)) (zfr.rfl.up (by simp)) (fun c hc => zup_k hc) (by rw [zup_eq]; rfl) (fun r hr => absurd hr (Nat.not_lt_zero _)) (fun r hr => absurd hr (Nat.not_lt_zero _)))
end
