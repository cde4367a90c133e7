def zCy (h h' : zHP) : Prop := zFin h' ∧ zOT h' ∧ zCO h' ∧ h 1 1 ≤ h' 1 1 ∧ zfr [1, 2, 3, 4] h h'
section
variable {X : List Int} {h : zHP} {K : Option zAV → zHP → Prop} {N s : Nat} {A : Nat → Nat × Nat × zel}
theorem zCy.rf (F : zFin h) (T : zOT h) (C : zCO h) : zCy h h := ⟨F, T, C, Int.le_refl _, zfr.rfl⟩
/-- ladders -/
theorem cx_172 {n o : Int} (F : zFin h) (T : zOT h) (C : zCO h) (k0 : ¬ ((2 ≤ n ∧ n ≤ 7) ∧ 0 ≤ o ∧ o < zFc n) → K (some (zL (-1))) h) (k1 : (2 ≤ n ∧ n ≤ 7) → 0 ≤ o → o < zFc n → ∀ h', zCy h h' → K (some (zL (zTl n.toNat o.toNat : Int))) h') : zC X 172 [zR 0, zI n, zI o] h K := by
  refine sg_172_0 F (fun c => ⟨rfl, k0 c⟩) fun c => ?_
  obtain ⟨c1, c4, c5⟩ := c
  have kk := k1 c1 c4 c5
  clear k1 k0
  have e1 : n = ((n.toNat : Nat) : Int) := by omega
  have e2 : o = ((o.toNat : Nat) : Int) := by omega
  have ho : o.toNat < zfac n.toNat := by unfold zFc at c5; omega
  generalize n.toNat = a at *
  generalize o.toNat = b at *
  subst e1; subst e2
  exact cx_37 F T C ⟨by omega, by omega⟩ ho fun h' F' T' C' r1 r2 fr D => sg_172_21c ⟨rfl, kk h' ⟨F', T', C', r1, fr⟩⟩
/-- hasRank -/
theorem cx_204 {n o r : Int} (F : zFin h) (T : zOT h) (C : zCO h) (k0 : ¬ (((2 ≤ n ∧ n ≤ 7) ∧ 0 ≤ o ∧ o < zFc n) ∧ 0 ≤ r ∧ r < (zTl n.toNat o.toNat : Int)) → ∀ h', zCy h h' → K (some (zI 0)) h') (k1 : ∀ a b c : Nat, (2 ≤ a ∧ a ≤ 7) → b < zfac a → c < zTl a b → n = (a : Int) → o = (b : Int) → r = (c : Int) → ∀ h', zCy h h' → (a : Int) ≤ h' 1 1 → (∀ o, o < zfac a → h' 4 o = (zTl a o : Int)) → K (some (zI 1)) h') : zC X 204 [zR 0, zI n, zI o, zL r] h K := by
  refine sg_204_0 F (fun c => ⟨rfl, k0 (fun z => c z.1) h (zCy.rf F T C)⟩) (fun _ c => ⟨rfl, k0 (fun z => by omega) h (zCy.rf F T C)⟩) (fun c c0 => ?_)
  obtain ⟨c1, c4, c5⟩ := c
  have e1 : n = ((n.toNat : Nat) : Int) := by omega
  have e2 : o = ((o.toNat : Nat) : Int) := by omega
  have e3 : r = ((r.toNat : Nat) : Int) := by omega
  have ho : o.toNat < zfac n.toNat := by unfold zFc at c5; omega
  generalize n.toNat = a at *
  generalize o.toNat = b at *
  generalize r.toNat = c at *
  subst e1; subst e2; subst e3
  refine cx_37 F T C ⟨by omega, by omega⟩ ho fun h' F' T' C' r1 r2 fr D => sg_204_28c (fun z => ⟨rfl, k0 (fun w => ?_) h' ⟨F', T', C', r1, fr⟩⟩) (fun z => ⟨rfl, k1 a b c ⟨by omega, by omega⟩ ho (by omega) rfl rfl rfl h' ⟨F', T', C', r1, fr⟩ r2 D⟩)
  have := w.2.2
  omega
/-- rung -/
theorem cx_173 {n o r i : Int} (F : zFin h) (T : zOT h) (C : zCO h) (k0 : ¬ (((2 ≤ n ∧ n ≤ 7) ∧ 0 ≤ o ∧ o < zFc n) ∧ 0 ≤ r ∧ r < (zTl n.toNat o.toNat : Int) ∧ 0 ≤ i ∧ i < (zinvs n.toNat o.toNat : Int)) → ∀ h', zCy h h' → K (some (zI (-1))) h') (k1 : (2 ≤ n ∧ n ≤ 7) → 0 ≤ o → o < zFc n → 0 ≤ r → r < (zTl n.toNat o.toNat : Int) → 0 ≤ i → i < (zinvs n.toNat o.toNat : Int) → ∀ h', zCy h h' → K (some (zI (zlet n.toNat o.toNat r.toNat i.toNat : Int))) h') : zC X 173 [zR 0, zI n, zI o, zL r, zI i] h K := by
  refine sg_173_0 (cx_204 F T C (fun c h' y => sg_173_7c y.1 (fun a => absurd rfl a) (fun _ => ⟨rfl, k0 (fun z => c ⟨z.1, z.2.1, z.2.2.1⟩) h' y⟩)) fun a b c ha hb hc en eo er h' y r2 D => ?_)
  subst en; subst eo; subst er
  have h5 := zfac7 ha.2
  have h21 := zinvs_le (o := b) ha.2
  rw [Int.toNat_natCast, Int.toNat_natCast] at k0 k1
  refine sg_173_7c y.1 (fun _ => cx_81 ha.2 (by omega) ?_) (fun z => absurd z (by decide))
  refine sg_173_21c y.1 (fun z => ⟨rfl, k0 (by omega) h' y⟩) (fun z1 z2 => ?_) (fun _ z => ⟨rfl, k0 (by omega) h' y⟩)
  refine cx_40 y.1 y.2.1 ha r2 D hb hc (sg_173_47c ?_)
  have hW := zwv_lt ha.2 hb hc (zinvs a b) (Nat.le_refl _)
  have hp : 8 ^ zinvs a b ≤ 8 ^ 21 := Nat.pow_le_pow_right (by decide) h21
  have h63 : 8 ^ 21 = 9223372036854775808 := by decide
  have kk := k1 (by omega) (by omega) (zFc_c hb) (by omega) (by omega) z1 z2 h' y
  have ei : i = ((i.toNat : Nat) : Int) := by omega
  rw [Int.toNat_natCast] at kk
  rw [← zwv_at ha.2 hb hc (i := i.toNat) (zinvs a b) (Nat.le_refl _) (by omega)] at kk
  generalize i.toNat = j at *
  subst ei
  exact cx_147 (by omega) (by omega) h21 (sg_173_54c ⟨rfl, kk⟩)
/-- rank -/
theorem cx_174 {t : Int} (F : zFin h) (T : zOT h) (C : zCO h) (S : zCS h N s A) (k0 : ¬ (0 ≤ t ∧ t < (N : Int)) → K (some (zL (-1))) h) (k2 : ∀ u : Nat, u < N → t = (u : Int) → ¬ (zplb (A u).2.2 (A u).2.1 = true ∧ zinvs (A u).1 (zru (A u).1 (A u).2.2 0 9999 (A u).2.1 0) = (A u).2.1) → K (some (zL (-2))) h) (k1 : ∀ u : Nat, u < N → t = (u : Int) → zplb (A u).2.2 (A u).2.1 = true → zinvs (A u).1 (zru (A u).1 (A u).2.2 0 9999 (A u).2.1 0) = (A u).2.1 → ∀ h', zCy h h' → K (some (zL (zrks (A u).1 (zru (A u).1 (A u).2.2 0 9999 (A u).2.1 0) (fun i => ((A u).2.2 i).2.1) (A u).2.1 : Int))) h') : zC X 174 [zR 0, zI t] h K := by
  have S' := S
  obtain ⟨s1, s2, s3, s4, s5, s6⟩ := S
  refine sg_174_0 (cx_202 F S' (fun c => sg_174_5cz ⟨rfl, k0 c⟩) (fun u hu htu => ?_))
  obtain ⟨hl, L, hr, -, -⟩ := s5 u hu
  have hpu := zLadT (t := u) (by omega)
  have q1 := L.1
  have q2 := L.2.1
  have hz := zfac_pos (A u).1
  have h5 := zfac7 hl.1.2
  have he := zru_lt hl (th := 0) (sk := 9999) hz _ (Nat.le_refl _)
  refine sg_174_5c hpu (by omega) (cx_32 F hpu L hl (fun p => ?_) (fun p => ?_))
  · refine sg_174_18c F (fun _ => ?_) (fun z => absurd z (by decide))
    refine cx_89 (o := 0) (th := 0) F T hpu L hl hr hz (by omega) (sg_174_35c F hpu ?_)
    rw [q1, q2]
    refine cx_81 hl.1.2 (by omega) (sg_174_52c F (fun z => ⟨rfl, k2 u hu htu (fun w => z (by rw [w.2]))⟩) (fun z => ?_))
    have em : zinvs (A u).1 (zru (A u).1 (A u).2.2 0 9999 (A u).2.1 0) = (A u).2.1 := by omega
    exact cx_41 F T C hpu (by omega) L hl he fun h' F' T' C' r1 fr => sg_174_76c ⟨rfl, k1 u hu htu ((zplb_iff _ _).mpr p) em h' ⟨F', T', C', r1, fr⟩⟩
  · exact sg_174_18c F (fun a => absurd rfl a) (fun _ => ⟨rfl, k2 u hu htu (fun w => p ((zplb_iff _ _).mp w.1))⟩)
end
