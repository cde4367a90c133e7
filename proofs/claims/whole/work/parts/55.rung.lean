section
variable {X : List Int} {h : zHP} {K : Option zAV → zHP → Prop} {N : Nat} {A : Nat → Nat × Nat × zel}
theorem zLy.w {h' h2 : zHP} (y : zLy h h') (F : zFin h2) (fr : zfr [142] h' h2) : zLy h h2 := ⟨F, y.2.1.trans (fr.mono (by simp)), fun i a b => by rw [fr 108 (by decide)]; exact y.2.2.1 i a b, y.2.2.2.keep (by rw [fr 108 (by decide)]) (by rw [fr 108 (by decide)]) fun c a b => fr c (by simp; omega)⟩
theorem zLy.rf (F : zFin h) (L : zML h) : zLy h h := ⟨F, zfr.rfl, fun _ _ _ => rfl, L⟩
theorem zMO.w {n : Nat} {h2 : zHP} (M : zMO h n) (fr : zfr [142] h h2) : zMO h2 n := by
  obtain ⟨m1, m2, m3, m4, m5⟩ := M
  refine ⟨by rw [fr 108 (by decide)]; exact m1, fun u hu i hi => ?_, ?_, ?_, ?_⟩
  · rw [fr 136 (by decide)]; exact m2 u hu i hi
  · rw [fr 137 (by decide), fr 138 (by decide)]; exact m3
  · rw [fr 139 (by decide)]; exact m4
  · rw [fr 140 (by decide)]; exact m5
/-- rung -/
theorem cm_275 {n o r i : Int} (F : zFin h) (L : zML h) (k0 : ¬ (((2 ≤ n ∧ n ≤ 7) ∧ 0 ≤ o ∧ o < zFc n) ∧ 0 ≤ r ∧ r < (zTl n.toNat o.toNat : Int) ∧ 0 ≤ i ∧ i < (zinvs n.toNat o.toNat : Int)) → ∀ h', zLy h h' → K (some (zI (-1))) h') (k1 : (2 ≤ n ∧ n ≤ 7) → 0 ≤ o → o < zFc n → 0 ≤ r → r < (zTl n.toNat o.toNat : Int) → 0 ≤ i → i < (zinvs n.toNat o.toNat : Int) → ∀ h', zLy h h' → K (some (zI (zlet n.toNat o.toNat r.toNat i.toNat : Int))) h') : zC X 275 [zR 108, zI n, zI o, zL r, zI i] h K := by
  refine sg_275_0 (cm_or (fun c => sg_275_6c (fun a => absurd rfl a) (fun _ => ⟨rfl, k0 (fun z => c z.1) h (zLy.rf F L)⟩)) fun a b ha hb en eo => ?_)
  subst en; subst eo
  have h5 := zfac7 ha.2
  have h21 := zinvs_le (o := b) ha.2
  refine sg_275_6c (fun _ => cm_lay F L ha rfl fun h' y M => ?_) (fun z => absurd z (by decide))
  have e1 : h' 140 (b : Int).toNat = (zTl a b : Int) := by rw [Int.toNat_natCast]; exact M.2.2.2.2 b hb
  have e2 : h' 139 (b : Int).toNat = (zinvs a b : Int) := by rw [Int.toNat_natCast]; exact M.2.2.2.1 b hb
  rw [Int.toNat_natCast, Int.toNat_natCast] at k0 k1
  refine sg_275_16c y.1 (fun z => ⟨rfl, k0 (by omega) h' y⟩) (fun _ => by omega) (fun _ z => ⟨rfl, k0 (by omega) h' y⟩) (fun _ _ z => ⟨rfl, k0 (by omega) h' y⟩) (fun z1 z2 z3 z4 => ?_) (fun _ _ _ z => ⟨rfl, k0 (by omega) h' y⟩)
  refine cm_273 y.1 M ha.2 hb (r := r.toNat) (by omega) rfl (by omega) fun h2 F2 fr2 W => ?_
  have kk := k1 (by omega) (by omega) (zFc_c hb) z1 (by omega) z3 (by omega) h2 (y.w F2 fr2)
  rw [← W i.toNat (by omega)] at kk
  exact sg_275_58c F2 (by omega) ⟨rfl, kk⟩
/-- rank -/
theorem cm_276 {t : Int} (F : zFin h) (M : zMS h N A) (L : zML h) (k0 : ¬ (0 ≤ t ∧ t < (N : Int)) → K (some (zL (-1))) h) (k2 : ∀ u : Nat, u < N → t = (u : Int) → ¬ (zplb (A u).2.2 (A u).2.1 = true ∧ zinvs (A u).1 (zru (A u).1 (A u).2.2 0 9999 (A u).2.1 0) = (A u).2.1) → ∀ h', zLy h h' → K (some (zL (-2))) h') (k1 : ∀ u : Nat, u < N → t = (u : Int) → zplb (A u).2.2 (A u).2.1 = true → zinvs (A u).1 (zru (A u).1 (A u).2.2 0 9999 (A u).2.1 0) = (A u).2.1 → ∀ h', zLy h h' → K (some (zL (zrks (A u).1 (zru (A u).1 (A u).2.2 0 9999 (A u).2.1 0) (fun i => ((A u).2.2 i).2.1) (A u).2.1 : Int))) h') : zC X 276 [zR 108, zI t] h K := by
  have hN := M.2.1
  have h0 := M.1
  refine sg_276_0 (fun c => ?_) (fun c => ⟨rfl, k0 (by omega)⟩)
  obtain ⟨u, hu⟩ : ∃ u : Nat, t = (u : Int) := ⟨t.toNat, by omega⟩
  have hu' : u < N := by omega
  obtain ⟨n1, n2⟩ := M.n hu' hu
  have hl := (M.2.2 u hu').1
  have hm := hl.2.1
  have hz := zfac_pos (A u).1
  have h5 := zfac7 hl.1.2
  refine cm_245 F M hu' hu (fun p => ?_) (fun p => ?_)
  · refine sg_276_17c F (fun _ => by omega) (fun _ => ?_) (fun z => absurd z (by decide))
    refine cm_lay F L hl.1 n1 fun h' y MO => ?_
    obtain ⟨n1', n2'⟩ := (M.ly y).n hu' hu
    refine sg_276_34c (cm_267 (th := 0) (o := 0) (sk := 9999) y.1 (M.ly y) hu' hu MO hz rfl (by omega) (fun i hi => by omega) ?_)
    have he := zru_lt hl (th := 0) (sk := 9999) hz _ (Nat.le_refl _)
    have e1 : h' 139 ((zru (A u).1 (A u).2.2 0 9999 (A u).2.1 0 : Nat) : Int).toNat = (zinvs (A u).1 (zru (A u).1 (A u).2.2 0 9999 (A u).2.1 0) : Int) := by rw [Int.toNat_natCast]; exact MO.2.2.2.1 _ he
    refine sg_276_42c y.1 (by omega) (by omega) (fun z => ?_) (fun z => ⟨rfl, k2 u hu' hu (fun w => z (by rw [e1, n2', w.2])) h' y⟩)
    have em : zinvs (A u).1 (zru (A u).1 (A u).2.2 0 9999 (A u).2.1 0) = (A u).2.1 := by omega
    have h21 := zinvs_le (o := zru (A u).1 (A u).2.2 0 9999 (A u).2.1 0) hl.1.2
    have kk := k1 u hu' hu p em
    generalize zru (A u).1 (A u).2.2 0 9999 (A u).2.1 0 = en at *
    have loop : ∀ (q i : Nat) (h2 : zHP) (x : Int), (A u).2.1 - i = q → i ≤ (A u).2.1 → x = (i : Int) → zFin h2 → zfr [142] h' h2 → (∀ j, j < i → h2 142 j = (((A u).2.2 j).2.1 : Int)) → zAt X 276 64 0 0 [some (zR 108), some (zI t), some (zI (en : Int)), some (zI x)] [] zSHc h2 (fun v sh' h' => sh' = zSHc ∧ K v h') := by
      intro q
      induction q with
      | zero =>
        intro i h2 x hq hi hx F2 fr2 W
        have y2 := y.w F2 fr2
        obtain ⟨b1, b2⟩ := (M.ly y2).n hu' hu
        have nx : zC X 274 [zR 108, zI (h2 109 t.toNat), zI (en : Int)] h2 (fun v h9 => zAt X 276 109 0 0 [none, none, none, none] (zpush v []) zSHc h9 (fun v sh' h' => sh' = zSHc ∧ K v h')) := by
          rw [b1]
          exact cm_274 F2 (MO.w fr2) hl.1.2 he rfl em (fun j hj => ⟨(hl.2.2.2 j hj).2.1, W j (by omega)⟩) (sg_276_109c ⟨rfl, kk h2 y2⟩)
        clear kk k0 k1 k2 W
        apply sg_276_64 F2 <;> intros <;> (try omega)
        all_goals exact nx
      | succ q ih =>
        intro i h2 x hq hi hx F2 fr2 W
        have y2 := y.w F2 fr2
        obtain ⟨b1, b2⟩ := (M.ly y2).n hu' hu
        obtain ⟨r1, r2, -⟩ := (M.ly y2).rd hu' hu (show i < (A u).2.1 by omega) hx
        have nx : zAt X 276 64 0 0 [some (zR 108), some (zI t), some (zI (en : Int)), some (zI (x + 1))] [] zSHc (zup h2 142 x.toNat (h2 112 (200 * t + x).toNat)) (fun v sh' h' => sh' = zSHc ∧ K v h') := by
          rw [r2]
          refine ih (i + 1) _ _ (by omega) (by omega) (by omega) (F2.upA zfa_142) (fr2.up (by simp)) fun j hj => ?_
          by_cases c : j = i
          · rw [c, show x.toNat = i by omega, zup_eq]
          · rw [zup_k (by omega)]; exact W j (by omega)
        clear kk k0 k1 k2 W ih
        apply sg_276_64 F2 <;> intros <;> (try omega)
        all_goals exact nx
    exact loop _ 0 h' 0 rfl (by omega) rfl y.1 zfr.rfl (fun j hj => by omega)
  · exact sg_276_17c F (fun a => absurd rfl a) (fun a => absurd rfl a) (fun _ => ⟨rfl, k2 u hu' hu (fun w => p w.1) h (zLy.rf F L)⟩)
end
