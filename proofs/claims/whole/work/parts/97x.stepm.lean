/-! THE REFERENCE: TURNS, MOVES -/
def zWyy (h h' : zHP) : Prop := zFin h' ∧ zfr [108, 136, 137, 138, 139, 140, 141, 142, 145, 146, 147] h h' ∧ (∀ i, i ≠ 38 → i ≠ 39 → h' 108 i = h 108 i) ∧ zML h'
theorem zWyy.ly {h h' : zHP} (y : zLy h h') : zWyy h h' := ⟨y.1, y.2.1.mono (by simp), y.2.2.1, y.2.2.2⟩
theorem zWyy.w {h h' h2 : zHP} (y : zWyy h h') (F : zFin h2) (fr : zfr [142, 145, 146, 147] h' h2) : zWyy h h2 := ⟨F, y.2.1.trans (fr.mono (by simp)), fun i a b => by rw [fr 108 (by decide)]; exact y.2.2.1 i a b, y.2.2.2.keep (by rw [fr 108 (by decide)]) (by rw [fr 108 (by decide)]) fun c a b => fr c (by simp; omega)⟩
theorem zMO.w2 {h h2 : zHP} {n : Nat} (M : zMO h n) (fr : zfr [142, 145, 146, 147] h h2) : zMO h2 n := M.kp fun c hc => fr c (by simp; omega)
section
variable {X : List Int} {h : zHP} {K : Option zAV → zHP → Prop}
/-- steps -/
theorem cm_284 {n o r r2 z : Int} {c : Nat} (F : zFin h) (L : zML h) (hc : c = 0 ∨ c = 1) (hz : z = (c : Int)) (k0 : ¬ (((2 ≤ n ∧ n ≤ 7) ∧ 0 ≤ o ∧ o < zFc n) ∧ (0 ≤ r ∧ r < (zTl n.toNat o.toNat : Int)) ∧ 0 ≤ r2 ∧ r2 < (zTl n.toNat o.toNat : Int)) → ∀ h', zWyy h h' → K (some (zI (-1))) h') (k2 : ∀ a b u w : Nat, (2 ≤ a ∧ a ≤ 7) → b < zfac a → u < zTl a b → w < zTl a b → n = (a : Int) → o = (b : Int) → r = (u : Int) → r2 = (w : Int) → 800 < zTl a b → ∀ h', zWyy h h' → K (some (zI (-2))) h') (k1 : ∀ a b u w : Nat, (2 ≤ a ∧ a ≤ 7) → b < zfac a → u < zTl a b → w < zTl a b → n = (a : Int) → o = (b : Int) → r = (u : Int) → r2 = (w : Int) → zTl a b ≤ 800 → ∀ h' D, zDs (zTl a b) (zES a b) (zET a b) c u D → zWyy h h' → K (some (zI (D w))) h') : zC X 284 [zR 108, zI n, zI o, zI r, zI r2, zI z] h K := by
  refine sg_284_0 (cm_or (fun no => sg_284_6c (fun a => absurd rfl a) (fun _ => ⟨rfl, k0 (fun q => no q.1) h (zWyy.ly (zLy.rf F L))⟩)) (fun a b ha hb ea eb => sg_284_6c (fun _ => ?_) (fun q => absurd q (by decide))))
  have ho := zFc_c hb
  refine cm_lay F L ha ea fun h1 Y1 M1 => ?_
  have h5 := zfac7 ha.2
  have e140 : h1 140 o.toNat = (zTl a b : Int) := by rw [show o.toNat = b by omega]; exact M1.2.2.2.2 b hb
  have et : zTl n.toNat o.toNat = zTl a b := by rw [ea, eb, Int.toNat_natCast, Int.toNat_natCast]
  rw [et] at k0
  by_cases g : (0 ≤ r ∧ r < (zTl a b : Int)) ∧ 0 ≤ r2 ∧ r2 < (zTl a b : Int)
  · have nf : ∀ h2, zWyy h h2 → 800 < zTl a b → K (some (zI (-2))) h2 := fun h2 y big => k2 a b r.toNat r2.toNat ha hb (by omega) (by omega) ea eb (by omega) (by omega) big h2 y
    refine sg_284_16c Y1.1 (fun q => by omega) (fun _ q => by omega) (fun _ _ => by omega) (fun _ _ q => by omega) (fun _ _ _ _ le => ?_) (fun _ _ _ _ big => ⟨rfl, nf h1 (zWyy.ly Y1) (by omega)⟩) (fun _ _ _ q => by omega)
    rw [ea, eb]
    refine cm_282 Y1.1 M1 ha.2 hb (by omega) fun h2 F2 fr2 W2 => ?_
    have M2 := M1.w2 (fr2.mono (by simp))
    have f140 : h2 140 ((b : Int)).toNat = (zTl a b : Int) := by rw [Int.toNat_natCast]; exact M2.2.2.2.2 b hb
    refine sg_284_74c F2 (by omega) (by omega) ?_
    refine cm_283 (b := r.toNat) F2 ha.2 hb (by omega) W2 (by omega) hc f140 (by omega) hz fun h3 F3 fr3 H3 => ?_
    refine sg_284_88c F3 (by omega) ⟨rfl, ?_⟩
    have kk := k1 a b r.toNat r2.toNat ha hb (by omega) (by omega) ea eb (by omega) (by omega) (by omega) h3 (fun j => h3 147 j) H3 ((zWyy.ly Y1).w F3 ((fr2.mono (by simp)).trans (fr3.mono (by simp))))
    exact kk
  · have nf : K (some (zI (-1))) h1 := k0 (fun q => g q.2) h1 (zWyy.ly Y1)
    exact sg_284_16c Y1.1 (fun _ => ⟨rfl, nf⟩) (fun _ _ => ⟨rfl, nf⟩) (fun _ _ => by omega) (fun _ _ _ => ⟨rfl, nf⟩) (fun _ _ _ _ _ => by omega) (fun _ _ _ _ _ => by omega) (fun _ _ _ _ => ⟨rfl, nf⟩)
/-- turns -/
theorem cm_285 {n o r r2 : Int} (F : zFin h) (L : zML h) (k0 : ¬ (((2 ≤ n ∧ n ≤ 7) ∧ 0 ≤ o ∧ o < zFc n) ∧ (0 ≤ r ∧ r < (zTl n.toNat o.toNat : Int)) ∧ 0 ≤ r2 ∧ r2 < (zTl n.toNat o.toNat : Int)) → ∀ h', zWyy h h' → K (some (zI (-1))) h') (k2 : ∀ a b u w : Nat, (2 ≤ a ∧ a ≤ 7) → b < zfac a → u < zTl a b → w < zTl a b → n = (a : Int) → o = (b : Int) → r = (u : Int) → r2 = (w : Int) → 800 < zTl a b → ∀ h', zWyy h h' → K (some (zI (-2))) h') (k1 : ∀ a b u w : Nat, (2 ≤ a ∧ a ≤ 7) → b < zfac a → u < zTl a b → w < zTl a b → n = (a : Int) → o = (b : Int) → r = (u : Int) → r2 = (w : Int) → zTl a b ≤ 800 → ∀ h' D, zDs (zTl a b) (zES a b) (zET a b) 0 u D → zWyy h h' → K (some (zI (D w))) h') : zC X 285 [zR 108, zI n, zI o, zI r, zI r2] h K :=
  sg_285_0 (cm_284 (c := 0) F L (by decide) rfl (fun q h' Y => sg_285_10c ⟨rfl, k0 q h' Y⟩) (fun a b u w a1 a2 a3 a4 a5 a6 a7 a8 a9 h' Y => sg_285_10c ⟨rfl, k2 a b u w a1 a2 a3 a4 a5 a6 a7 a8 a9 h' Y⟩) (fun a b u w a1 a2 a3 a4 a5 a6 a7 a8 a9 h' D H Y => sg_285_10c ⟨rfl, k1 a b u w a1 a2 a3 a4 a5 a6 a7 a8 a9 h' D H Y⟩))
/-- moves -/
theorem cm_286 {n o r r2 : Int} (F : zFin h) (L : zML h) (k0 : ¬ (((2 ≤ n ∧ n ≤ 7) ∧ 0 ≤ o ∧ o < zFc n) ∧ (0 ≤ r ∧ r < (zTl n.toNat o.toNat : Int)) ∧ 0 ≤ r2 ∧ r2 < (zTl n.toNat o.toNat : Int)) → ∀ h', zWyy h h' → K (some (zI (-1))) h') (k2 : ∀ a b u w : Nat, (2 ≤ a ∧ a ≤ 7) → b < zfac a → u < zTl a b → w < zTl a b → n = (a : Int) → o = (b : Int) → r = (u : Int) → r2 = (w : Int) → 800 < zTl a b → ∀ h', zWyy h h' → K (some (zI (-2))) h') (k1 : ∀ a b u w : Nat, (2 ≤ a ∧ a ≤ 7) → b < zfac a → u < zTl a b → w < zTl a b → n = (a : Int) → o = (b : Int) → r = (u : Int) → r2 = (w : Int) → zTl a b ≤ 800 → ∀ h' D, zDs (zTl a b) (zES a b) (zET a b) 1 u D → zWyy h h' → K (some (zI (D w))) h') : zC X 286 [zR 108, zI n, zI o, zI r, zI r2] h K :=
  sg_286_0 (cm_284 (c := 1) F L (by decide) rfl (fun q h' Y => sg_286_10c ⟨rfl, k0 q h' Y⟩) (fun a b u w a1 a2 a3 a4 a5 a6 a7 a8 a9 h' Y => sg_286_10c ⟨rfl, k2 a b u w a1 a2 a3 a4 a5 a6 a7 a8 a9 h' Y⟩) (fun a b u w a1 a2 a3 a4 a5 a6 a7 a8 a9 h' D H Y => sg_286_10c ⟨rfl, k1 a b u w a1 a2 a3 a4 a5 a6 a7 a8 a9 h' D H Y⟩))
end
