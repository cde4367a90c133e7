/-! THE CLASS: TURNS, MOVES -/
theorem zGL.fr {h h' : zHP} (G : zGL h) (f : zfr [1, 2, 3, 4] h h') : zGL h' := G.keep (by rw [f 24 (by decide)]) (by rw [f 24 (by decide)]) (by rw [f 24 (by decide)]) (by rw [f 24 (by decide)]) fun r => by rw [f 25 (by decide)]
theorem zGy.cy {h h' : zHP} (G : zGL h) (y : zCy h h') : zGy h h' := ⟨y.1, y.2.1, y.2.2.1, y.2.2.2.1, y.2.2.2.2.mono (by simp), G.fr y.2.2.2.2⟩
theorem zGy.tr {h h1 h2 : zHP} (a : zGy h h1) (b : zGy h1 h2) : zGy h h2 := ⟨b.1, b.2.1, b.2.2.1, Int.le_trans a.2.2.2.1 b.2.2.2.1, a.2.2.2.2.1.trans b.2.2.2.2.1, b.2.2.2.2.2⟩
theorem zGy.gz {h h1 h2 : zHP} (a : zGy h h1) (z : zGz h1 h2) : zGy h h2 := by
  obtain ⟨a1, a2, a3, a4, a5, a6⟩ := a
  have f := z.2.1
  exact ⟨z.1, a2.fr (f 1 (by decide)) (f 2 (by decide)), zCO_fr a3 (f 3 (by decide)) (f 4 (by decide)), by rw [f 1 (by decide)]; exact a4, a5.trans (f.mono (by simp)), a6.keep (z.2.2 5 (by decide)) (z.2.2 6 (by decide)) (z.2.2 8 (by decide)) (z.2.2 9 (by decide)) fun r => by rw [f 25 (by decide)]⟩
section
variable {X : List Int} {h : zHP} {K : Option zAV → zHP → Prop}
theorem cx_205 {n o r r2 z : Int} {c : Nat} (F : zFin h) (T : zOT h) (C : zCO h) (G : zGL h) (hc : c = 0 ∨ c = 1) (hz : z = (c : Int)) (k0 : ¬ (((2 ≤ n ∧ n ≤ 7) ∧ 0 ≤ o ∧ o < zFc n) ∧ (0 ≤ r ∧ r < (zTl n.toNat o.toNat : Int)) ∧ 0 ≤ r2 ∧ r2 < (zTl n.toNat o.toNat : Int)) → ∀ h', zGy h h' → K (some (zI (-1))) h') (k2 : ∀ a b u w : Nat, (2 ≤ a ∧ a ≤ 7) → b < zfac a → u < zTl a b → w < zTl a b → n = (a : Int) → o = (b : Int) → r = (u : Int) → r2 = (w : Int) → 800 < zTl a b → ∀ h', zGy h h' → K (some (zI (-2))) h') (k1 : ∀ a b u w : Nat, (2 ≤ a ∧ a ≤ 7) → b < zfac a → u < zTl a b → w < zTl a b → n = (a : Int) → o = (b : Int) → r = (u : Int) → r2 = (w : Int) → zTl a b ≤ 800 → ∀ h' D, zDs (zTl a b) (zES a b) (zET a b) c u D → zGy h h' → K (some (zI (D w))) h') : zC X 205 [zR 0, zI n, zI o, zI r, zI r2, zI z] h K := by
  refine sg_205_0 (cx_204 F T C (fun no h1 Y1 => sg_205_8c (fun _ => ⟨rfl, k0 (fun q => no ⟨q.1, q.2.1⟩) h1 (zGy.cy G Y1)⟩) (fun q => absurd rfl q)) (fun a b u ha hb hu en eo er h1 Y1 _ _ => sg_205_8c (fun q => absurd q (by decide)) (fun _ => ?_)))
  have G1 := zGy.cy G Y1
  refine cx_204 Y1.1 Y1.2.1 Y1.2.2.1 (fun no h2 Y2 => sg_205_20c Y2.1 (fun q => absurd rfl q) (fun _ => ⟨rfl, k0 (fun q => no ⟨q.1, q.2.2⟩) h2 (G1.tr (zGy.cy G1.2.2.2.2.2 Y2))⟩)) (fun a' b' w ha' hb' hw en' eo' er2 h2 Y2 _ _ => sg_205_20c Y2.1 (fun _ => ?_) (fun q => absurd q (by decide)))
  have ea : a' = a := by omega
  have eb : b' = b := by omega
  rw [ea, eb] at hw
  have G2 := G1.tr (zGy.cy G1.2.2.2.2.2 Y2)
  rw [en, eo]
  refine cx_148 Y2.1 Y2.2.1 Y2.2.2.1 G2.2.2.2.2.2 ha hb (fun big h3 Y3 => sg_205_34c Y3.1 (fun _ => ⟨rfl, k2 a b u w ha hb hu hw en eo er er2 big h3 (G2.tr Y3)⟩) (fun q => absurd rfl q)) (fun le h3 Y3 GG => sg_205_34c Y3.1 (fun q => absurd q (by decide)) (fun _ => ?_))
  exact cx_149 Y3.1 GG hu hw hc er er2 hz fun h4 D H Z4 => sg_205_49c ⟨rfl, k1 a b u w ha hb hu hw en eo er er2 le h4 D H ((G2.tr Y3).gz Z4)⟩
end
