/-! THE CLASS: TURNS ARE REACHED -/
section
variable {X : List Int} {h : zHP} {K : Option zAV → zHP → Prop}
/-- reachByTurns -/
theorem cx_154 {n o r : Nat} {L : List Nat} {D : Nat → Int} {x s : Int} (F : zFin h) (G : zGG h n o) (hr : r < zTl n o) (hx : x = (r : Int)) (hs : s ≠ -1) (B : zBS h (zTl n o) L D) (k : ∀ h' L' D', zBr (zTl n o) (fun j => ∃ a, zisT n o r a ∧ ztnr n o r a = j) s L L' D D' → zBS h' (zTl n o) L' D' → zGz h h' → K none h') : zC X 154 [zR 24, zI x, zI s] h K := by
  have hn := G.1
  have ho := G.2.1
  have h8 := G.2.2.1
  have m21 := zinvs_le (o := o) hn.2
  have V := zvw_let ho hr
  have hf : ∀ j, j < zinvs n o → zlet n o r j < 8 := fun j hj => by
    have := (V.2 j hj).1
    omega
  have W : zWrd h x = (zwf (zlet n o r) (zinvs n o) : Int) := G.wrd hr hx
  refine sg_154_0 F ?_
  rw [W]
  have loop : ∀ (q a : Nat) (h1 : zHP) (L1 : List Nat) (D1 : Nat → Int) (x5 : Int), zinvs n o - 2 - a = q → x5 = (a : Int) → a ≤ 21 → zGz h h1 → zBr (zTl n o) (fun j => ∃ b, b < a ∧ zisT n o r b ∧ ztnr n o r b = j) s L L1 D D1 → zBS h1 (zTl n o) L1 D1 → zAt X 154 9 0 0 [some (zR 24), none, some (zI s), some (zL (zwf (zlet n o r) (zinvs n o) : Int)), none, some (zI x5), none, none, none, none] [] zSHc h1 (fun v sh' h' => sh' = zSHc ∧ K v h') := by
    intro q
    induction q with
    | zero =>
      intro a h1 L1 D1 x5 hq h5 ha Z R B1
      have e6 : h1 24 6 = (zinvs n o : Int) := (G.gz Z).2.2.2.2.1
      have kk := k h1 L1 D1 (R.cg fun j _ => ⟨fun ⟨b, _, b2⟩ => ⟨b, b2⟩, fun ⟨b, b2⟩ => ⟨b, by have := b2.1.1; omega, b2⟩⟩) B1 Z
      exact sg_154_9 (by omega) (fun _ => ⟨rfl, kk⟩) (fun z => by omega)
    | succ q ih =>
      intro a h1 L1 D1 x5 hq h5 ha Z R B1
      have G1 := G.gz Z
      have e6 : h1 24 6 = (zinvs n o : Int) := G1.2.2.2.2.1
      have am : a + 2 < zinvs n o := by omega
      have l1 := hf a (by omega)
      have l2 := hf (a + 1) (by omega)
      have step : ∀ (h2 : zHP) (L2 : List Nat) (D2 : Nat → Int), zGz h1 h2 → zBr (zTl n o) (fun j => zisT n o r a ∧ ztnr n o r a = j) s L1 L2 D1 D2 → zBS h2 (zTl n o) L2 D2 → zAt X 154 9 0 0 [some (zR 24), none, some (zI s), some (zL (zwf (zlet n o r) (zinvs n o) : Int)), none, some (zI (x5 + 1)), none, none, none, none] [] zSHc h2 (fun v sh' h' => sh' = zSHc ∧ K v h') := fun h2 L2 D2 Z2 R2 B2 => by
        refine ih (a + 1) h2 L2 D2 _ (by omega) (by omega) (by omega) (Z.tr Z2) ((R.tr hs R2).cg fun j _ => ⟨?_, ?_⟩) B2
        · rintro (⟨b, b1, b2⟩ | z)
          · exact ⟨b, by omega, b2⟩
          · exact ⟨a, by omega, z⟩
        · rintro ⟨b, b1, b2⟩
          by_cases c : b = a
          · rw [c] at b2; exact Or.inr b2
          · exact Or.inl ⟨b, by omega, b2⟩
      refine sg_154_9 (by omega) (fun z => by omega) (fun _ => ?_)
      refine cx_let (f := zlet n o r) (i := a) hf m21 (by omega) rfl e6 h5 (sg_154_30c (by omega) ?_)
      refine cx_let (f := zlet n o r) (i := a + 1) hf m21 (by omega) rfl e6 (by omega) (sg_154_44c (by omega) ?_)
      refine cx_let (f := zlet n o r) (i := a + 2) hf m21 am rfl e6 (by omega) ?_
      by_cases same : zlet n o r (a + 2) = zlet n o r a
      · by_cases near : zlet n o r (a + 1) = zlet n o r a + 1 ∨ zlet n o r a = zlet n o r (a + 1) + 1
        · have ab : zabs ((zlet n o r a : Int) - (zlet n o r (a + 1) : Int)) = 1 := by
            unfold zabs
            split <;> omega
          have S : zisT n o r a := ⟨am, same, near⟩
          obtain ⟨mk, m1, m2⟩ := ztn_m hf m21 am same (x := (zwf (zlet n o r) (zinvs n o) : Int)) (u := (zlet n o r a : Int)) (v := (zlet n o r (a + 1) : Int)) (y := h1 24 6) (z := x5) rfl rfl rfl e6 h5
          obtain ⟨s1, s2⟩ := ztnr_ok ho hr S
          refine sg_154_60c (fun z => by omega) (fun z => by omega) (fun _ => by omega) (fun _ => by omega) (fun _ z => by omega) (fun _ z => by omega) (fun _ _ => by omega) (fun _ _ => by omega) (fun _ _ => by omega) (fun _ _ => by omega) (fun _ _ => ?_)
          rw [mk]
          refine cx_156 (s := ztnr n o r a) Z.1 G1 s1 (by rw [zwf_congr _ s2]) (sg_154_108c ?_)
          refine cx_152 (i := ztnr n o r a) Z.1 G1.2.2.2.1 h8 B1 s1 rfl fun h2 L2 D2 R2 B2 Z2 => sg_154_112c (by omega) ?_
          exact step h2 L2 D2 Z2 (R2.cg fun j _ => ⟨fun z => ⟨S, z.symm⟩, fun z => z.2.symm⟩) (B2 hs)
        · have ab : ¬ zabs ((zlet n o r a : Int) - (zlet n o r (a + 1) : Int)) = 1 := by
            unfold zabs
            split <;> omega
          have nx := step h1 L1 D1 (zGz.rf Z.1) (zBr.rf fun j _ _ z => near z.1.2.2) B1
          exact sg_154_60c (fun z => by omega) (fun z => by omega) (fun _ => by omega) (fun _ => by omega) (fun _ _ => by omega) (fun _ _ => nx) (fun _ z => absurd z ab) (fun _ z => absurd z ab) (fun _ z => absurd z ab) (fun _ z => absurd z ab) (fun _ z => absurd z ab)
      · have nx := step h1 L1 D1 (zGz.rf Z.1) (zBr.rf fun j _ _ z => same z.1.2.1) B1
        exact sg_154_60c (fun _ => by omega) (fun _ => nx) (fun z => by omega) (fun z => by omega) (fun z => by omega) (fun z => by omega) (fun z => by omega) (fun z => by omega) (fun z => by omega) (fun z => by omega) (fun z => by omega)
  exact loop _ 0 h L D 0 rfl rfl (by omega) (zGz.rf F) (zBr.rf fun j _ _ ⟨b, b1, _⟩ => by omega) B
end
