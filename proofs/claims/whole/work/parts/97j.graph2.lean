/-! THE CLASS: THE GRAPH OF WORDS, LAID -/
section
variable {X : List Int} {h : zHP} {K : Option zAV → zHP → Prop}
theorem zCO_fr {h h' : zHP} (C : zCO h) (f3 : h' 3 = h 3) (f4 : h' 4 = h 4) : zCO h' := by
  obtain ⟨q, a, b, c⟩ := C
  exact ⟨q, by rw [f3]; exact a, b, fun o ho => by rw [f4]; exact c o ho⟩
/-- lay -/
theorem cx_148 {n o : Nat} (F : zFin h) (T : zOT h) (C : zCO h) (G : zGL h) (hn : 2 ≤ n ∧ n ≤ 7) (ho : o < zfac n) (k0 : 800 < zTl n o → ∀ h', zGy h h' → K (some (zI 0)) h') (k1 : zTl n o ≤ 800 → ∀ h', zGy h h' → zGG h' n o → K (some (zI 1)) h') : zC X 148 [zR 24, zI n, zI o] h K := by
  have h5 := zfac7 hn.2
  refine sg_148_0 F (cx_37 F T C hn ho fun h1 F1 T1 C1 r1 r2 fr1 D => ?_)
  have e24 : ∀ i, h1 24 i = h 24 i := fun i => by rw [fr1 24 (by decide)]
  have G1 : zGL h1 := G.keep (e24 5) (e24 6) (e24 8) (e24 9) fun r => by rw [fr1 25 (by decide)]
  have Y1 : zGy h h1 := ⟨F1, T1, C1, r1, fr1.mono (by simp), G1⟩
  by_cases big : 800 < zTl n o
  · exact sg_148_9c F1 (fun z => by omega) (fun z => by omega) (fun z => by omega) (fun z => by omega) (fun z => by omega) (fun _ => ⟨rfl, k0 big h1 Y1⟩)
  · by_cases same : h1 24 8 = (n : Int) ∧ h1 24 9 = (o : Int)
    · have GG : zGG h1 n o := by
        rcases G1 with z | ⟨n', o', a, b, c⟩
        · omega
        · have en : n' = n := by omega
          have eo : o' = o := by omega
          rw [en, eo] at c
          exact c
      exact sg_148_9c F1 (fun _ z => absurd same.1.symm z) (fun _ z => absurd same.1.symm z) (fun _ _ z => absurd same.2.symm z) (fun _ _ z => absurd same.2.symm z) (fun _ _ _ => ⟨rfl, k1 (by omega) h1 Y1 GG⟩) (fun z => by omega)
    · have loop : ∀ (q r : Nat) (h4 : zHP) (x5 : Int), zTl n o - r = q → r ≤ zTl n o → x5 = (r : Int) → zFin h4 → zfr [24, 25] h1 h4 → h4 24 8 = (n : Int) → h4 24 9 = (o : Int) → h4 24 5 = (zTl n o : Int) → h4 24 6 = (zinvs n o : Int) → (∀ j, j < r → h4 25 j = (zwv n o j (zinvs n o) : Int)) → zAt X 148 73 0 0 [some (zR 24), some (zI (n : Int)), some (zI (o : Int)), none, none, some (zI x5)] [] zSHc h4 (fun v sh' h' => sh' = zSHc ∧ K v h') := by
        intro q
        induction q with
        | zero =>
          intro r h4 x5 hq hr e5 F4 fr4 f8 f9 f5 f6 W
          have er : r = zTl n o := by omega
          rw [er] at W
          have GG : zGG h4 n o := ⟨hn, ho, by omega, f5, f6, W⟩
          have Y4 : zGy h h4 := ⟨F4, T1.fr (fr4 1 (by decide)) (fr4 2 (by decide)), zCO_fr C1 (fr4 3 (by decide)) (fr4 4 (by decide)), by rw [fr4 1 (by decide)]; exact r1, (fr1.mono (by simp)).trans (fr4.mono (by simp)), Or.inr ⟨n, o, f8, f9, GG⟩⟩
          exact sg_148_73 F4 (fun _ => ⟨rfl, k1 (by omega) h4 Y4 GG⟩) (fun z => by omega) (fun z => by omega)
        | succ q ih =>
          intro r h4 x5 hq hr e5 F4 fr4 f8 f9 f5 f6 W
          refine sg_148_73 F4 (fun z => by omega) (fun _ z => by omega) (fun _ _ => ?_)
          rw [e5]
          refine cx_40 (r := r) F4 (T1.fr (fr4 1 (by decide)) (fr4 2 (by decide))) hn (by rw [fr4 1 (by decide)]; exact r2) (fun a ha => by rw [fr4 4 (by decide)]; exact D a ha) ho (by omega) (sg_148_110c (by omega) (by omega) ?_)
          refine ih (r + 1) _ _ (by omega) (by omega) (by omega) (F4.upA zfa_25) (fr4.up (by simp)) (by rw [zup_c (by decide)]; exact f8) (by rw [zup_c (by decide)]; exact f9) (by rw [zup_c (by decide)]; exact f5) (by rw [zup_c (by decide)]; exact f6) fun j hj => ?_
          rw [show ((r : Nat) : Int).toNat = r by omega]
          by_cases c : j = r
          · rw [c, zup_eq]
          · rw [zup_k c]; exact W j (by omega)
      have lay : zAt X 148 73 0 0 [some (zR 24), some (zI (n : Int)), some (zI (o : Int)), none, none, some (zI 0)] [] zSHc (zup (zup (zup (zup h1 24 8 (n : Int)) 24 9 (o : Int)) 24 5 (zTl n o : Int)) 24 6 (zinvs n o : Int)) (fun v sh' h' => sh' = zSHc ∧ K v h') := by
        refine loop (zTl n o) 0 _ 0 rfl (Nat.zero_le _) rfl ((((F1.up (by decide)).up (by decide)).up (by decide)).up (by decide)) (((((zfr.rfl).up (by simp)).up (by simp)).up (by simp)).up (by simp)) ?_ ?_ ?_ zup_eq fun j hj => by omega
        · rw [zup_k (by decide), zup_k (by decide), zup_k (by decide), zup_eq]
        · rw [zup_k (by decide), zup_k (by decide), zup_eq]
        · rw [zup_k (by decide), zup_eq]
      refine sg_148_9c F1 (fun _ _ => by omega) (fun _ _ => ?_) (fun _ _ _ => by omega) (fun _ _ _ => ?_) (fun _ a b => absurd ⟨a.symm, b.symm⟩ same) (fun z => by omega)
      all_goals exact cx_81 hn.2 (by omega) (sg_148_67c lay)
end
