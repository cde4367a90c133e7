/-! THE CLASS: DISTANCE -/
def zES (n o i j : Nat) : Prop := ∃ a, zisS n o i a ∧ zslr n o i a = j
def zET (n o i j : Nat) : Prop := ∃ a, zisT n o i a ∧ ztnr n o i a = j
theorem zBS.all {h : zHP} {N : Nat} {L : List Nat} {D : Nat → Int} {s : Int} (B : zBS h N L D) (H : ∀ i, i < L.length → D (L.getD i 0) ≤ s) : ∀ j, j < N → D j ≠ -1 → D j ≤ s := fun j hj hd => by
  obtain ⟨q, hq, e⟩ := List.getElem_of_mem ((B.2.2.2.2 j).mpr ⟨hj, hd⟩)
  have := H q hq
  rw [List.getD_eq_getElem?_getD, List.getElem?_eq_getElem hq] at this
  have e2 : (some L[q]).getD 0 = j := e
  rw [e2] at this
  exact this
section
variable {X : List Int} {h : zHP} {K : Option zAV → zHP → Prop}
theorem cx_149 {n o b t c : Nat} {x y z : Int} (F : zFin h) (G : zGG h n o) (hb : b < zTl n o) (ht : t < zTl n o) (hc : c = 0 ∨ c = 1) (hx : x = (b : Int)) (hy : y = (t : Int)) (hz : z = (c : Int)) (k : ∀ h' D, zDs (zTl n o) (zES n o) (zET n o) c b D → zGz h h' → K (some (zI (D t))) h') : zC X 149 [zR 24, zI x, zI y, zI z] h K := by
  have h8 := G.2.2.1
  have main : ∀ (q start s : Nat) (h1 : zHP) (L : List Nat) (D : Nat → Int) (x4 x5 : Int), zTl n o - start ≤ q → start ≤ L.length → s ≤ start → x4 = (start : Int) → x5 = (s : Int) → zGz h h1 → zBI (zTl n o) (zES n o) (zET n o) c b L D start → zBS h1 (zTl n o) L D → (∀ i, i < L.length → D (L.getD i 0) ≤ s) → (∀ i, start ≤ i → i < L.length → D (L.getD i 0) = s) → zAt X 149 31 0 0 [some (zR 24), none, some (zI y), some (zI z), some (zI x4), some (zI x5), none, none] [] zSHc h1 (fun v sh' h' => sh' = zSHc ∧ K v h') := by
    intro q
    induction q with
    | zero =>
      intro start s h1 L D x4 x5 hq hst hss h4 h5 Z I B U V
      have e7 := B.1
      have len := B.len
      have kk := k h1 D (I.fin B.2.2.2.2 (by omega)) Z
      have et : h1 26 y.toNat = D t := by rw [show y.toNat = t by omega]; exact B.2.2.1 t ht
      rw [← et] at kk
      exact sg_149_31 Z.1 (fun _ => by omega) (fun _ => ⟨rfl, kk⟩) (fun w => by omega) (fun w => by omega) (fun w => by omega)
    | succ q ih =>
      intro start s h1 L D x4 x5 hq hst hss h4 h5 Z I B U V
      have e7 := B.1
      have len := B.len
      by_cases done : L.length ≤ start
      · have kk := k h1 D (I.fin B.2.2.2.2 (by omega)) Z
        have et : h1 26 y.toNat = D t := by rw [show y.toNat = t by omega]; exact B.2.2.1 t ht
        rw [← et] at kk
        exact sg_149_31 Z.1 (fun _ => by omega) (fun _ => ⟨rfl, kk⟩) (fun w => by omega) (fun w => by omega) (fun w => by omega)
      · refine sg_149_31 Z.1 (fun w => by omega) (fun w => by omega) (fun _ w => by omega) (fun _ w => by omega) (fun _ _ => ?_)
        have grow : ∀ (e : Nat), start < e → ∀ (q3 a : Nat) (h1 : zHP) (L : List Nat) (D : Nat → Int) (x6 x7 : Int), e - a = q3 → start ≤ a → a ≤ e → e ≤ L.length → x6 = (e : Int) → x7 = (a : Int) → zGz h h1 → zBI (zTl n o) (zES n o) (zET n o) c b L D a → zBS h1 (zTl n o) L D → (∀ i, i < e → D (L.getD i 0) ≤ s) → (∀ i, start ≤ i → i < e → D (L.getD i 0) = s) → (∀ i, e ≤ i → i < L.length → D (L.getD i 0) = ((s + 1 : Nat) : Int)) → (c = 0 → ∀ i, start ≤ i → i < e → ∀ j, j < zTl n o → zES n o (L.getD i 0) j → D j ≠ -1 ∧ D j ≤ s) → zAt X 149 112 0 0 [some (zR 24), none, some (zI y), some (zI z), none, some (zI x5), some (zI x6), some (zI x7)] [] zSHc h1 (fun v sh' h' => sh' = zSHc ∧ K v h') := by
          intro e he q3
          induction q3 with
          | zero =>
            intro a h1 L D x6 x7 hq3 hsa hae heL h6 h7 Z I B U V W cl
            have ea : a = e := by omega
            rw [ea] at I
            have len := B.len
            refine sg_149_112 Z.1 (fun _ => by omega) (fun _ => ?_) (fun w => by omega) (fun w => by omega) (fun w => by omega)
            refine ih e (s + 1) h1 L D _ _ (by omega) heL (by omega) h6 (by omega) Z I B (fun i hi => ?_) W
            by_cases c1 : i < e
            · have := U i c1; omega
            · rw [W i (by omega) hi]; exact Int.le_refl _
          | succ q3 ih3 =>
            intro a h1 L D x6 x7 hq3 hsa hae heL h6 h7 Z I B U V W cl
            have len := B.len
            have aL : a < L.length := by omega
            obtain ⟨rd1, rd2, rd3⟩ := B.rd aL
            have e27 : h1 27 x7.toNat = ((L.getD a 0 : Nat) : Int) := by rw [show x7.toNat = a by omega]; exact rd3
            have Ds : D (L.getD a 0) = (s : Int) := V a hsa (by omega)
            have x5e : x5 + 1 = ((s + 1 : Nat) : Int) := by omega
            refine sg_149_112 Z.1 (fun w => by omega) (fun w => by omega) (fun _ => by omega) (fun _ => by omega) (fun _ => ?_)
            rw [x5e]
            refine cx_154 (r := L.getD a 0) Z.1 (G.gz Z) rd1 e27 (by omega) B fun h2 L2 D2 R2 B2 Z2 => ?_
            have len2 := R2.len
            have o2 : ∀ i, i < L.length → L2.getD i 0 = L.getD i 0 := fun i hi => R2.old hi
            have p2 : ∀ i, i < L.length → D2 (L2.getD i 0) = D (L.getD i 0) := fun i hi => by rw [o2 i hi]; exact R2.keep (B.rd hi).2.1
            obtain ⟨sd1, sd2, sd3⟩ := B2.rd (show a < L2.length by omega)
            have f27 : h2 27 x7.toNat = ((L2.getD a 0 : Nat) : Int) := by rw [show x7.toNat = a by omega]; exact sd3
            obtain ⟨v, l, pv, pl⟩ := I.1 _ rd1 rd2
            have vs : v = s := by omega
            rw [vs] at pl
            have I2 := I.step (v := s + 1) (by omega) (fun i hi => (B.rd hi).2.1) R2 (fun j _ _ w => ⟨l + 1, L.getD a 0, s, rd1, pl, Or.inr ⟨w, rfl⟩⟩)
            refine sg_149_134c Z2.1 (by omega) (by omega) ?_
            rw [x5e]
            refine cx_153 (r := L2.getD a 0) Z2.1 (G.gz (Z.tr Z2)) sd1 f27 (by omega) (B2) fun h3 L3 D3 R3 B3 Z3 => sg_149_149c (by omega) ?_
            have len3 := R3.len
            have o3 : ∀ i, i < L.length → L3.getD i 0 = L.getD i 0 := fun i hi => (R3.old (by omega)).trans (o2 i hi)
            have kp : ∀ j, D j ≠ -1 → D3 j = D j := fun j hj => by
              have a1 := R2.keep hj
              rw [R3.keep (by rw [a1]; exact hj), a1]
            have p3 : ∀ i, i < L.length → D3 (L3.getD i 0) = D (L.getD i 0) := fun i hi => by rw [o3 i hi]; exact kp _ (B.rd hi).2.1
            have U3 : ∀ i, i < e → D3 (L3.getD i 0) ≤ s := fun i hi => by rw [p3 i (by omega)]; exact U i hi
            have V3 : ∀ i, start ≤ i → i < e → D3 (L3.getD i 0) = s := fun i h1 hi => by rw [p3 i (by omega)]; exact V i h1 hi
            have W3 : ∀ i, e ≤ i → i < L3.length → D3 (L3.getD i 0) = ((s + 1 : Nat) : Int) := fun i h1 hi => by
              by_cases c1 : i < L.length
              · rw [p3 i c1]; exact W i h1 c1
              · by_cases c2 : i < L2.length
                · rw [R3.old c2, R3.keep (B2.rd c2).2.1]
                  exact (R2.fresh (by omega) c2).2.2.2
                · exact (R3.fresh (by omega) hi).2.2.2
            have all3 := B3.all (s := ((s + 1 : Nat) : Int)) fun i hi => by
              by_cases c1 : i < e
              · have := U3 i c1; omega
              · rw [W3 i (by omega) hi]; exact Int.le_refl _
            have I3 := I2.step (v := s + 1) (by omega) (fun i hi => (B2.rd hi).2.1) R3 (fun j hj hd w => by
              rw [o2 a aL] at w
              rcases hc with hc | hc
              · have q := (cl hc a hsa (by omega) j hj w).1
                rw [R2.keep q] at hd
                exact absurd hd q
              · exact ⟨l + 1, L.getD a 0, s, rd1, pl, Or.inl ⟨w, by omega⟩⟩)
            refine ih3 (a + 1) h3 L3 D3 x6 _ (by omega) (by omega) (by omega) (by omega) h6 (by omega) ((Z.tr Z2).tr Z3) ⟨I3.1, I3.2.1, fun i hi j hj => ?_⟩ B3 U3 V3 W3 (fun hc i h1 hi j hj w => ?_)
            · by_cases c1 : i < a
              · exact I3.2.2 i c1 j hj
              · have ei : i = a := by omega
                rw [ei, p3 a aL, o3 a aL, Ds]
                refine ⟨fun w => ?_, fun w => ?_⟩
                · rcases hc with hc | hc
                  · obtain ⟨q1, q2⟩ := cl hc a hsa (by omega) j hj w
                    rw [kp j q1]
                    exact ⟨q1, by omega⟩
                  · have q1 := R3.got (by omega) hj (by rw [o2 a aL]; exact w)
                    have := all3 j hj q1
                    exact ⟨q1, by omega⟩
                · have q1 := R2.got (by omega) hj w
                  have q2 : D3 j ≠ -1 := by rw [R3.keep q1]; exact q1
                  have := all3 j hj q2
                  exact ⟨q2, by omega⟩
            · rw [o3 i (by omega)] at w
              obtain ⟨q1, q2⟩ := cl hc i h1 hi j hj w
              rw [kp j q1]
              exact ⟨q1, q2⟩
        have close : ∀ (q2 a : Nat) (h1 : zHP) (L : List Nat) (D : Nat → Int) (x6 : Int), zTl n o - a = q2 → start ≤ a → a ≤ L.length → start < L.length → x6 = (a : Int) → zGz h h1 → zBI (zTl n o) (zES n o) (zET n o) c b L D start → zBS h1 (zTl n o) L D → (∀ i, i < L.length → D (L.getD i 0) ≤ s) → (∀ i, start ≤ i → i < L.length → D (L.getD i 0) = s) → (∀ i, start ≤ i → i < a → ∀ j, j < zTl n o → zES n o (L.getD i 0) j → D j ≠ -1) → zAt X 149 52 0 0 [some (zR 24), none, some (zI y), some (zI z), some (zI x4), some (zI x5), some (zI x6), none] [] zSHc h1 (fun v sh' h' => sh' = zSHc ∧ K v h') := by
          intro q2
          induction q2 with
          | zero =>
            intro a h1 L D x6 hq2 hsa haL hsL h6 Z I B U V cl
            have len := B.len
            have e7 := B.1
            have nx := grow L.length hsL _ start h1 L D (min (h1 24 7) 800) x4 rfl (Nat.le_refl _) (by omega) (Nat.le_refl _) (by omega) h4 Z I B U V (fun i a b => by omega) (fun _ i a1 a2 j hj w => by
              have q1 := cl i a1 (by omega) j hj w
              exact ⟨q1, B.all U j hj q1⟩)
            exact sg_149_52 Z.1 (fun _ => nx) (fun _ _ => nx) (fun _ _ w => by omega) (fun _ w => by omega) (fun _ w => by omega)
          | succ q2 ih2 =>
            intro a h1 L D x6 hq2 hsa haL hsL h6 Z I B U V cl
            have len := B.len
            have e7 := B.1
            by_cases go : c = 0 ∧ a < L.length
            · obtain ⟨rd1, rd2, rd3⟩ := B.rd go.2
              have e27 : h1 27 x6.toNat = ((L.getD a 0 : Nat) : Int) := by rw [show x6.toNat = a by omega]; exact rd3
              have Ds : D (L.getD a 0) = (s : Int) := V a hsa go.2
              obtain ⟨v, l, pv, pl⟩ := I.1 _ rd1 rd2
              have vs : v = s := by omega
              rw [vs] at pl
              refine sg_149_52 Z.1 (fun w => by omega) (fun _ w => by omega) (fun _ _ w => by omega) (fun _ _ _ => by omega) (fun _ _ _ => ?_)
              rw [h5]
              refine cx_153 (r := L.getD a 0) Z.1 (G.gz Z) rd1 e27 (by omega) B fun h2 L2 D2 R2 B2 Z2 => sg_149_88c (by omega) ?_
              have len2 := R2.len
              have o2 : ∀ i, i < L.length → L2.getD i 0 = L.getD i 0 := fun i hi => R2.old hi
              have p2 : ∀ i, i < L.length → D2 (L2.getD i 0) = D (L.getD i 0) := fun i hi => by rw [o2 i hi]; exact R2.keep (B.rd hi).2.1
              have I2 := I.step (v := s) (by omega) (fun i hi => (B.rd hi).2.1) R2 (fun j _ _ w => ⟨l + 1, L.getD a 0, s, rd1, pl, Or.inl ⟨w, by omega⟩⟩)
              rw [← h5]
              refine ih2 (a + 1) h2 L2 D2 _ (by omega) (by omega) (by omega) (by omega) (by omega) (Z.tr Z2) I2 B2 (fun i hi => ?_) (fun i h1 hi => ?_) (fun i h1 hi j hj w => ?_)
              · by_cases c1 : i < L.length
                · rw [p2 i c1]; exact U i c1
                · rw [(R2.fresh (by omega) hi).2.2.2]; exact Int.le_refl _
              · by_cases c1 : i < L.length
                · rw [p2 i c1]; exact V i h1 c1
                · exact (R2.fresh (by omega) hi).2.2.2
              · rw [o2 i (by omega)] at w
                by_cases c1 : i < a
                · have q1 := cl i h1 c1 j hj w
                  rw [R2.keep q1]
                  exact q1
                · have ei : i = a := by omega
                  rw [ei] at w
                  exact R2.got (by omega) hj w
            · have nx := grow L.length hsL _ start h1 L D (min (h1 24 7) 800) x4 rfl (Nat.le_refl _) (by omega) (Nat.le_refl _) (by omega) h4 Z I B U V (fun i a b => by omega) (fun c0 i a1 a2 j hj w => by
                have q1 := cl i a1 (by omega) j hj w
                exact ⟨q1, B.all U j hj q1⟩)
              exact sg_149_52 Z.1 (fun _ => nx) (fun _ _ => nx) (fun _ _ w => by omega) (fun _ w => by omega) (fun _ w => by omega)
        exact close _ start h1 L D x4 rfl (Nat.le_refl _) hst (by omega) h4 Z I B U V fun i a1 a2 => by omega
  refine sg_149_0 (cx_151 F h8 fun h0 B0 Z0 => sg_149_4c Z0.1 (fun w => by omega) (fun _ _ => ?_) (fun _ w => by omega))
  refine cx_152 (i := b) Z0.1 ((G.gz Z0).2.2.2.1) h8 B0 hb hx fun h1 L1 D1 R1 B1 Z1 => sg_149_25c ?_
  have B1 := B1 (by decide)
  have nw : ∀ j, D1 j ≠ -1 → j = b ∧ D1 j = 0 := fun j hj => by
    rcases R1.new hj with ⟨a1, _⟩ | ⟨_, a2, a3⟩
    · exact absurd rfl a1
    · exact ⟨a2, a3⟩
  have db := (nw b (R1.got (by decide) hb rfl)).2
  have in1 : ∀ i, i < L1.length → D1 (L1.getD i 0) = 0 := fun i hi => (nw _ (B1.rd hi).2.1).2
  exact main _ 0 0 h1 L1 D1 0 0 (Nat.le_refl _) (Nat.zero_le _) (Nat.le_refl _) rfl rfl (Z0.tr Z1) ⟨fun j _ hd => ⟨0, 0, (nw j hd).2, (nw j hd).1, rfl⟩, db, fun i hi => absurd hi (Nat.not_lt_zero _)⟩ B1 (fun i hi => by rw [in1 i hi]; exact Int.le_refl _) (fun i _ hi => in1 i hi)
end
