/-! THE CLASS: SLIDES AND TURNS ARE REACHED -/
theorem zm9 {c k : Nat} (hc : c < 8) (hk : k ≤ 19) : c * 9 * 8 ^ k < 9223372036854775808 := by
  have p : 8 ^ k ≤ 8 ^ 19 := Nat.pow_le_pow_right (by decide) hk
  have q : c * 9 * 8 ^ k ≤ 63 * 8 ^ 19 := Nat.mul_le_mul (by omega) p
  have e : 63 * 8 ^ 19 < 9223372036854775808 := by decide
  omega
theorem zm73 {c k : Nat} (hc : c < 8) (hk : k ≤ 18) : c * 73 * 8 ^ k < 9223372036854775808 := by
  have p : 8 ^ k ≤ 8 ^ 18 := Nat.pow_le_pow_right (by decide) hk
  have q : c * 73 * 8 ^ k ≤ 511 * 8 ^ 18 := Nat.mul_le_mul (by omega) p
  have e : 511 * 8 ^ 18 < 9223372036854775808 := by decide
  omega
theorem zp83 (k : Nat) : 2 ^ (3 * k) = 8 ^ k := Nat.pow_mul 2 3 k
theorem zsl_m {f : Nat → Nat} {m a : Nat} {x y z u v : Int} (hf : ∀ j, j < m → f j < 8) (hm : m ≤ 21) (ha : a + 1 < m) (hx : x = (zwf f m : Int)) (hu : u = (f a : Int)) (hv : v = (f (a + 1) : Int)) (hy : y = (m : Int)) (hz : z = (a : Int)) : zlxor x (zlshl ((zixor u v) * 9) (3 * ((y - 2) - z))) = (zwf (zsw f a) m : Int) ∧ 0 ≤ zixor u v ∧ zixor u v < 8 := by
  have h1 := hf a (by omega)
  have h2 := hf (a + 1) ha
  have h3 := zxor8 h1 h2
  have e1 : zixor u v = ((f a ^^^ f (a + 1) : Nat) : Int) := by rw [hu, hv]; exact zixor_n (by omega) (by omega)
  have key := zsl_x hf ha
  rw [e1]
  generalize f a ^^^ f (a + 1) = c at h3 key
  have e2 : ((c : Int) * 9) = ((c * 9 : Nat) : Int) := by omega
  have e3 : 3 * ((y - 2) - z) = ((3 * (m - 2 - a) : Nat) : Int) := by omega
  have b := zm9 (k := m - 2 - a) h3 (by omega)
  refine ⟨?_, by omega, by omega⟩
  rw [e2, e3, zlshl_n (by omega) (by rw [zp83]; exact b), zp83, hx, zlxor_n (zwf_63 hf hm) b, key]
theorem ztn_m {f : Nat → Nat} {m a : Nat} {x y z u v : Int} (hf : ∀ j, j < m → f j < 8) (hm : m ≤ 21) (ha : a + 2 < m) (e : f (a + 2) = f a) (hx : x = (zwf f m : Int)) (hu : u = (f a : Int)) (hv : v = (f (a + 1) : Int)) (hy : y = (m : Int)) (hz : z = (a : Int)) : zlxor x (zlshl ((zixor u v) * 73) (3 * ((y - 3) - z))) = (zwf (ztw f a) m : Int) ∧ 0 ≤ zixor u v ∧ zixor u v < 8 := by
  have h1 := hf a (by omega)
  have h2 := hf (a + 1) (by omega)
  have h3 := zxor8 h1 h2
  have e1 : zixor u v = ((f a ^^^ f (a + 1) : Nat) : Int) := by rw [hu, hv]; exact zixor_n (by omega) (by omega)
  have key := ztn_x hf ha e
  rw [e1]
  generalize f a ^^^ f (a + 1) = c at h3 key
  have e2 : ((c : Int) * 73) = ((c * 73 : Nat) : Int) := by omega
  have e3 : 3 * ((y - 3) - z) = ((3 * (m - 3 - a) : Nat) : Int) := by omega
  have b := zm73 (k := m - 3 - a) h3 (by omega)
  refine ⟨?_, by omega, by omega⟩
  rw [e2, e3, zlshl_n (by omega) (by rw [zp83]; exact b), zp83, hx, zlxor_n (zwf_63 hf hm) b, key]
section
variable {X : List Int} {h : zHP} {K : Option zAV → zHP → Prop}
/-- reachBySlides -/
theorem cx_153 {n o r : Nat} {L : List Nat} {D : Nat → Int} {x s : Int} (F : zFin h) (G : zGG h n o) (hr : r < zTl n o) (hx : x = (r : Int)) (hs : s ≠ -1) (B : zBS h (zTl n o) L D) (k : ∀ h' L' D', zBr (zTl n o) (fun j => ∃ a, zisS n o r a ∧ zslr n o r a = j) s L L' D D' → zBS h' (zTl n o) L' D' → zGz h h' → K none h') : zC X 153 [zR 24, zI x, zI s] h K := by
  have hn := G.1
  have ho := G.2.1
  have h8 := G.2.2.1
  have m21 := zinvs_le (o := o) hn.2
  have V := zvw_let ho hr
  have hf : ∀ j, j < zinvs n o → zlet n o r j < 8 := fun j hj => by
    have := (V.2 j hj).1
    omega
  have W : zWrd h x = (zwf (zlet n o r) (zinvs n o) : Int) := G.wrd hr hx
  refine sg_153_0 F ?_
  rw [W]
  have loop : ∀ (q a : Nat) (h1 : zHP) (L1 : List Nat) (D1 : Nat → Int) (x5 : Int), zinvs n o - 1 - a = q → x5 = (a : Int) → a ≤ 21 → zGz h h1 → zBr (zTl n o) (fun j => ∃ b, b < a ∧ zisS n o r b ∧ zslr n o r b = j) s L L1 D D1 → zBS h1 (zTl n o) L1 D1 → zAt X 153 9 0 0 [some (zR 24), none, some (zI s), some (zL (zwf (zlet n o r) (zinvs n o) : Int)), none, some (zI x5), none, none, none, none] [] zSHc h1 (fun v sh' h' => sh' = zSHc ∧ K v h') := by
    intro q
    induction q with
    | zero =>
      intro a h1 L1 D1 x5 hq h5 ha Z R B1
      have e6 : h1 24 6 = (zinvs n o : Int) := (G.gz Z).2.2.2.2.1
      have kk := k h1 L1 D1 (R.cg fun j _ => ⟨fun ⟨b, _, b2⟩ => ⟨b, b2⟩, fun ⟨b, b2⟩ => ⟨b, by have := b2.1.1; omega, b2⟩⟩) B1 Z
      exact sg_153_9 (by omega) (fun _ => ⟨rfl, kk⟩) (fun z => by omega)
    | succ q ih =>
      intro a h1 L1 D1 x5 hq h5 ha Z R B1
      have G1 := G.gz Z
      have e6 : h1 24 6 = (zinvs n o : Int) := G1.2.2.2.2.1
      have am : a + 1 < zinvs n o := by omega
      have l1 := hf a (by omega)
      have l2 := hf (a + 1) am
      have step : ∀ (h2 : zHP) (L2 : List Nat) (D2 : Nat → Int), zGz h1 h2 → zBr (zTl n o) (fun j => zisS n o r a ∧ zslr n o r a = j) s L1 L2 D1 D2 → zBS h2 (zTl n o) L2 D2 → zAt X 153 9 0 0 [some (zR 24), none, some (zI s), some (zL (zwf (zlet n o r) (zinvs n o) : Int)), none, some (zI (x5 + 1)), none, none, none, none] [] zSHc h2 (fun v sh' h' => sh' = zSHc ∧ K v h') := fun h2 L2 D2 Z2 R2 B2 => by
        refine ih (a + 1) h2 L2 D2 _ (by omega) (by omega) (by omega) (Z.tr Z2) ((R.tr hs R2).cg fun j _ => ⟨?_, ?_⟩) B2
        · rintro (⟨b, b1, b2⟩ | z)
          · exact ⟨b, by omega, b2⟩
          · exact ⟨a, by omega, z⟩
        · rintro ⟨b, b1, b2⟩
          by_cases c : b = a
          · rw [c] at b2; exact Or.inr b2
          · exact Or.inl ⟨b, by omega, b2⟩
      refine sg_153_9 (by omega) (fun z => by omega) (fun _ => ?_)
      refine cx_let (f := zlet n o r) (i := a) hf m21 (by omega) rfl e6 h5 (sg_153_30c (by omega) ?_)
      refine cx_let (f := zlet n o r) (i := a + 1) hf m21 am rfl e6 (by omega) ?_
      obtain ⟨mk, m1, m2⟩ := zsl_m hf m21 am (x := (zwf (zlet n o r) (zinvs n o) : Int)) (u := (zlet n o r a : Int)) (v := (zlet n o r (a + 1) : Int)) (y := h1 24 6) (z := x5) rfl rfl rfl e6 h5
      by_cases far : zfarb (zlet n o r a) (zlet n o r (a + 1))
      · have ab : 1 < zabs ((zlet n o r a : Int) - (zlet n o r (a + 1) : Int)) := by
          unfold zfarb at far
          unfold zabs
          split <;> omega
        have S : zisS n o r a := ⟨am, far⟩
        obtain ⟨s1, s2⟩ := zslr_ok ho hr S
        refine sg_153_44c (by omega) (by omega) (fun z => by omega) (fun z => by omega) (fun _ => by omega) (fun _ => by omega) (fun _ => by omega) (fun _ => by omega) (fun _ => ?_)
        rw [mk]
        refine cx_156 (s := zslr n o r a) Z.1 G1 s1 (by rw [zwf_congr _ s2]) (sg_153_91c ?_)
        refine cx_152 (i := zslr n o r a) Z.1 G1.2.2.2.1 h8 B1 s1 rfl fun h2 L2 D2 R2 B2 Z2 => sg_153_95c (by omega) ?_
        exact step h2 L2 D2 Z2 (R2.cg fun j _ => ⟨fun z => ⟨S, z.symm⟩, fun z => z.2.symm⟩) (B2 hs)
      · have ab : zabs ((zlet n o r a : Int) - (zlet n o r (a + 1) : Int)) ≤ 1 := by
          unfold zfarb at far
          unfold zabs
          split <;> omega
        refine sg_153_44c (by omega) (by omega) (fun _ => by omega) (fun _ => ?_) (fun z => by omega) (fun z => by omega) (fun z => by omega) (fun z => by omega) (fun z => by omega)
        exact step h1 L1 D1 (zGz.rf Z.1) (zBr.rf fun j _ _ z => far z.1.2) B1
  exact loop _ 0 h L D 0 rfl rfl (by omega) (zGz.rf F) (zBr.rf fun j _ _ ⟨b, b1, _⟩ => by omega) B
end
