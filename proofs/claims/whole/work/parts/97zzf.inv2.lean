/-! WHAT HOLDS BETWEEN TWO CALLS: WHAT THE CLASS KEEPS FOR ITSELF; A PUSH -/
section
variable {h h' : zHP} {N s G : Nat} {A : Nat → Nat × Nat × zel} {g : Nat → Int × Int × Int × Int} {T : Nat} {tb : Nat → Nat} {x : Nat × Nat × zel}
theorem zIv.gy (I : zIv h N s A G g T tb) (F : zFin h') (T1 : zOT h') (C1 : zCO h') (r : h 1 1 ≤ h' 1 1) (fr : zfr [1, 2, 3, 4, 24, 25, 26, 27] h h') (L1 : zGL h') : zIv h' N s A G g T tb := by
  obtain ⟨f, ⟨i1, i2, i3, i4, i5, i6, i7, i8, i9, i10, i11, i12⟩, mi, pl⟩ := I
  have hN := i3.2.1
  have n : ∀ c, (c = 0 ∨ c = 5 ∨ (6 ≤ c ∧ c ≤ 23) ∨ 28 ≤ c) → h' c = h c := fun c hc => fr c (by simp; omega)
  have f2 : ∀ u, u < N → h' (6 + 3 * u) 5 = h (6 + 3 * u) 5 := fun u hu => by rw [n (6 + 3 * u) (by omega)]
  have e40 := n 40 (by omega)
  have e0 := n 0 (by omega)
  refine ⟨F, ⟨T1, C1, i3.fr (by rw [e0]) (by rw [e0]) (n 5 (by omega)) r (fun u hu => ⟨n _ (by omega), n _ (by omega)⟩), L1, i5.fr (fun c a b => n c (by omega)) f2, i6.fr (fun c a b => n c (by omega)) f2, i7.k (n 28 (by omega)) (n 33 (by omega)) f2, i8.k (by rw [e40]) (by rw [e40]) (n 53 (by omega)) f2, i9.fr (by rw [e40]) (fun c a b => n c (by omega)), i10.k (by rw [n 68 (by omega)]) (n 69 (by omega)), i11.k (n 70 (by omega)) (n 71 (by omega)), fun p hp => by rw [n 79 (by omega)]; exact i12 p hp⟩, mi.kp fun c a b => n c (by omega), by rw [e0, n 108 (by omega)]; exact pl⟩
theorem zIv.gz (I : zIv h N s A G g T tb) (y : zGy h h') : zIv h' N s A G g T tb := I.gy y.1 y.2.1 y.2.2.1 y.2.2.2.1 y.2.2.2.2.1 y.2.2.2.2.2
theorem zIv.cy (I : zIv h N s A G g T tb) (y : zCy h h') : zIv h' N s A G g T tb := I.gy y.1 y.2.1 y.2.2.1 y.2.2.2.1 (y.2.2.2.2.mono (by simp)) (I.2.1.2.2.2.1.fr y.2.2.2.2)
theorem zIv.q4 (I : zIv h N s A G g T tb) (F : zFin h') (fr : zfr [34, 35, 36, 37, 38, 39] h h') (V : zQV h' 34 N s A) : zIv h' N s A G g T tb := by
  obtain ⟨f, ⟨i1, i2, i3, i4, i5, i6, i7, i8, i9, i10, i11, i12⟩, mi, pl⟩ := I
  have hN := i3.2.1
  have n : ∀ c, (c < 34 ∨ 40 ≤ c) → h' c = h c := fun c hc => fr c (by simp; omega)
  have f2 : ∀ u, u < N → h' (6 + 3 * u) 5 = h (6 + 3 * u) 5 := fun u hu => by rw [n (6 + 3 * u) (by omega)]
  have e40 := n 40 (by omega)
  have e0 := n 0 (by omega)
  have e1 := n 1 (by omega)
  refine ⟨F, ⟨i1.fr e1 (n 2 (by omega)), i2.k (n 3 (by omega)) (n 4 (by omega)), i3.fr (by rw [e0]) (by rw [e0]) (n 5 (by omega)) (by rw [e1]; exact Int.le_refl _) (fun u hu => ⟨n _ (by omega), n _ (by omega)⟩), i4.k (n 24 (by omega)) (n 25 (by omega)), V, i6.fr (fun c a b => n c (by omega)) f2, i7.k (n 28 (by omega)) (n 33 (by omega)) f2, i8.k (by rw [e40]) (by rw [e40]) (n 53 (by omega)) f2, i9.fr (by rw [e40]) (fun c a b => n c (by omega)), i10.k (by rw [n 68 (by omega)]) (n 69 (by omega)), i11.k (n 70 (by omega)) (n 71 (by omega)), fun p hp => by rw [n 79 (by omega)]; exact i12 p hp⟩, mi.kp fun c a b => n c (by omega), by rw [e0, n 108 (by omega)]; exact pl⟩
theorem zIv.pv (I : zIv h N s A G g T tb) (F : zFin h') (fr : zfr [28, 33] h h') (V : zPV h' N s A) : zIv h' N s A G g T tb := by
  obtain ⟨f, ⟨i1, i2, i3, i4, i5, i6, i7, i8, i9, i10, i11, i12⟩, mi, pl⟩ := I
  have hN := i3.2.1
  have n : ∀ c, (c < 28 ∨ 34 ≤ c) → h' c = h c := fun c hc => fr c (by simp; omega)
  have f2 : ∀ u, u < N → h' (6 + 3 * u) 5 = h (6 + 3 * u) 5 := fun u hu => by rw [n (6 + 3 * u) (by omega)]
  have e40 := n 40 (by omega)
  have e0 := n 0 (by omega)
  have e1 := n 1 (by omega)
  refine ⟨F, ⟨i1.fr e1 (n 2 (by omega)), i2.k (n 3 (by omega)) (n 4 (by omega)), i3.fr (by rw [e0]) (by rw [e0]) (n 5 (by omega)) (by rw [e1]; exact Int.le_refl _) (fun u hu => ⟨n _ (by omega), n _ (by omega)⟩), i4.k (n 24 (by omega)) (n 25 (by omega)), i5.fr (fun c a b => n c (by omega)) f2, i6.fr (fun c a b => n c (by omega)) f2, V, i8.k (by rw [e40]) (by rw [e40]) (n 53 (by omega)) f2, i9.fr (by rw [e40]) (fun c a b => n c (by omega)), i10.k (by rw [n 68 (by omega)]) (n 69 (by omega)), i11.k (n 70 (by omega)) (n 71 (by omega)), fun p hp => by rw [n 79 (by omega)]; exact i12 p hp⟩, mi.kp fun c a b => n c (by omega), by rw [e0, n 108 (by omega)]; exact pl⟩
theorem zIv.wy (I : zIv h N s A G g T tb) (y : zWy h h' N s A G g) : zIv h' N s A G g T tb := by
  obtain ⟨f, ⟨i1, i2, i3, i4, i5, i6, i7, i8, i9, i10, i11, i12⟩, mi, pl⟩ := I
  obtain ⟨F, fr, c40, V, B⟩ := y
  have hN := i3.2.1
  have n : ∀ c, (c < 40 ∨ (47 ≤ c ∧ c ≤ 50) ∨ 54 ≤ c) → h' c = h c := fun c hc => fr c (by simp; omega)
  have f2 : ∀ u, u < N → h' (6 + 3 * u) 5 = h (6 + 3 * u) 5 := fun u hu => by rw [n (6 + 3 * u) (by omega)]
  have e0 := n 0 (by omega)
  have e1 := n 1 (by omega)
  refine ⟨F, ⟨i1.fr e1 (n 2 (by omega)), i2.k (n 3 (by omega)) (n 4 (by omega)), i3.fr (by rw [e0]) (by rw [e0]) (n 5 (by omega)) (by rw [e1]; exact Int.le_refl _) (fun u hu => ⟨n _ (by omega), n _ (by omega)⟩), i4.k (n 24 (by omega)) (n 25 (by omega)), i5.fr (fun c a b => n c (by omega)) f2, V, i7.k (n 28 (by omega)) (n 33 (by omega)) f2, B, i9.fr (c40 9 (by decide) (by decide)) (fun c a b => n c (by omega)), i10.k (by rw [n 68 (by omega)]) (n 69 (by omega)), i11.k (n 70 (by omega)) (n 71 (by omega)), fun p hp => by rw [n 79 (by omega)]; exact i12 p hp⟩, mi.kp fun c a b => n c (by omega), by rw [e0, n 108 (by omega)]; exact pl⟩
theorem zQV.push {o : Nat} (V : zQV h o N s A) (g5 : h' (6 + 3 * N) 5 = ((s + 1 : Nat) : Int)) (f : ∀ c, o ≤ c → c ≤ o + 5 → h' c = h c) (f2 : ∀ u, u < N → h' (6 + 3 * u) 5 = h (6 + 3 * u) 5) : zQV h' o (N + 1) (s + 1) (zpsh A N x) := by
  obtain ⟨R, b, V⟩ := V
  have e0 := f o (by omega) (by omega)
  refine ⟨R.fr e0, by rw [e0]; omega, fun u hu o0 ho a c => ?_⟩
  rw [e0] at a c
  by_cases d : u = N
  · subst d
    omega
  · have hu' : u < N := by omega
    rw [zpsh_l hu'] at ho ⊢
    rw [f2 u hu'] at a
    exact (V u hu' o0 ho a c).fr f
theorem zPV.push (V : zPV h N s A) (g5 : h' (6 + 3 * N) 5 = ((s + 1 : Nat) : Int)) (f28 : h' 28 = h 28) (f33 : h' 33 = h 33) (f2 : ∀ u, u < N → h' (6 + 3 * u) 5 = h (6 + 3 * u) 5) : zPV h' (N + 1) (s + 1) (zpsh A N x) := by
  obtain ⟨b, V⟩ := V
  refine ⟨by rw [f28]; omega, fun u hu e => ?_⟩
  rw [f28] at e
  by_cases d : u = N
  · subst d
    omega
  · have hu' : u < N := by omega
    rw [zpsh_l hu']
    rw [f2 u hu'] at e
    obtain ⟨R, a, c⟩ := V u hu' e
    exact ⟨R, a, fun o ho => by rw [f33]; exact c o ho⟩
theorem zBV.push (V : zBV h N s A G g) (g5 : h' (6 + 3 * N) 5 = ((s + 1 : Nat) : Int)) (f40 : h' 40 = h 40) (f53 : h' 53 = h 53) (f2 : ∀ u, u < N → h' (6 + 3 * u) 5 = h (6 + 3 * u) 5) : zBV h' (N + 1) (s + 1) (zpsh A N x) G g := by
  obtain ⟨b, V⟩ := V
  refine ⟨by rw [f40]; omega, fun u hu e => ?_⟩
  rw [f40] at e ⊢
  by_cases d : u = N
  · subst d
    omega
  · have hu' : u < N := by omega
    rw [zpsh_l hu']
    rw [f2 u hu'] at e
    obtain ⟨j, a, c, w⟩ := V u hu' e
    exact ⟨j, a, c, fun v q hv hq => by rw [f53]; exact w v q hv hq⟩
theorem zGW.push (W : zGW N A G g) : zGW (N + 1) (zpsh A N x) G g := ⟨fun i hi => by
  rcases W.1 i hi with z | ⟨u, hu, a⟩
  · exact Or.inl z
  · exact Or.inr ⟨u, by omega, by rw [zpsh_l hu]; exact a⟩, W.2⟩
/-- a push, of which the text is kept or not -/
theorem zCI.push {T2 : Nat} (I : zCI h N s A G g T tb) (hN : N < 6) (fr : ∀ c, c < 108 → (3 ≤ c ∧ c ≤ 5) ∨ (24 ≤ c ∧ c ≤ 67) ∨ (69 ≤ c ∧ c ≤ 71) ∨ c = 79 → h' c = h c) (f2 : ∀ u, u < N → h' (6 + 3 * u) 5 = h (6 + 3 * u) 5) (T1 : zOT h') (S1 : zCS h' (N + 1) (s + 1) (zpsh A N x)) (g5 : h' (6 + 3 * N) 5 = ((s + 1 : Nat) : Int)) (t1 : zTC h' T2 tb) : zCI h' (N + 1) (s + 1) (zpsh A N x) G g T2 tb := by
  obtain ⟨i1, i2, i3, i4, i5, i6, i7, i8, i9, i10, i11, i12⟩ := I
  have n : ∀ c, (3 ≤ c ∧ c ≤ 5) ∨ (24 ≤ c ∧ c ≤ 67) ∨ (69 ≤ c ∧ c ≤ 71) ∨ c = 79 → h' c = h c := fun c hc => fr c (by omega) hc
  refine ⟨T1, i2.k (n 3 (by omega)) (n 4 (by omega)), S1, i4.k (n 24 (by omega)) (n 25 (by omega)), i5.push g5 (fun c a b => n c (by omega)) f2, i6.push g5 (fun c a b => n c (by omega)) f2, i7.push g5 (n 28 (by omega)) (n 33 (by omega)) f2, i8.push g5 (n 40 (by omega)) (n 53 (by omega)) f2, i9.fr (by rw [n 40 (by omega)]) (fun c a b => n c (by omega)), t1, i11.k (n 70 (by omega)) (n 71 (by omega)), fun p hp => by rw [n 79 (by omega)]; exact i12 p hp⟩
end
