/-! WHAT HOLDS BETWEEN TWO CALLS -/
section
variable {h h' : zHP} {N s G : Nat} {A : Nat → Nat × Nat × zel} {g : Nat → Int × Int × Int × Int} {T : Nat} {tb : Nat → Nat}
theorem zCO.k (C : zCO h) (f3 : h' 3 = h 3) (f4 : h' 4 = h 4) : zCO h' := by
  unfold zCO
  rw [f3, f4]
  exact C
theorem zGL.k (L : zGL h) (f24 : h' 24 = h 24) (f25 : h' 25 = h 25) : zGL h' := L.keep (by rw [f24]) (by rw [f24]) (by rw [f24]) (by rw [f24]) fun r => by rw [f25]
theorem zPV.k (V : zPV h N s A) (f28 : h' 28 = h 28) (f33 : h' 33 = h 33) (f2 : ∀ u, u < N → h' (6 + 3 * u) 5 = h (6 + 3 * u) 5) : zPV h' N s A := ⟨by rw [f28]; exact V.1, fun u hu e => by
  rw [f2 u hu, f28] at e
  obtain ⟨R, a, b⟩ := V.2 u hu e
  exact ⟨R, a, fun o ho => by rw [f33]; exact b o ho⟩⟩
theorem zBV.k (V : zBV h N s A G g) (e10 : h' 40 10 = h 40 10) (e11 : h' 40 11 = h 40 11) (f53 : h' 53 = h 53) (f2 : ∀ u, u < N → h' (6 + 3 * u) 5 = h (6 + 3 * u) 5) : zBV h' N s A G g := ⟨by rw [e10]; exact V.1, fun u hu e => by
  rw [f2 u hu, e10] at e
  obtain ⟨j, a, b, c⟩ := V.2 u hu e
  exact ⟨j, a, e11.trans b, fun v q hv hq => by rw [f53]; exact c v q hv hq⟩⟩
theorem zWd.k (W : zWd h) (f70 : h' 70 = h 70) (f71 : h' 71 = h 71) : zWd h' := by
  unfold zWd
  rw [f70, f71]
  exact W
theorem zGM.k (g0 : zGM h G g) (e7 : h' 108 7 = h 108 7) (f : ∀ c, 115 ≤ c → c ≤ 118 → h' c = h c) : zGM h' G g := by
  obtain ⟨a, b, c⟩ := g0
  refine ⟨e7.trans a, b, fun i hi => ?_⟩
  rw [f 115 (by decide) (by decide), f 116 (by decide) (by decide), f 117 (by decide) (by decide), f 118 (by decide) (by decide)]
  exact c i hi
/-- the class -/
def zCI (h : zHP) (N s : Nat) (A : Nat → Nat × Nat × zel) (G : Nat) (g : Nat → Int × Int × Int × Int) (T : Nat) (tb : Nat → Nat) : Prop := zOT h ∧ zCO h ∧ zCS h N s A ∧ zGL h ∧ zQV h 34 N s A ∧ zQV h 41 N s A ∧ zPV h N s A ∧ zBV h N s A G g ∧ zGC h G g ∧ zTC h T tb ∧ zWd h ∧ ∀ p, p < 8 → h 79 p = ((80 + 3 * p : Nat) : Int)
/-- the reference -/
def zMI (h : zHP) (N : Nat) (A : Nat → Nat × Nat × zel) (G : Nat) (g : Nat → Int × Int × Int × Int) (T : Nat) (tb : Nat → Nat) : Prop := zMS h N A ∧ zML h ∧ zGM h G g ∧ zTM h T tb
def zGW (N : Nat) (A : Nat → Nat × Nat × zel) (G : Nat) (g : Nat → Int × Int × Int × Int) : Prop := zGV N A G g ∧ (∀ i, i < G → (g i).1 ≠ -1 → (g i).2.2.2 = -1) ∧ ∀ i, i < G → (g i).2.2.2 = -1 ∨ 0 ≤ (g i).2.2.2
def zIv (h : zHP) (N s : Nat) (A : Nat → Nat × Nat × zel) (G : Nat) (g : Nat → Int × Int × Int × Int) (T : Nat) (tb : Nat → Nat) : Prop := zFin h ∧ zCI h N s A G g T tb ∧ zMI h N A G g T tb ∧ h 0 14 = h 108 21
def zInv (k : Nat) (h : zHP) : Prop := ∃ (N s : Nat) (A : Nat → Nat × Nat × zel) (G : Nat) (g : Nat → Int × Int × Int × Int) (T : Nat) (tb : Nat → Nat), zIv h N s A G g T tb ∧ zGW N A G g ∧ s ≤ k
theorem zMI.gn (I : zMI h N A G g T tb) (L : zML h') (c0 : h' 108 0 = h 108 0) (c7 : h' 108 7 = h 108 7) (c12 : h' 108 12 = h 108 12) (e : ∀ c, 109 ≤ c → c ≤ 119 → h' c = h c) : zMI h' N A G g T tb := ⟨I.1.fr c0 fun c a b => e c a (by omega), L, I.2.2.1.k c7 fun c a b => e c (by omega) (by omega), I.2.2.2.k c12 (e 119 (by decide) (by decide))⟩
theorem zMI.kp (I : zMI h N A G g T tb) (e : ∀ c, 108 ≤ c → c ≤ 140 → h' c = h c) : zMI h' N A G g T tb := by
  have e8 := e 108 (by decide) (by decide)
  exact I.gn (I.2.1.keep (by rw [e8]) (by rw [e8]) fun c a b => e c (by omega) b) (by rw [e8]) (by rw [e8]) (by rw [e8]) fun c a b => e c (by omega) (by omega)
theorem zCI.kp {W : List Nat} (I : zCI h N s A G g T tb) (fr : zfr W h h') (hW : ∀ c ∈ W, 108 ≤ c ∨ c ∈ [8, 11, 14, 17, 20, 23, 26, 27, 29, 30, 31, 32, 54, 55, 56, 57, 58, 59, 60, 61, 62, 63, 64, 65, 66, 67]) : zCI h' N s A G g T tb := by
  have e : ∀ c, c < 108 → c ∉ [8, 11, 14, 17, 20, 23, 26, 27, 29, 30, 31, 32, 54, 55, 56, 57, 58, 59, 60, 61, 62, 63, 64, 65, 66, 67] → h' c = h c := fun c a b => fr c fun m => by
    rcases hW c m with z | z
    · omega
    · exact b z
  obtain ⟨i1, i2, i3, i4, i5, i6, i7, i8, i9, i10, i11, i12⟩ := I
  have hN := i3.2.1
  have f2 : ∀ u, u < N → h' (6 + 3 * u) 5 = h (6 + 3 * u) 5 := fun u hu => by rw [e (6 + 3 * u) (by omega) (by simp; omega)]
  have e40 := e 40 (by decide) (by decide)
  have e1 := e 1 (by decide) (by decide)
  have e0 := e 0 (by decide) (by decide)
  refine ⟨i1.fr e1 (e 2 (by decide) (by decide)), i2.k (e 3 (by decide) (by decide)) (e 4 (by decide) (by decide)), i3.fr (by rw [e0]) (by rw [e0]) (e 5 (by decide) (by decide)) (by rw [e1]; exact Int.le_refl _) (fun u hu => ⟨e _ (by omega) (by simp; omega), e _ (by omega) (by simp; omega)⟩), i4.k (e 24 (by decide) (by decide)) (e 25 (by decide) (by decide)), i5.fr (fun c a b => e c (by omega) (by simp; omega)) f2, i6.fr (fun c a b => e c (by omega) (by simp; omega)) f2, i7.k (e 28 (by decide) (by decide)) (e 33 (by decide) (by decide)) f2, i8.k (by rw [e40]) (by rw [e40]) (e 53 (by decide) (by decide)) f2, i9.fr (by rw [e40]) (fun c a b => e c (by omega) (by simp; omega)), i10.k (by rw [e 68 (by decide) (by decide)]) (e 69 (by decide) (by decide)), i11.k (e 70 (by decide) (by decide)) (e 71 (by decide) (by decide)), fun p hp => by rw [e 79 (by decide) (by decide)]; exact i12 p hp⟩
/-- what is not kept -/
theorem zIv.kp {W : List Nat} (I : zIv h N s A G g T tb) (F : zFin h') (fr : zfr W h h') (hW : ∀ c ∈ W, 141 ≤ c ∨ c = 134 ∨ c = 135 ∨ c ∈ [8, 11, 14, 17, 20, 23, 26, 27, 29, 30, 31, 32, 54, 55, 56, 57, 58, 59, 60, 61, 62, 63, 64, 65, 66, 67]) : zIv h' N s A G g T tb := by
  have n : ∀ c, (c = 0 ∨ c = 108 ∨ (108 ≤ c ∧ c ≤ 140 ∧ c ≠ 134 ∧ c ≠ 135)) → h' c = h c := fun c hc => fr c fun m => by
    rcases hW c m with z | z | z | z
    · omega
    · omega
    · omega
    · simp at z; omega
  obtain ⟨f, ci, mi, pl⟩ := I
  have e8 := n 108 (Or.inr (Or.inl rfl))
  refine ⟨F, ci.kp fr fun c hc => ?_, mi.gn (mi.2.1.keep (by rw [e8]) (by rw [e8]) fun c a b => n c (by omega)) (by rw [e8]) (by rw [e8]) (by rw [e8]) fun c a b => n c (by omega), by rw [n 0 (Or.inl rfl), e8]; exact pl⟩
  rcases hW c hc with z | z | z | z
  · exact Or.inl (by omega)
  · exact Or.inl (by omega)
  · exact Or.inl (by omega)
  · exact Or.inr z
/-- the reference's own -/
theorem zIv.m {W : List Nat} (I : zIv h N s A G g T tb) (F : zFin h') (fr : zfr W h h') (hW : ∀ c ∈ W, c = 108 ∨ 120 ≤ c) (cs : ∀ i, i ≠ 38 → i ≠ 39 → i ≠ 48 → h' 108 i = h 108 i) (L : zML h') : zIv h' N s A G g T tb := by
  obtain ⟨f, ci, mi, pl⟩ := I
  refine ⟨F, ci.kp fr fun c hc => Or.inl (by have := hW c hc; omega), mi.gn L (cs 0 (by decide) (by decide) (by decide)) (cs 7 (by decide) (by decide) (by decide)) (cs 12 (by decide) (by decide) (by decide)) fun c a b => fr c fun m => (by have := hW c m; omega), ?_⟩
  rw [fr 0 (fun m => by have := hW 0 m; omega), cs 21 (by decide) (by decide) (by decide)]
  exact pl
theorem zIv.ly (I : zIv h N s A G g T tb) (y : zLy h h') : zIv h' N s A G g T tb := I.m y.1 y.2.1 (by simp) (fun i a b _ => y.2.2.1 i a b) y.2.2.2
theorem zIv.lz (I : zIv h N s A G g T tb) (y : zLz h h') : zIv h' N s A G g T tb := I.m y.1 y.2.1 (by simp) (fun i a b _ => y.2.2.1 i a b) y.2.2.2
theorem zIv.lr (I : zIv h N s A G g T tb) (y : zLr h h') : zIv h' N s A G g T tb := I.m y.1 y.2.1 (by simp) (fun i a b _ => y.2.2.1 i a b) y.2.2.2
theorem zIv.yy (I : zIv h N s A G g T tb) (y : zWyy h h') : zIv h' N s A G g T tb := I.m y.1 y.2.1 (by simp) (fun i a b _ => y.2.2.1 i a b) y.2.2.2
theorem zIv.cl (I : zIv h N s A G g T tb) (F : zFin h') (fr : zfr [108, 141, 143, 144] h h') (cs : ∀ i, i ≠ 48 → h' 108 i = h 108 i) : zIv h' N s A G g T tb := I.m F fr (by simp) (fun i _ _ b => cs i b) (I.2.2.1.2.1.keep (cs 38 (by decide)) (cs 39 (by decide)) fun c a b => fr c (by simp; omega))
end
