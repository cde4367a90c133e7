/-! THE CLASS: MEND AND GATE -/
section
variable {X : List Int} {h : zHP} {K : Option zAV → zHP → Prop} {N s : Nat} {A : Nat → Nat × Nat × zel}
def zMt (h h' : zHP) : Prop := zFin h' ∧ zfr [54, 55, 56, 62, 63, 64, 65, 66, 67] h h'
/-- gateAt -/
theorem cx_59 {l : List Nat} {x : Int} (F : zFin h) (h7 : h 62 7 = (l.length : Int)) (D : ∀ q, q < l.length → h 67 q = (l.getD q 0 : Nat)) (hl : l.length ≤ 120) (k0 : ¬ (0 ≤ x ∧ x < (l.length : Int)) → K (some (zI (-1))) h) (k1 : ∀ i : Nat, i < l.length → x = (i : Int) → K (some (zI ((l.getD (l.length - 1 - i) 0 : Nat) : Int))) h) : zC X 59 [zR 62, zI x] h K := by
  refine sg_59_0 F (fun a => ⟨rfl, k0 (by omega)⟩) (fun a b => ⟨rfl, k0 (by omega)⟩) (fun a b c => by omega) (fun a b c => by omega) (fun a b c => by omega) (fun a b c => by omega) (fun a b c => ⟨rfl, ?_⟩)
  have := k1 x.toNat (by omega) (by omega)
  rw [← D _ (by omega)] at this
  rw [show (((h 62 7) - 1) - x).toNat = l.length - 1 - x.toNat by omega]
  exact this
/-- mend -/
theorem cx_198 {t : Int} (F : zFin h) (S : zCS h N s A) (k0 : ¬ (0 ≤ t ∧ t < (N : Int)) → K (some (zI (-1))) h) (k2 : ∀ u : Nat, u < N → t = (u : Int) → ¬ zmb (A u).2.2 (A u).2.1 = 0 → K (some (zI (-2))) h) (k3 : ∀ u : Nat, u < N → t = (u : Int) → zmb (A u).2.2 (A u).2.1 = 0 → 5 < (A u).1 → K (some (zI (-3))) h) (k1 : ∀ (u : Nat) (l : List Nat), u < N → t = (u : Int) → zmb (A u).2.2 (A u).2.1 = 0 → (A u).1 ≤ 5 → zbest (A u).1 (A u).2.2 (A u).2.1 l → ∀ h', zMt h h' → h' 62 7 = (l.length : Int) → (∀ q, q < l.length → h' 67 q = (l.getD q 0 : Nat)) → l.length ≤ 120 → K (some (zI (l.length : Int))) h') : zC X 198 [zR 0, zI t] h K := by
  have h6 := S.2.1
  refine sg_198_0 (cx_202 F S (fun c => sg_198_5cz ⟨rfl, k0 c⟩) (fun u hu htu => ?_))
  obtain ⟨hl, L, -⟩ := S.2.2.2.2.1 u hu
  have hpu := zLadT (t := u) (by omega)
  have e4 := S.mb hu
  have hm := hl.2.1
  have hn := hl.1
  have q2 := L.1
  refine sg_198_5c F hpu (by omega) (fun a b => ?_) (fun a b => ⟨rfl, k3 u hu htu (by omega) (by omega)⟩) (fun a => ⟨rfl, k2 u hu htu (by omega)⟩)
  have mb0 : zmb (A u).2.2 (A u).2.1 = 0 := by omega
  have hll := zmb0_k hl mb0
  rw [L.2.1]
  refine cx_1 (q := (A u).2.1) (sk := 9999) F (Or.inl rfl) hpu L hl mb0 (Nat.le_refl _) rfl (fun j hj => zno9 hm j (by omega)) fun h1 F1 fr1 B => sg_198_46c F1 ?_
  refine cx_58 F1 ⟨hn.1, by omega⟩ (fun q hq => (hll q hq).1) B fun h2 l best F2 fr2 e7 D len => sg_198_57c ⟨rfl, ?_⟩
  exact k1 u l hu htu mb0 (by omega) best h2 ⟨F2, (fr1.mono (by simp)).trans (fr2.mono (by simp))⟩ e7 D len
/-- mendAt -/
theorem cx_199 {t i : Int} (F : zFin h) (S : zCS h N s A) (k0 : ¬ (0 ≤ t ∧ t < (N : Int)) → K (some (zI (-1))) h) (k2 : ∀ u : Nat, u < N → t = (u : Int) → ¬ zmb (A u).2.2 (A u).2.1 = 0 → K (some (zI (-1))) h) (k3 : ∀ u : Nat, u < N → t = (u : Int) → zmb (A u).2.2 (A u).2.1 = 0 → 5 < (A u).1 → K (some (zI (-1))) h) (k4 : ∀ (u : Nat) (l : List Nat), u < N → t = (u : Int) → zmb (A u).2.2 (A u).2.1 = 0 → (A u).1 ≤ 5 → zbest (A u).1 (A u).2.2 (A u).2.1 l → ¬ (0 ≤ i ∧ i < (l.length : Int)) → ∀ h', zMt h h' → K (some (zI (-1))) h') (k1 : ∀ (u : Nat) (l : List Nat) (j : Nat), u < N → t = (u : Int) → zmb (A u).2.2 (A u).2.1 = 0 → (A u).1 ≤ 5 → zbest (A u).1 (A u).2.2 (A u).2.1 l → j < l.length → i = (j : Int) → ∀ h', zMt h h' → K (some (zI ((l.getD (l.length - 1 - j) 0 : Nat) : Int))) h') : zC X 199 [zR 0, zI t, zI i] h K := by
  refine sg_199_0 (cx_198 F S (fun c => ?_) (fun u hu htu mb => ?_) (fun u hu htu mb n5 => ?_) (fun u l hu htu mb n5 best h' Y e7 D len => ?_))
  · exact sg_199_5c F (fun a => ⟨rfl, k0 c⟩) (fun a b => ⟨rfl, k0 c⟩) (fun a b => by omega)
  · exact sg_199_5c F (fun a => ⟨rfl, k2 u hu htu mb⟩) (fun a b => ⟨rfl, k2 u hu htu mb⟩) (fun a b => by omega)
  · exact sg_199_5c F (fun a => ⟨rfl, k3 u hu htu mb n5⟩) (fun a b => ⟨rfl, k3 u hu htu mb n5⟩) (fun a b => by omega)
  · refine sg_199_5c Y.1 (fun a => ⟨rfl, k4 u l hu htu mb n5 best (by omega) h' Y⟩) (fun a b => ⟨rfl, k4 u l hu htu mb n5 best (by omega) h' Y⟩) (fun a b => ?_)
    exact cx_59 Y.1 e7 D len (fun c => absurd ⟨a, b⟩ c) (fun j hj hij => sg_199_23c ⟨rfl, k1 u l j hu htu mb n5 best hj hij h' Y⟩)
end
