/-! THE REFERENCE: WAYS THAT FIT -/
def zvd (g : Nat → Int × Int × Int × Int) (k j : Nat) : Prop := ∃ i, k < i ∧ i < j ∧ (g i).2.2.2 = (k : Int)
def zfit (n : Nat) (g : Nat → Int × Int × Int × Int) (t : Int) (v j : Nat) : Prop := ∀ k, k < j → (g k).1 = t → ¬ zvd g k j → (zr n v (g k).2.2.1.toNat : Int) = (g k).2.1
noncomputable def zfw (n : Nat) (e : zel) (m : Nat) (g : Nat → Int × Int × Int × Int) (t : Int) (j v : Nat) : Nat := @ite Nat (zfit n g t v j) (Classical.propDecidable _) (zww n e 0 m v) 0
/-- logs that stand: of a ladder on the shelf, with a number and a leg of it -/
def zGV (N : Nat) (A : Nat → Nat × Nat × zel) (G : Nat) (g : Nat → Int × Int × Int × Int) : Prop := ∀ i, i < G → (g i).1 = -1 ∨ ∃ u : Nat, u < N ∧ (g i).1 = (u : Int) ∧ 0 ≤ (g i).2.1 ∧ (g i).2.1 < ((A u).1 : Int) ∧ 0 ≤ (g i).2.2.1 ∧ (g i).2.2.1 < ((A u).1 : Int)
theorem zfw_le {n m j v : Nat} {e : zel} {g : Nat → Int × Int × Int × Int} {t : Int} : zfw n e m g t j v ≤ zww n e 0 m v := by
  unfold zfw
  split
  · exact Nat.le_refl _
  · exact Nat.zero_le _
section
variable {X : List Int} {h : zHP} {K : Option zAV → zHP → Prop} {N G : Nat} {A : Nat → Nat × Nat × zel} {g : Nat → Int × Int × Int × Int}
/-- isVoid -/
theorem cm_296 {k j : Nat} {x y : Int} (F : zFin h) (g0 : zGM h G g) (hk : k < j) (hj : j ≤ G) (hx : x = (k : Int)) (hy : y = (j : Int)) (k1 : zvd g k j → K (some (zI 1)) h) (k0 : ¬ zvd g k j → K (some (zI 0)) h) : zC X 296 [zR 108, zI x, zI y] h K := by
  have hG := g0.2.1
  have loop : ∀ (q i : Nat) (z : Int), j - i = q → i ≤ j → k < i → z = (i : Int) → (∀ l, k < l → l < i → (g l).2.2.2 ≠ (k : Int)) → zAt X 296 4 0 0 [some (zR 108), some (zI x), some (zI y), some (zI z)] [] zSHc h (fun v sh' h' => sh' = zSHc ∧ K v h') := by
    intro q
    induction q with
    | zero =>
      intro i z hq hi hki hz B
      refine sg_296_4 F (fun _ => ⟨rfl, k0 fun ⟨l, l1, l2, l3⟩ => B l l1 (by omega) l3⟩) (fun a => by omega) (fun a => by omega) (fun a => by omega) (fun a => by omega)
    | succ q ih =>
      intro i z hq hi hki hz B
      have e : h 118 z.toNat = (g i).2.2.2 := by rw [show z.toNat = i by omega]; exact (g0.2.2 i (by omega)).2.1
      refine sg_296_4 F (fun a => by omega) (fun _ => by omega) (fun _ _ => by omega) (fun _ c => ?_) (fun _ c => ⟨rfl, k1 ⟨i, hki, by omega, by omega⟩⟩)
      refine ih (i + 1) _ (by omega) (by omega) (by omega) (by omega) fun l l1 l2 l3 => ?_
      by_cases d : l = i
      · rw [d] at l3; omega
      · exact B l l1 (by omega) l3
  exact sg_296_0 (by omega) (loop _ (k + 1) _ rfl (by omega) (by omega) (by omega) fun l a b => by omega)
/-- isFit -/
theorem cm_297 {n u v j : Nat} {t x y : Int} (F : zFin h) (g0 : zGM h G g) (V : zGV N A G g) (hn : n ≤ 7) (MO : zMO h n) (hu : u < N) (hA : (A u).1 = n) (ht : t = (u : Int)) (hv : v < zfac n) (hj : j ≤ G) (hx : x = (v : Int)) (hy : y = (j : Int)) (k1 : zfit n g t v j → K (some (zI 1)) h) (k0 : ¬ zfit n g t v j → K (some (zI 0)) h) : zC X 297 [zR 108, zI t, zI x, zI y] h K := by
  have hG := g0.2.1
  have h5 := zfac7 hn
  have loop : ∀ (q k : Nat) (z : Int), j - k = q → k ≤ j → z = (k : Int) → (∀ l, l < k → (g l).1 = t → ¬ zvd g l j → (zr n v (g l).2.2.1.toNat : Int) = (g l).2.1) → zAt X 297 3 0 0 [some (zR 108), some (zI t), some (zI x), some (zI y), some (zI z)] [] zSHc h (fun v sh' h' => sh' = zSHc ∧ K v h') := by
    intro q
    induction q with
    | zero =>
      intro k z hq hk hz B
      refine sg_297_3 F (fun _ => ⟨rfl, k1 fun l l1 => B l (by omega)⟩) (fun a => by omega) (fun a => by omega) (fun a => by omega) (fun a => by omega)
    | succ q ih =>
      intro k z hq hk hz B
      obtain ⟨a1, a2, a3⟩ := g0.2.2 k (by omega)
      have ez : z.toNat = k := by omega
      have nx : ((g k).1 = t → ¬ zvd g k j → (zr n v (g k).2.2.1.toNat : Int) = (g k).2.1) → zAt X 297 3 0 0 [some (zR 108), some (zI t), some (zI x), some (zI y), some (zI (z + 1))] [] zSHc h (fun v sh' h' => sh' = zSHc ∧ K v h') := fun c => by
        refine ih (k + 1) _ (by omega) (by omega) (by omega) fun l l1 => ?_
        by_cases d : l = k
        · rw [d]; exact c
        · exact B l (by omega)
      refine sg_297_3 F (fun a => by omega) (fun _ => by omega) (fun _ _ => by omega) (fun _ c => nx fun c2 => absurd (by rw [ez, a1]; exact c2) c) (fun _ c => ?_)
      rw [ez, a1] at c
      refine cm_296 F g0 (show k < j by omega) hj hz hy (fun d => ?_) (fun d => ?_)
      · refine sg_297_27c F (fun a => absurd a (by decide)) (fun a => absurd a (by decide)) (fun a => absurd a (by decide)) (fun a => absurd a (by decide)) (fun a => absurd a (by decide)) (fun a => absurd a (by decide)) (fun a => absurd a (by decide)) (fun _ => by omega) (fun _ => nx fun _ d2 => absurd d d2)
      · have vk := V k (by omega)
        have a4 := a3 (by omega)
        have vq : 0 ≤ (g k).2.1 ∧ (g k).2.1 < (n : Int) ∧ 0 ≤ (g k).2.2.1 ∧ (g k).2.2.1 < (n : Int) := by
          rcases vk with z | ⟨u2, b1, b2, b3⟩
          · omega
          · have : u2 = u := by omega
            rw [this, hA] at b3
            exact b3
        have e7 : h 117 z.toNat = (g k).2.2.1 := by rw [ez]; exact a4.2
        have e6 : h 116 z.toNat = (g k).2.1 := by rw [ez]; exact a4.1
        have er : h 136 (7 * x + h 117 z.toNat).toNat = (zr n v (g k).2.2.1.toNat : Int) := by
          rw [e7, show (7 * x + (g k).2.2.1).toNat = 7 * v + (g k).2.2.1.toNat by omega]
          exact MO.2.1 v hv _ (by omega)
        have nx1 := fun c3 => nx fun _ _ => c3
        have no : (zr n v (g k).2.2.1.toNat : Int) ≠ (g k).2.1 → zSHc = zSHc ∧ K (some (zI 0)) h := fun c3 => ⟨rfl, k0 fun all => c3 (all k (by omega) c d)⟩
        clear nx ih B k1 k0 V vk a3 MO
        apply sg_297_27c F <;> intros <;> (try omega)
        · exact nx1 (by omega)
        · exact no (by omega)
  exact sg_297_0 (loop _ 0 0 rfl (by omega) rfl fun l a => by omega)
/-- fit -/
theorem cm_298 {u j : Nat} {t y : Int} (F : zFin h) (M : zMS h N A) (L : zML h) (g0 : zGM h G g) (V : zGV N A G g) (hu : u < N) (ht : t = (u : Int)) (hj : j ≤ G) (hy : y = (j : Int)) (k : ∀ h', zLz h h' → zMO h' (A u).1 → (∀ v, v < zfac (A u).1 → h' 148 v = (zfw (A u).1 (A u).2.2 (A u).2.1 g t j v : Int)) → K (some (zL (zsu (zfw (A u).1 (A u).2.2 (A u).2.1 g t j) (zfac (A u).1) : Nat))) h') : zC X 298 [zR 108, zI t, zI y] h K := by
  have hl := (M.2.2 u hu).1
  have hzp := zfac_pos (A u).1
  have h5 := zfac7 hl.1.2
  refine sg_298_0 (cm_288 F M L hu ht hzp rfl fun ha ya MO W => sg_298_6c ?_)
  have gz : ∀ h1, zLz h h1 → zGM h1 G g := fun h1 y1 => by
    obtain ⟨b1, b2, b3⟩ := g0
    refine ⟨by rw [y1.2.2.1 7 (by decide) (by decide)]; exact b1, b2, fun i hi => ?_⟩
    rw [y1.2.1 115 (by decide), y1.2.1 116 (by decide), y1.2.1 117 (by decide), y1.2.1 118 (by decide)]
    exact b3 i hi
  have le : ∀ v, v ≤ zfac (A u).1 → zsu (zfw (A u).1 (A u).2.2 (A u).2.1 g t j) v ≤ 1099511627776 := fun v hv => by
    have a1 := zww_lt hl hzp (P := fun _ => True) hv
    have a2 := zsu_mono (f := zfw (A u).1 (A u).2.2 (A u).2.1 g t j) (g := fun w => if True then zww (A u).1 (A u).2.2 0 (A u).2.1 w else 0) (n := v) (fun i _ => by rw [if_pos trivial]; exact zfw_le)
    omega
  have loop : ∀ (p v : Nat) (h1 : zHP) (x z : Int), zfac (A u).1 - v = p → v ≤ zfac (A u).1 → z = (v : Int) → x = (zsu (zfw (A u).1 (A u).2.2 (A u).2.1 g t j) v : Nat) → zFin h1 → zfr [148] ha h1 → (∀ w, w < v → h1 148 w = (zfw (A u).1 (A u).2.2 (A u).2.1 g t j w : Int)) → (∀ w, v ≤ w → w < zfac (A u).1 → h1 148 w = (zww (A u).1 (A u).2.2 0 (A u).2.1 w : Int)) → zAt X 298 11 0 0 [some (zR 108), some (zI t), some (zI y), some (zL x), none, some (zI z)] [] zSHc h1 (fun v sh' h' => sh' = zSHc ∧ K v h') := by
    intro p
    induction p with
    | zero =>
      intro v h1 x z hp hv hz hx F1 fr B1 B2
      have ev : v = zfac (A u).1 := by omega
      have fr' : zfr [148, 149] ha h1 := fr.mono (by simp)
      have e39 := (MO.z fr').1
      rw [ev] at hx B1
      subst hx
      exact sg_298_11 F1 (fun _ => ⟨rfl, k h1 (ya.w F1 fr') (MO.z fr') B1⟩) (fun a => by omega) (fun a => by omega) (fun a => by omega) (fun a => by omega) (fun a => by omega)
    | succ p ih =>
      intro v h1 x z hp hv hz hx F1 fr B1 B2
      have hv' : v < zfac (A u).1 := by omega
      have fr' : zfr [148, 149] ha h1 := fr.mono (by simp)
      have MO1 := MO.z fr'
      have e39 := MO1.1
      have y1 := ya.w F1 fr'
      have ez : z.toNat = v := by omega
      have w1 : h1 148 z.toNat = (zww (A u).1 (A u).2.2 0 (A u).2.1 v : Int) := by rw [ez]; exact B2 v (by omega) hv'
      have es : zsu (zfw (A u).1 (A u).2.2 (A u).2.1 g t j) (v + 1) = zsu (zfw (A u).1 (A u).2.2 (A u).2.1 g t j) v + zfw (A u).1 (A u).2.2 (A u).2.1 g t j v := rfl
      have b1 := le v (by omega)
      have b2 := zww_le hl hzp (Nat.le_refl _) hv'
      have stay : zfw (A u).1 (A u).2.2 (A u).2.1 g t j v = zww (A u).1 (A u).2.2 0 (A u).2.1 v → zAt X 298 11 0 0 [some (zR 108), some (zI t), some (zI y), some (zL (x + h1 148 z.toNat)), none, some (zI (z + 1))] [] zSHc h1 (fun v sh' h' => sh' = zSHc ∧ K v h') := fun c => by
        refine ih (v + 1) h1 _ _ (by omega) (by omega) (by omega) (by rw [es, w1, c]; omega) F1 fr (fun w hw => ?_) (fun w hw => B2 w (by omega))
        by_cases d : w = v
        · rw [d, c]; exact B2 v (by omega) hv'
        · exact B1 w (by omega)
      refine sg_298_11 F1 (fun a => by omega) (fun _ => by omega) (fun _ _ => by omega) (fun _ _ => by omega) (fun _ c => stay ?_) (fun _ c => ?_)
      · have := zfw_le (n := (A u).1) (e := (A u).2.2) (m := (A u).2.1) (g := g) (t := t) (j := j) (v := v)
        omega
      · refine cm_297 F1 (gz h1 y1) V hl.1.2 MO1 hu rfl ht hv' hj hz hy (fun d => ?_) (fun d => ?_)
        · have e : zfw (A u).1 (A u).2.2 (A u).2.1 g t j v = zww (A u).1 (A u).2.2 0 (A u).2.1 v := if_pos d
          exact sg_298_40c F1 (fun _ => by omega) (fun _ => by omega) (fun _ => by omega) (fun _ => stay e) (fun a => absurd a (by decide)) (fun a => absurd a (by decide)) (fun a => absurd a (by decide)) (fun a => absurd a (by decide))
        · have e : zfw (A u).1 (A u).2.2 (A u).2.1 g t j v = 0 := if_neg d
          refine sg_298_40c F1 (fun a => absurd rfl a) (fun a => absurd rfl a) (fun a => absurd rfl a) (fun a => absurd rfl a) (fun _ => by omega) (fun _ => by omega) (fun _ => by omega) (fun _ => ?_)
          rw [ez]
          refine ih (v + 1) _ _ _ (by omega) (by omega) (by omega) (by rw [es, e]; omega) (F1.upA zfa_148) (fr.up (by simp)) (fun w hw => ?_) (fun w hw hw2 => by rw [zup_k (by omega)]; exact B2 w (by omega) hw2)
          by_cases d2 : w = v
          · rw [d2, zup_eq, e]; rfl
          · rw [zup_k d2]; exact B1 w (by omega)
  exact loop _ 0 ha 0 0 rfl (by omega) rfl rfl ya.1 zfr.rfl (fun w a => by omega) (fun w _ hw => W w hw)
/-- fitting -/
theorem cm_300 {t j : Int} (F : zFin h) (M : zMS h N A) (L : zML h) (g0 : zGM h G g) (V : zGV N A G g) (k0 : (∀ u : Nat, u < N → t = (u : Int) → 0 ≤ j → j ≤ (G : Int) → False) → K (some (zL (-1))) h) (k1 : ∀ u : Nat, u < N → t = (u : Int) → 0 ≤ j → j ≤ (G : Int) → ∀ h', zLz h h' → K (some (zL (zsu (zfw (A u).1 (A u).2.2 (A u).2.1 g t j.toNat) (zfac (A u).1) : Nat))) h') : zC X 300 [zR 108, zI t, zI j] h K := by
  have h0 := M.1
  have h7 := g0.1
  refine sg_300_0 (fun c => ⟨rfl, k0 fun u a1 a2 a3 a4 => by omega⟩) fun c => ?_
  obtain ⟨u, hu⟩ : ∃ u : Nat, t = (u : Int) := ⟨t.toNat, by omega⟩
  have hu' : u < N := by omega
  exact cm_298 F M L g0 V hu' hu (j := j.toNat) (by omega) (by omega) fun h' y _ _ => sg_300_15c ⟨rfl, k1 u hu' hu (by omega) (by omega) h' y⟩
end
