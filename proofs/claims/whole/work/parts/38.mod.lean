/-! THE REFERENCE: its ladders, tape, logs -/
def zLM (h : zHP) (t n m : Nat) (e : zel) : Prop := h 109 t = (n : Int) ∧ h 110 t = (m : Int) ∧ ∀ i, i < m → h 111 (200 * t + i) = ((e i).1 : Int) ∧ h 112 (200 * t + i) = ((e i).2.1 : Int) ∧ ((e i).1 = 3 → h 113 (200 * t + i) = ((e i).2.2.1 : Int) ∧ h 114 (200 * t + i) = ((e i).2.2.2 : Int))
def zMS (h : zHP) (N : Nat) (A : Nat → Nat × Nat × zel) : Prop := h 108 0 = (N : Int) ∧ N ≤ 6 ∧ ∀ t, t < N → zlok (A t).1 (A t).2.1 (A t).2.2 ∧ zLM h t (A t).1 (A t).2.1 (A t).2.2
def zGM (h : zHP) (G : Nat) (g : Nat → Int × Int × Int × Int) : Prop := h 108 7 = (G : Int) ∧ G ≤ 40 ∧ ∀ i, i < G → h 115 i = (g i).1 ∧ h 118 i = (g i).2.2.2 ∧ ((g i).1 ≠ -1 → h 116 i = (g i).2.1 ∧ h 117 i = (g i).2.2.1)
theorem zlok_le {n m k : Nat} {e : zel} (hl : zlok n m e) (hk : k ≤ m) : zlok n k e := ⟨hl.1, Nat.le_trans hk hl.2.1, Nat.le_trans (zmb_mono e hk) hl.2.2.1, fun i hi => hl.2.2.2 i (by omega)⟩
section
variable {h : zHP} {N u i : Nat} {A : Nat → Nat × Nat × zel} {x y : Int}
theorem zMS.n (M : zMS h N A) (hu : u < N) (hx : x = (u : Int)) : h 109 x.toNat = ((A u).1 : Int) ∧ h 110 x.toNat = ((A u).2.1 : Int) := by
  have e : x.toNat = u := by omega
  rw [e]
  exact ⟨(M.2.2 u hu).2.1, (M.2.2 u hu).2.2.1⟩
theorem zMS.rd (M : zMS h N A) (hu : u < N) (hx : x = (u : Int)) (hi : i < (A u).2.1) (hy : y = (i : Int)) : h 111 (200 * x + y).toNat = (((A u).2.2 i).1 : Int) ∧ h 112 (200 * x + y).toNat = (((A u).2.2 i).2.1 : Int) ∧ (((A u).2.2 i).1 = 3 → h 113 (200 * x + y).toNat = (((A u).2.2 i).2.2.1 : Int) ∧ h 114 (200 * x + y).toNat = (((A u).2.2 i).2.2.2 : Int)) := by
  have e : (200 * x + y).toNat = 200 * u + i := by omega
  rw [e]
  exact (M.2.2 u hu).2.2.2 i hi
theorem zMS.fr {h' : zHP} (M : zMS h N A) (f0 : h' 108 0 = h 108 0) (f : ∀ c, 109 ≤ c → c ≤ 114 → h' c = h c) : zMS h' N A := by
  obtain ⟨m1, m2, m3⟩ := M
  refine ⟨f0.trans m1, m2, fun t ht => ⟨(m3 t ht).1, ?_⟩⟩
  unfold zLM
  rw [f 109 (by omega) (by omega), f 110 (by omega) (by omega), f 111 (by omega) (by omega), f 112 (by omega) (by omega), f 113 (by omega) (by omega), f 114 (by omega) (by omega)]
  exact (m3 t ht).2
end
section
variable {X : List Int} {h : zHP} {K : Option zAV → zHP → Prop} {N : Nat} {A : Nat → Nat × Nat × zel}
/-- maybesOf -/
theorem cm_244 {u : Nat} {x : Int} (F : zFin h) (M : zMS h N A) (hu : u < N) (hx : x = (u : Int)) (k : K (some (zI (zmb (A u).2.2 (A u).2.1 : Int))) h) : zC X 244 [zR 108, zI x] h K := by
  have hN := M.2.1
  obtain ⟨n1, n2⟩ := M.n hu hx
  have hl := (M.2.2 u hu).1
  have hm := hl.2.1
  have loop : ∀ (q i : Nat) (y z : Int), (A u).2.1 - i = q → i ≤ (A u).2.1 → y = (i : Int) → z = (zmb (A u).2.2 i : Int) → zAt X 244 4 0 0 [some (zR 108), some (zI x), some (zI z), some (zI y)] [] zSHc h (fun v sh' h' => sh' = zSHc ∧ K v h') := by
    intro q
    induction q with
    | zero =>
      intro i y z hq hi hy hz
      have ei : i = (A u).2.1 := by omega
      subst ei
      apply sg_244_4 F <;> intros <;> (try omega)
      subst hz
      exact ⟨rfl, k⟩
    | succ q ih =>
      intro i y z hq hi hy hz
      obtain ⟨r1, -, -⟩ := M.rd hu hx (show i < (A u).2.1 by omega) hy
      have et : zmb (A u).2.2 (i + 1) = zmb (A u).2.2 i + (if ((A u).2.2 i).1 = 3 then 1 else 0) := rfl
      have hb := zmb_le (A u).2.2 i
      apply sg_244_4 F <;> intros <;> (try omega)
      · rw [if_neg (by omega)] at et
        exact ih (i + 1) _ _ (by omega) (by omega) (by omega) (by omega)
      · rw [if_pos (by omega)] at et
        exact ih (i + 1) _ _ (by omega) (by omega) (by omega) (by omega)
  exact sg_244_0 (loop _ 0 0 0 rfl (by omega) rfl rfl)
/-- isPlain -/
theorem cm_245 {u : Nat} {x : Int} (F : zFin h) (M : zMS h N A) (hu : u < N) (hx : x = (u : Int)) (k1 : zplb (A u).2.2 (A u).2.1 = true → K (some (zI 1)) h) (k0 : ¬ zplb (A u).2.2 (A u).2.1 = true → K (some (zI 0)) h) : zC X 245 [zR 108, zI x] h K := by
  have hN := M.2.1
  obtain ⟨n1, n2⟩ := M.n hu hx
  have hl := (M.2.2 u hu).1
  have hm := hl.2.1
  rw [zplb_iff] at k1 k0
  have loop : ∀ (q i : Nat) (y : Int), (A u).2.1 - i = q → i ≤ (A u).2.1 → y = (i : Int) → (∀ j, j < i → ((A u).2.2 j).1 = 0) → zAt X 245 2 0 0 [some (zR 108), some (zI x), some (zI y)] [] zSHc h (fun v sh' h' => sh' = zSHc ∧ K v h') := by
    intro q
    induction q with
    | zero =>
      intro i y hq hi hy hz
      apply sg_245_2 F <;> intros <;> (try omega)
      exact ⟨rfl, k1 fun j hj => hz j (by omega)⟩
    | succ q ih =>
      intro i y hq hi hy hz
      obtain ⟨r1, -, -⟩ := M.rd hu hx (show i < (A u).2.1 by omega) hy
      apply sg_245_2 F <;> intros <;> (try omega)
      · refine ih (i + 1) _ (by omega) (by omega) (by omega) fun j hj => ?_
        by_cases c : j = i
        · subst c; omega
        · exact hz j (by omega)
      · refine ⟨rfl, k0 fun z => ?_⟩
        have := z i (by omega)
        omega
  exact sg_245_0 (loop _ 0 0 rfl (by omega) rfl (fun j hj => by omega))
/-- layer -/
theorem cm_253 {u : Nat} {x : Int} (F : zFin h) (M : zMS h N A) (hu : u < N) (hx : x = (u : Int)) (k : ∀ h', zFin h' → zfr [134, 135] h h' → (∀ i, i < (A u).2.1 → h' 134 i = (zlyr (A u).2.2 i : Int)) → K (some (zI (zdeep (A u).2.2 (A u).2.1 : Int))) h') : zC X 253 [zR 108, zI x] h K := by
  have hN := M.2.1
  have hl := (M.2.2 u hu).1
  have hm := hl.2.1
  have hn := hl.1
  have main : ∀ (q i : Nat) (h1 : zHP) (y z : Int), (A u).2.1 - i = q → i ≤ (A u).2.1 → y = (i : Int) → zFin h1 → zfr [134, 135] h h1 → z = (zdeep (A u).2.2 i : Int) → (∀ q, q < 7 → h1 135 q = (ztop (A u).2.2 i q : Int)) → (∀ j, j < i → h1 134 j = (zlyr (A u).2.2 j : Int)) → zAt X 253 25 0 0 [some (zR 108), some (zI x), some (zI z), some (zI y), none, none] [] zSHc h1 (fun v sh' h' => sh' = zSHc ∧ K v h') := by
    intro q
    induction q with
    | zero =>
      intro i h1 y z hq hi hy F1 fr hz ht hly
      have M1 := M.fr (h' := h1) (congrFun (fr 108 (by decide)) 0) (fun c a b => fr c (by simp; omega))
      obtain ⟨n1, n2⟩ := M1.n hu hx
      have ei : i = (A u).2.1 := by omega
      subst ei
      apply sg_253_25 F1 <;> intros <;> (try omega)
      subst hz
      exact ⟨rfl, k h1 F1 fr hly⟩
    | succ q ih =>
      intro i h1 y z hq hi hy F1 fr hz ht hly
      have M1 := M.fr (h' := h1) (congrFun (fr 108 (by decide)) 0) (fun c a b => fr c (by simp; omega))
      obtain ⟨n1, n2⟩ := M1.n hu hx
      obtain ⟨-, r2, -⟩ := M1.rd hu hx (show i < (A u).2.1 by omega) hy
      have hx2 := (hl.2.2.2 i (by omega)).2.1
      have t1 := ht ((A u).2.2 i).2.1 (by omega)
      have t2 := ht (((A u).2.2 i).2.1 + 1) (by omega)
      have b1 := ztop_le (A u).2.2 i ((A u).2.2 i).2.1
      have b2 := ztop_le (A u).2.2 i (((A u).2.2 i).2.1 + 1)
      have eN1 : (h1 112 (200 * x + y).toNat).toNat = ((A u).2.2 i).2.1 := by omega
      have eN2 : (h1 112 (200 * x + y).toNat + 1).toNat = ((A u).2.2 i).2.1 + 1 := by omega
      have ed : zdeep (A u).2.2 (i + 1) = max (zdeep (A u).2.2 i) (zlyr (A u).2.2 i) := rfl
      have el : zlyr (A u).2.2 i = max (ztop (A u).2.2 i ((A u).2.2 i).2.1) (ztop (A u).2.2 i (((A u).2.2 i).2.1 + 1)) + 1 := rfl
      have ey : y.toNat = i := by omega
      have fin : ∀ (V W : Int), V = (zlyr (A u).2.2 i : Int) → W = (zdeep (A u).2.2 (i + 1) : Int) → zAt X 253 25 0 0 [some (zR 108), some (zI x), some (zI W), some (zI (y + 1)), none, none] [] zSHc (zup (zup (zup h1 135 (h1 112 (200 * x + y).toNat).toNat V) 135 (h1 112 (200 * x + y).toNat + 1).toNat V) 134 y.toNat V) (fun v sh' h' => sh' = zSHc ∧ K v h') := by
        intro V W hV hW
        rw [eN1, eN2, ey, hV]
        refine ih (i + 1) _ _ _ (by omega) (by omega) (by omega) (((F1.upA zfa_135).upA zfa_135).upA zfa_134) (((fr.up (by simp)).up (by simp)).up (by simp)) hW (fun q hq7 => ?_) (fun j hj => ?_)
        · have et : ztop (A u).2.2 (i + 1) q = if q = ((A u).2.2 i).2.1 ∨ q = ((A u).2.2 i).2.1 + 1 then max (ztop (A u).2.2 i ((A u).2.2 i).2.1) (ztop (A u).2.2 i (((A u).2.2 i).2.1 + 1)) + 1 else ztop (A u).2.2 i q := rfl
          rw [et, zup_c (by decide)]
          by_cases g2 : q = ((A u).2.2 i).2.1 + 1
          · rw [g2, zup_eq, if_pos (Or.inr rfl), el]
          · rw [zup_k g2]
            by_cases g1 : q = ((A u).2.2 i).2.1
            · rw [g1, zup_eq, if_pos (Or.inl rfl), el]
            · rw [zup_k g1, if_neg (by omega)]; exact ht q hq7
        · by_cases c : j = i
          · rw [c, zup_eq]
          · rw [zup_k c, zup_c (by decide), zup_c (by decide)]; exact hly j (by omega)
      have t1' : h1 135 (h1 112 (200 * x + y).toNat).toNat = (ztop (A u).2.2 i ((A u).2.2 i).2.1 : Int) := by rw [eN1]; exact t1
      have t2' : h1 135 (h1 112 (200 * x + y).toNat + 1).toNat = (ztop (A u).2.2 i (((A u).2.2 i).2.1 + 1) : Int) := by rw [eN2]; exact t2
      apply sg_253_25 F1 <;> intros <;> (try omega)
      · exact fin _ _ (by omega) (by omega)
      · exact fin _ _ (by omega) (by omega)
      · exact fin _ _ (by omega) (by omega)
      · exact fin _ _ (by omega) (by omega)
  have fill : ∀ (q i : Nat) (h1 : zHP) (y : Int), 7 - i = q → i ≤ 7 → y = (i : Int) → zFin h1 → zfr [134, 135] h h1 → (∀ q, q < i → h1 135 q = 0) → zAt X 253 4 0 0 [some (zR 108), some (zI x), some (zI 0), some (zI y), none, none] [] zSHc h1 (fun v sh' h' => sh' = zSHc ∧ K v h') := by
    intro q
    induction q with
    | zero =>
      intro i h1 y hq hi hy F1 fr hz
      apply sg_253_4 F1 <;> intros <;> (try omega)
      exact main _ 0 h1 0 0 rfl (by omega) rfl F1 fr rfl (fun q hq7 => hz q (by omega)) (fun j hj => by omega)
    | succ q ih =>
      intro i h1 y hq hi hy F1 fr hz
      apply sg_253_4 F1 <;> intros <;> (try omega)
      refine ih (i + 1) _ _ (by omega) (by omega) (by omega) (F1.upA zfa_135) (fr.up (by simp)) (fun q hq7 => ?_)
      rw [show y.toNat = i by omega]
      by_cases c : q = i
      · rw [c, zup_eq]
      · rw [zup_k c]; exact hz q (by omega)
  exact sg_253_0 (fill 7 0 h 0 (by omega) (by omega) rfl F zfr.rfl (fun q hq => by omega))
/-- ladder -/
theorem cm_254 {t w : Int} (F : zFin h) (M : zMS h N A) (k0 : ¬ (0 ≤ t ∧ t < (N : Int)) → K (some (zI (-1))) h) (k1 : ∀ u : Nat, u < N → t = (u : Int) → ∀ h', zFin h' → zfr [134, 135] h h' → K (some (zI (zs166 (A u) w))) h') : zC X 254 [zR 108, zI t, zI w] h K := by
  have hN := M.2.1
  have m1 := M.1
  by_cases c : 0 ≤ t ∧ t < (N : Int)
  · have hu : t.toNat < N := by omega
    have ht : t = ((t.toNat : Nat) : Int) := by omega
    obtain ⟨n1, n2⟩ := M.n hu ht
    have k1 := k1 t.toNat hu ht
    have kk := k1 h F zfr.rfl
    unfold zs166 at kk
    clear k0
    apply sg_254_0 F <;> intros <;> (try omega)
    · rw [if_neg (by omega), if_neg (by omega), if_neg (by omega), if_neg (by omega), if_neg (by omega)] at kk
      exact ⟨rfl, kk⟩
    · rw [if_neg (by omega), if_neg (by omega), if_neg (by omega), if_neg (by omega), if_pos (by omega)] at kk
      refine cm_245 F M hu ht (fun c => ?_) (fun c => ?_)
      · rw [if_pos c] at kk
        exact sg_254_77c (fun a => absurd a (by decide)) (fun _ => ⟨rfl, kk⟩)
      · rw [if_neg c] at kk
        exact sg_254_77c (fun _ => ⟨rfl, kk⟩) (fun a => absurd rfl a)
    · refine cm_253 F M hu ht fun h' F' fr _ => sg_254_69c ⟨rfl, ?_⟩
      have := k1 h' F' fr
      unfold zs166 at this
      rw [if_neg (by omega), if_neg (by omega), if_neg (by omega), if_pos (by omega)] at this
      exact this
    · rw [if_neg (by omega), if_neg (by omega), if_pos (by omega)] at kk
      exact cm_244 F M hu ht (sg_254_56c ⟨rfl, kk⟩)
    · rw [if_neg (by omega), if_pos (by omega)] at kk
      rw [n2]; exact ⟨rfl, kk⟩
    · rw [if_pos (by omega)] at kk
      rw [n1]; exact ⟨rfl, kk⟩
    · rw [if_neg (by omega), if_neg (by omega), if_neg (by omega), if_neg (by omega), if_neg (by omega)] at kk
      exact ⟨rfl, kk⟩
  · apply sg_254_0 F <;> intros <;> (try omega)
    exact ⟨rfl, k0 c⟩
/-- element -/
theorem cm_255 {t i w : Int} (F : zFin h) (M : zMS h N A) (k0 : (∀ u j : Nat, u < N → t = (u : Int) → i = (j : Int) → j < (A u).2.1 → False) → K (some (zI (-1))) h) (k1 : ∀ u j : Nat, u < N → t = (u : Int) → i = (j : Int) → j < (A u).2.1 → ∀ h', zFin h' → zfr [134, 135] h h' → K (some (zI (zs167 (A u) j w))) h') : zC X 255 [zR 108, zI t, zI i, zI w] h K := by
  have hN := M.2.1
  have m1 := M.1
  by_cases c : 0 ≤ t ∧ t < (N : Int)
  · have hu : t.toNat < N := by omega
    have ht : t = ((t.toNat : Nat) : Int) := by omega
    obtain ⟨n1, n2⟩ := M.n hu ht
    have hl := (M.2.2 _ hu).1
    have hm := hl.2.1
    have no : ¬ (0 ≤ i ∧ i < (A t.toNat).2.1) → K (some (zI (-1))) h := fun c => k0 fun u' j hu' a b d => by
      have : u' = t.toNat := by omega
      subst this
      omega
    by_cases ci : 0 ≤ i ∧ i < (A t.toNat).2.1
    · have ei : i = ((i.toNat : Nat) : Int) := by omega
      have hj : i.toNat < (A t.toNat).2.1 := by omega
      obtain ⟨r1, r2, r3⟩ := M.rd hu ht hj ei
      have k1 := k1 _ _ hu ht ei hj
      have kk := k1 h F zfr.rfl
      unfold zs167 at kk
      clear k0 no
      apply sg_255_0 F <;> intros <;> (try omega)
      · rw [if_neg (by omega), if_neg (by omega), if_neg (by omega), if_neg (by omega), if_neg (by omega)] at kk
        exact ⟨rfl, kk⟩
      · have c3 : ((A t.toNat).2.2 i.toNat).1 = 3 := by omega
        rw [if_neg (by omega), if_neg (by omega), if_neg (by omega), if_pos (by omega), if_pos c3] at kk
        rw [(r3 c3).2]; exact ⟨rfl, kk⟩
      · have c3 : ((A t.toNat).2.2 i.toNat).1 = 3 := by omega
        rw [if_neg (by omega), if_neg (by omega), if_pos (by omega), if_pos c3] at kk
        rw [(r3 c3).1]; exact ⟨rfl, kk⟩
      · have c3 : ¬ ((A t.toNat).2.2 i.toNat).1 = 3 := by omega
        refine ⟨rfl, ?_⟩
        by_cases w2 : w = 2
        · rw [if_neg (by omega), if_neg (by omega), if_pos w2, if_neg c3] at kk; exact kk
        · rw [if_neg (by omega), if_neg (by omega), if_neg w2, if_pos (by omega), if_neg c3] at kk; exact kk
      · refine cm_253 F M hu ht fun h' F' fr q => sg_255_79c F' (by omega) ⟨rfl, ?_⟩
        have := k1 h' F' fr
        unfold zs167 at this
        rw [if_neg (by omega), if_neg (by omega), if_neg (by omega), if_neg (by omega), if_pos (by omega)] at this
        rw [q _ hj]
        exact this
      · rw [if_neg (by omega), if_pos (by omega)] at kk
        rw [r1]; exact ⟨rfl, kk⟩
      · rw [if_pos (by omega)] at kk
        rw [r2]; exact ⟨rfl, kk⟩
      · rw [if_neg (by omega), if_neg (by omega), if_neg (by omega), if_neg (by omega), if_neg (by omega)] at kk
        exact ⟨rfl, kk⟩
    · apply sg_255_0 F <;> intros <;> (try omega)
      · exact ⟨rfl, no ci⟩
      · exact ⟨rfl, no ci⟩
  · apply sg_255_0 F <;> intros <;> (try omega)
    exact ⟨rfl, k0 fun u j hu a b d => by omega⟩
/-- ways -/
theorem cm_289 {t : Int} (F : zFin h) (M : zMS h N A) (k0 : ¬ (0 ≤ t ∧ t < (N : Int)) → K (some (zL (-1))) h) (k1 : ∀ u : Nat, u < N → t = (u : Int) → K (some (zL (zways (A u).2.2 (A u).2.1 : Int))) h) : zC X 289 [zR 108, zI t] h K := by
  have hN := M.2.1
  have m1 := M.1
  by_cases c : 0 ≤ t ∧ t < (N : Int)
  · obtain ⟨u, ht⟩ : ∃ u : Nat, t = (u : Int) := ⟨t.toNat, by omega⟩
    have hu : u < N := by omega
    obtain ⟨n1, n2⟩ := M.n hu ht
    have hl := (M.2.2 _ hu).1
    have hm := hl.2.1
    have k1 := k1 _ hu ht
    clear k0
    have loop : ∀ (q i : Nat) (y z : Int), (A u).2.1 - i = q → i ≤ (A u).2.1 → y = (i : Int) → z = (zways (A u).2.2 i : Int) → zAt X 289 17 0 0 [some (zR 108), some (zI t), some (zL z), none, some (zI y)] [] zSHc h (fun v sh' h' => sh' = zSHc ∧ K v h') := by
      intro q
      induction q with
      | zero =>
        intro i y z hq hi hy hz
        have ei : i = (A u).2.1 := by omega
        subst ei
        apply sg_289_17 F <;> intros <;> (try omega)
        subst hz
        exact ⟨rfl, k1⟩
      | succ q ih =>
        intro i y z hq hi hy hz
        have hi' : i < (A u).2.1 := by omega
        obtain ⟨r1, -, r3⟩ := M.rd hu ht hi' hy
        have b2 := zways_b hl (show i + 1 ≤ (A u).2.1 by omega)
        have es : zways (A u).2.2 (i + 1) = if ((A u).2.2 i).1 = 3 then zways (A u).2.2 i * ((A u).2.2 i).2.2.2 else zways (A u).2.2 i := rfl
        by_cases c3 : ((A u).2.2 i).1 = 3
        · rw [if_pos c3] at es
          have em : z * h 114 (200 * t + y).toNat = (zways (A u).2.2 (i + 1) : Int) := by rw [(r3 c3).2, hz, es]; exact (Int.natCast_mul _ _).symm
          apply sg_289_17 F <;> intros <;> (try omega)
          exact ih (i + 1) _ _ (by omega) (by omega) (by omega) em
        · rw [if_neg c3] at es
          apply sg_289_17 F <;> intros <;> (try omega)
          exact ih (i + 1) _ _ (by omega) (by omega) (by omega) (by omega)
    exact sg_289_0 (fun _ => loop _ 0 0 1 rfl (by omega) rfl rfl) (fun a => by omega)
  · exact sg_289_0 (fun a => by omega) (fun _ => ⟨rfl, k0 c⟩)
end
