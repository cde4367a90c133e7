/-! THE CLASS: WHAT GATES SORT -/
def zuns (n : Nat) (e : zel) (sk m : Nat) : Nat := zsu (fun o => if zru n e 0 sk m o = 0 then 0 else 1) (zfac n)
def zfls (n : Nat) (e : zel) (sk m : Nat) : Nat := zsu (fun r => if zsdb (zbrw e sk m r.testBit) (n - 1) then 0 else 1) (2 ^ n)
theorem zmb0_k {n m : Nat} {e : zel} (hl : zlok n m e) (h : zmb e m = 0) : ∀ j, j < m → (e j).2.1 + 2 ≤ n ∧ (e j).1 < 3 := fun i hi => by
  obtain ⟨a1, a2, -⟩ := hl.2.2.2 i hi
  have a4 := zmb_mono e (show i + 1 ≤ m by omega)
  have a3 : zmb e (i + 1) = zmb e i + (if (e i).1 = 3 then 1 else 0) := rfl
  by_cases c : (e i).1 = 3
  · rw [if_pos c] at a3; omega
  · exact ⟨a2, by omega⟩
theorem zsu_zero {f : Nat → Nat} : ∀ {n : Nat}, zsu f n = 0 ↔ ∀ i, i < n → f i = 0 := by
  intro n
  induction n with
  | zero => exact ⟨fun _ i hi => by omega, fun _ => rfl⟩
  | succ n ih =>
    show zsu f n + f n = 0 ↔ _
    constructor
    · intro h i hi
      by_cases c : i = n
      · rw [c]; omega
      · exact ih.mp (by omega) i (by omega)
    · intro h
      have a1 := ih.mpr (fun i hi => h i (by omega))
      have a2 := h n (by omega)
      omega
theorem zfls_0 {n m sk : Nat} {e : zel} (hn : 2 ≤ n ∧ n ≤ 7) (hl : ∀ j, j < m → (e j).2.1 + 2 ≤ n ∧ (e j).1 < 3) : zfls n e sk m = 0 ↔ zuns n e sk m = 0 := by
  unfold zfls zuns
  rw [zsu_zero, zsu_zero]
  have key := zsort_all (sk := sk) (th := 0) hn.2 hl
  constructor
  · intro h o ho
    refine if_pos (key.mp (fun r hr => ?_) o ho)
    have := h r hr
    cases c : zsdb (zbrw e sk m r.testBit) (n - 1) with
    | true => exact (zsd_b (by omega)).mpr c
    | false => rw [c] at this; cases this
  · intro h r hr
    have a1 := key.mpr (fun o ho => by
      have := h o ho
      by_cases c : zru n e 0 sk m o = 0
      · exact c
      · rw [if_neg c] at this; cases this) r hr
    exact if_pos ((zsd_b (by omega)).mp a1)
theorem zcompl {f : Nat → Prop} [DecidablePred f] : ∀ N, zsu (fun o => if f o then 1 else 0) N + zsu (fun o => if f o then 0 else 1) N = N := by
  intro N
  induction N with
  | zero => rfl
  | succ N ih =>
    show zsu _ N + (if f N then 1 else 0) + (zsu _ N + (if f N then 0 else 1)) = _
    by_cases c : f N
    · rw [if_pos c, if_pos c]; omega
    · rw [if_neg c, if_neg c]; omega
/-- the orders whose bit rows are marked as sorted are those that come to the first -/
theorem zmark_sorted {n m sk o : Nat} {e : zel} (hn : 2 ≤ n ∧ n ≤ 7) (hl : ∀ j, j < m → (e j).2.1 + 2 ≤ n ∧ (e j).1 < 3) (ho : o < zfac n) : (∀ c, c ≤ n → (fun r => decide (r < 2 ^ n) && zsdb ((fun r => zbrw e sk m r.testBit) r) (n - 1)) (zrb n (zth n o c)) = true) ↔ zru n e 0 sk m o = 0 := by
  have hl1 : ∀ j, j < m → (e j).2.1 + 2 ≤ n := fun j hj => (hl j hj).1
  obtain ⟨r0, -⟩ := zth_ru (c := 0) (sk := sk) (th := 0) ho hn.2 m hl
  rw [zsd_0 r0]
  have one : ∀ c, (decide (zrb n (zth n o c) < 2 ^ n) && zsdb (zbrw e sk m (zrb n (zth n o c)).testBit) (n - 1)) = true ↔ zsd n (zth n (zru n e 0 sk m o) c) := fun c => by
    rw [decide_eq_true (zrb_lt n), Bool.true_and, ← zsd_b (by omega)]
    obtain ⟨-, r2⟩ := zth_ru (c := c) (sk := sk) (th := 0) ho hn.2 m hl
    have a2 : ∀ j, j < n → (zrb n (zth n o c)).testBit j = zth n o c j := fun j hj => by rw [zrb_bit, decide_eq_true hj, Bool.true_and]
    have eq : ∀ j, j < n → zbrw e sk m (zrb n (zth n o c)).testBit j = zth n (zru n e 0 sk m o) c j := fun j hj => (zbrw_congr a2 m hl1 j hj).trans (r2 j hj).symm
    constructor
    · intro s j hj hf
      rw [← eq (j + 1) (by omega)]
      exact s j hj (by rw [eq j (by omega)]; exact hf)
    · intro s j hj hf
      rw [eq (j + 1) (by omega)]
      exact s j hj (by rw [← eq j (by omega)]; exact hf)
  constructor
  · intro H c
    by_cases hc : c ≤ n
    · exact (one c).mp (H c hc)
    · intro j hj hf
      have := of_decide_eq_true hf
      have := zr_lt7 r0 (show j < n by omega)
      omega
  · intro H c _
    exact (one c).mpr (H c)
theorem zmark_alike {n m m2 o : Nat} {e f : zel} (hn : 2 ≤ n ∧ n ≤ 7) (hl : ∀ j, j < m → (e j).2.1 + 2 ≤ n ∧ (e j).1 < 3) (hl2 : ∀ j, j < m2 → (f j).2.1 + 2 ≤ n ∧ (f j).1 < 3) (ho : o < zfac n) : (∀ c, c ≤ n → (fun r => decide (r < 2 ^ n) && zalk ((fun r => zbrw e 9999 m r.testBit) r) ((fun r => zbrw f 9999 m2 r.testBit) r) n) (zrb n (zth n o c)) = true) ↔ zru n e 0 9999 m o = zru n f 0 9999 m2 o := by
  obtain ⟨r0, -⟩ := zth_ru (c := 0) (sk := 9999) (th := 0) ho hn.2 m hl
  obtain ⟨s0, -⟩ := zth_ru (c := 0) (sk := 9999) (th := 0) ho hn.2 m2 hl2
  have one : ∀ c, (decide (zrb n (zth n o c) < 2 ^ n) && zalk (zbrw e 9999 m (zrb n (zth n o c)).testBit) (zbrw f 9999 m2 (zrb n (zth n o c)).testBit) n) = true ↔ ∀ j, j < n → zth n (zru n e 0 9999 m o) c j = zth n (zru n f 0 9999 m2 o) c j := fun c => by
    rw [decide_eq_true (zrb_lt n), Bool.true_and, zalk_iff]
    obtain ⟨-, r2⟩ := zth_ru (c := c) (sk := 9999) (th := 0) ho hn.2 m hl
    obtain ⟨-, s2⟩ := zth_ru (c := c) (sk := 9999) (th := 0) ho hn.2 m2 hl2
    have a2 : ∀ j, j < n → (zrb n (zth n o c)).testBit j = zth n o c j := fun j hj => by rw [zrb_bit, decide_eq_true hj, Bool.true_and]
    have eq : ∀ j, j < n → zbrw e 9999 m (zrb n (zth n o c)).testBit j = zth n (zru n e 0 9999 m o) c j := fun j hj => (zbrw_congr a2 m (fun j hj => (hl j hj).1) j hj).trans (r2 j hj).symm
    have eq2 : ∀ j, j < n → zbrw f 9999 m2 (zrb n (zth n o c)).testBit j = zth n (zru n f 0 9999 m2 o) c j := fun j hj => (zbrw_congr a2 m2 (fun j hj => (hl2 j hj).1) j hj).trans (s2 j hj).symm
    constructor
    · intro H j hj
      rw [← eq j hj, ← eq2 j hj]
      exact H j hj
    · intro H j hj
      rw [eq j hj, eq2 j hj]
      exact H j hj
  constructor
  · intro H
    refine zth_ext r0 s0 fun c j hj => ?_
    by_cases hc : c ≤ n
    · exact (one c).mp (H c hc) j hj
    · have a1 := zr_lt7 r0 hj
      have a2 := zr_lt7 s0 hj
      unfold zth
      rw [decide_eq_false (by omega), decide_eq_false (by omega)]
  · intro H c _
    refine (one c).mpr fun j hj => ?_
    rw [H]
section
variable {X : List Int} {h : zHP} {K : Option zAV → zHP → Prop}
/-- changesAt -/
theorem cx_3 {o w n m i : Nat} {e : zel} {p : Nat → Nat → Bool} {y : Int} (F : zFin h) (ho : zBit o) (hw : zLad w) (L : zLC h w n m e) (hl : zlok n m e) (hmb : zmb e m = 0) (hi : i < m) (hy : y = (i : Int)) (B : zBR h o n p) (k1 : ((e i).1 = 0 ∨ ((e i).1 = 1 ∧ ∃ r, r < 2 ^ n ∧ p r (e i).2.1 = true ∧ p r ((e i).2.1 + 1) = false) ∨ ((e i).1 = 2 ∧ ∃ r, r < 2 ^ n ∧ p r (e i).2.1 = false ∧ p r ((e i).2.1 + 1) = true)) → K (some (zI 1)) h) (k0 : ¬ ((e i).1 = 0 ∨ ((e i).1 = 1 ∧ ∃ r, r < 2 ^ n ∧ p r (e i).2.1 = true ∧ p r ((e i).2.1 + 1) = false) ∨ ((e i).1 = 2 ∧ ∃ r, r < 2 ^ n ∧ p r (e i).2.1 = false ∧ p r ((e i).2.1 + 1) = true)) → K (some (zI 0)) h) : zC X 3 [zR o, zR w, zI y] h K := by
  have hn := hl.1
  have h128 : 2 ^ n ≤ 2 ^ 7 := Nat.pow_le_pow_right (by decide) hn.2
  have lg := L.lg hl hi
  have kd := L.kd hl hi
  rw [← hy] at lg kd
  obtain ⟨q1, q2⟩ := zmb0_k hl hmb i hi
  have l0 := B.2 (e i).2.1 (by omega)
  have l1 := B.2 ((e i).2.1 + 1) (by omega)
  have t0 : (zLg h w y).toNat = (e i).2.1 := by omega
  have t1 : ((zLg h w y) + 1).toNat = (e i).2.1 + 1 := by omega
  have h3 := B.1
  refine sg_3_0 F ho hw (fun a => by omega) (fun _ => by omega) (fun _ a => by omega) (fun _ _ _ => by omega) (fun _ _ _ => by omega) (fun _ _ _ => ?_) (fun _ _ a => by omega)
  refine cx_4 ho hn h3 ?_
  rw [t0, t1, lg, kd]
  refine sg_3_68c F ho (by omega) (by omega) (by omega) ?_
  rw [h3, zHiM_B hn]
  refine cx_4 ho hn h3 ?_
  have t2 : (((e i).2.1 : Int)).toNat = (e i).2.1 := by omega
  have t3 : (((e i).2.1 : Int) + 1).toNat = (e i).2.1 + 1 := by omega
  rw [t2, t3, l0.1, l0.2, l1.1, l1.2, zB_not, zB_not, zB_not, zB_and, zB_and, zB_and, zB_and]
  have g1 : zlor (zB (fun r => (p r (e i).2.1 && !p r ((e i).2.1 + 1)) && decide (r < 2 ^ n))) (zB (fun r => (p (r + 64) (e i).2.1 && !p (r + 64) ((e i).2.1 + 1)) && decide (r + 64 < 2 ^ n))) = 0 ↔ ¬ ∃ r, r < 2 ^ n ∧ p r (e i).2.1 = true ∧ p r ((e i).2.1 + 1) = false := by
    rw [zB_or, zB_0]
    constructor
    · rintro H ⟨r, hr, a, b⟩
      by_cases c : r < 64
      · have := H r c
        rw [a, b, decide_eq_true hr] at this
        cases this
      · have := H (r - 64) (by omega)
        rw [show r - 64 + 64 = r by omega, a, b, decide_eq_true hr] at this
        simp at this
    · intro H r hr
      have f1 : ((p r (e i).2.1 && !p r ((e i).2.1 + 1)) && decide (r < 2 ^ n)) = false := by
        cases c : ((p r (e i).2.1 && !p r ((e i).2.1 + 1)) && decide (r < 2 ^ n)) with
        | false => rfl
        | true =>
          simp at c
          exact absurd ⟨r, c.2, c.1.1, c.1.2⟩ H
      have f2 : ((p (r + 64) (e i).2.1 && !p (r + 64) ((e i).2.1 + 1)) && decide (r + 64 < 2 ^ n)) = false := by
        cases c : ((p (r + 64) (e i).2.1 && !p (r + 64) ((e i).2.1 + 1)) && decide (r + 64 < 2 ^ n)) with
        | false => rfl
        | true =>
          simp at c
          exact absurd ⟨r + 64, c.2, c.1.1, c.1.2⟩ H
      rw [f1, f2]; rfl
  have g2 : zlor (zland (zB (fun r => !p r (e i).2.1 && p r ((e i).2.1 + 1))) (zB (fun r => decide (r < 2 ^ n)))) (zland (zland (zlxor (h (o + 2) (e i).2.1) (-1)) (h (o + 2) ((e i).2.1 + 1))) (zHiM (h o 3))) = 0 ↔ ¬ ∃ r, r < 2 ^ n ∧ p r (e i).2.1 = false ∧ p r ((e i).2.1 + 1) = true := by
    rw [l0.2, l1.2, h3, zHiM_B hn, zB_not, zB_and, zB_and, zB_and, zB_or, zB_0]
    constructor
    · rintro H ⟨r, hr, a, b⟩
      by_cases c : r < 64
      · have := H r c
        rw [a, b, decide_eq_true hr] at this
        cases this
      · have := H (r - 64) (by omega)
        rw [show r - 64 + 64 = r by omega, a, b, decide_eq_true hr] at this
        simp at this
    · intro H r hr
      have f1 : ((!p r (e i).2.1 && p r ((e i).2.1 + 1)) && decide (r < 2 ^ n)) = false := by
        cases c : ((!p r (e i).2.1 && p r ((e i).2.1 + 1)) && decide (r < 2 ^ n)) with
        | false => rfl
        | true =>
          simp at c
          exact absurd ⟨r, c.2, c.1.1, c.1.2⟩ H
      have f2 : ((!p (r + 64) (e i).2.1 && p (r + 64) ((e i).2.1 + 1)) && decide (r + 64 < 2 ^ n)) = false := by
        cases c : ((!p (r + 64) (e i).2.1 && p (r + 64) ((e i).2.1 + 1)) && decide (r + 64 < 2 ^ n)) with
        | false => rfl
        | true =>
          simp at c
          exact absurd ⟨r + 64, c.2, c.1.1, c.1.2⟩ H
      rw [f1, f2]; rfl
  refine sg_3_124c F ho (by omega) (by omega) (by omega) (fun a b => ⟨rfl, k1 (Or.inl (by omega))⟩) (fun a b c => ⟨rfl, k0 fun z => ?_⟩) (fun a b c => ⟨rfl, k1 (Or.inr (Or.inr ⟨by omega, ?_⟩))⟩) (fun a c => ⟨rfl, k0 fun z => ?_⟩) (fun a c => ⟨rfl, k1 (Or.inr (Or.inl ⟨by omega, ?_⟩))⟩)
  · rw [t2, t3, zB_and, g2] at c
    rcases z with z | z | z
    · omega
    · omega
    · exact c z.2
  · rw [t2, t3, zB_and, g2] at c
    exact Classical.not_not.mp c
  · rw [g1] at c
    rcases z with z | z | z
    · omega
    · exact c z.2
    · omega
  · rw [g1] at c
    exact Classical.not_not.mp c
end
