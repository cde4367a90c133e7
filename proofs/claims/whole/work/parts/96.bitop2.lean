/-! THE CLASS: sorts, unsorted, fails, firstFail, idle, needed, unlike -/
def zBt (h h' : zHP) : Prop := zFin h' ∧ zfr [54, 55, 56, 57, 58, 59, 60, 61] h h'
theorem zno9 {m : Nat} (hm : m ≤ 200) : ∀ i, i < m → ((i : Int) = -1 ↔ i = 9999) := fun i hi => ⟨fun z => by omega, fun z => by omega⟩
section
variable {X : List Int} {h : zHP} {K : Option zAV → zHP → Prop} {N s : Nat} {A : Nat → Nat × Nat × zel}
theorem zCS.bt {h' : zHP} (S : zCS h N s A) (y : zBt h h') : zCS h' N s A := by
  have fr := y.2
  have h6 := S.2.1
  exact S.fr (by rw [fr 0 (by decide)]) (by rw [fr 0 (by decide)]) (fr 5 (by decide)) (by rw [fr 1 (by decide)]; exact Int.le_refl _) fun t ht => ⟨fr _ (by simp; omega), fr _ (by simp; omega)⟩
theorem zCS.mb {u : Nat} (S : zCS h N s A) (hu : u < N) : h (6 + 3 * u) 4 = (zmb (A u).2.2 (A u).2.1 : Int) := (S.2.2.2.2.1 u hu).2.1.2.2.1
/-- fails -/
theorem cx_194 {t : Int} (F : zFin h) (S : zCS h N s A) (k0 : ¬ (0 ≤ t ∧ t < (N : Int)) → K (some (zI (-1))) h) (k2 : ∀ u : Nat, u < N → t = (u : Int) → ¬ zmb (A u).2.2 (A u).2.1 = 0 → K (some (zI (-2))) h) (k1 : ∀ u : Nat, u < N → t = (u : Int) → zmb (A u).2.2 (A u).2.1 = 0 → ∀ h', zBt h h' → h' 54 3 = ((A u).1 : Int) → zMK h' 54 (fun r => decide (r < 2 ^ (A u).1) && zsdb ((fun r => zbrw (A u).2.2 9999 (A u).2.1 r.testBit) r) ((A u).1 - 1)) → K (some (zI (zfls (A u).1 (A u).2.2 9999 (A u).2.1 : Int))) h') : zC X 194 [zR 0, zI t] h K := by
  have h6 := S.2.1
  refine sg_194_0 (cx_202 F S (fun c => sg_194_5cz ⟨rfl, k0 c⟩) (fun u hu htu => ?_))
  obtain ⟨hl, L, -⟩ := S.2.2.2.2.1 u hu
  have hpu := zLadT (t := u) (by omega)
  have e4 := S.mb hu
  have hm := hl.2.1
  refine sg_194_5c F hpu (by omega) (fun a => ?_) (fun a => ⟨rfl, k2 u hu htu (by omega)⟩)
  have mb0 : zmb (A u).2.2 (A u).2.1 = 0 := by omega
  rw [L.2.1]
  refine cx_1 (q := (A u).2.1) (sk := 9999) F (Or.inl rfl) hpu L hl mb0 (Nat.le_refl _) rfl (zno9 hm) fun h1 F1 fr1 B => sg_194_35c F1 ?_
  refine cx_6 F1 (Or.inl rfl) hl.1 B fun h2 F2 fr2 e2 M => sg_194_42c F2 ?_
  have e3 : h2 54 3 = ((A u).1 : Int) := by rw [e2 3 (by decide) (by decide)]; exact B.1
  have Y : zBt h h2 := ⟨F2, (fr1.mono (by simp)).trans (fr2.mono (by simp))⟩
  have kk := k1 u hu htu mb0 h2 Y e3 M
  refine cx_8 (n := (A u).1) (Or.inl rfl) hl.1 e3 M (sg_194_49c ⟨rfl, ?_⟩)
  have e5 : zsu (fun r => if (decide (r < 2 ^ (A u).1) && zsdb ((fun r => zbrw (A u).2.2 9999 (A u).2.1 r.testBit) r) ((A u).1 - 1)) then 0 else 1) (2 ^ (A u).1) = zfls (A u).1 (A u).2.2 9999 (A u).2.1 := zsu_congr fun r hr => by
    rw [decide_eq_true hr, Bool.true_and]
  rw [e5]
  exact kk
/-- sorts -/
theorem cx_192 {t : Int} (F : zFin h) (S : zCS h N s A) (k0 : ¬ (0 ≤ t ∧ t < (N : Int)) → K (some (zI (-1))) h) (k2 : ∀ u : Nat, u < N → t = (u : Int) → ¬ zmb (A u).2.2 (A u).2.1 = 0 → K (some (zI (-2))) h) (k1 : ∀ u : Nat, u < N → t = (u : Int) → zmb (A u).2.2 (A u).2.1 = 0 → ∀ h', zBt h h' → K (some (zI (if zuns (A u).1 (A u).2.2 9999 (A u).2.1 = 0 then 1 else 0))) h') : zC X 192 [zR 0, zI t] h K := by
  refine sg_192_0 (cx_194 F S (fun c => sg_192_5c (fun a => absurd a (by decide)) (fun a => absurd a (by decide)) (fun _ => ⟨rfl, k0 c⟩)) (fun u hu htu mb => sg_192_5c (fun a => absurd a (by decide)) (fun a => absurd a (by decide)) (fun _ => ⟨rfl, k2 u hu htu mb⟩)) (fun u hu htu mb h' Y e3 M => ?_))
  have kk := k1 u hu htu mb h' Y
  have hl := (S.2.2.2.2.1 u hu).1
  have z := zfls_0 (sk := 9999) hl.1 (zmb0_k hl mb)
  refine sg_192_5c (fun _ a => ⟨rfl, ?_⟩) (fun _ a => ⟨rfl, ?_⟩) (fun a => by omega)
  · rw [if_neg (fun q => a (by have := z.mpr q; omega))] at kk
    exact kk
  · rw [if_pos (z.mp (by omega))] at kk
    exact kk
/-- firstFail -/
theorem cx_195 {t : Int} (F : zFin h) (S : zCS h N s A) (k0 : ¬ (0 ≤ t ∧ t < (N : Int)) → K (some (zI (-1))) h) (k2 : ∀ u : Nat, u < N → t = (u : Int) → ¬ zmb (A u).2.2 (A u).2.1 = 0 → K (some (zI (-2))) h) (k3 : ∀ u : Nat, u < N → t = (u : Int) → zmb (A u).2.2 (A u).2.1 = 0 → (∀ r, r < 2 ^ (A u).1 → zsdb (zbrw (A u).2.2 9999 (A u).2.1 r.testBit) ((A u).1 - 1) = true) → ∀ h', zBt h h' → K (some (zI (-3))) h') (k1 : ∀ u q : Nat, u < N → t = (u : Int) → zmb (A u).2.2 (A u).2.1 = 0 → q < 2 ^ (A u).1 → zsdb (zbrw (A u).2.2 9999 (A u).2.1 q.testBit) ((A u).1 - 1) = false → (∀ r, r < q → zsdb (zbrw (A u).2.2 9999 (A u).2.1 r.testBit) ((A u).1 - 1) = true) → ∀ h', zBt h h' → K (some (zI (q : Int))) h') : zC X 195 [zR 0, zI t] h K := by
  refine sg_195_0 (cx_194 F S (fun c => sg_195_5c F (fun a => absurd a (by decide)) (fun a => absurd a (by decide)) (fun _ => ⟨rfl, k0 c⟩)) (fun u hu htu mb => sg_195_5c F (fun a => absurd a (by decide)) (fun a => absurd a (by decide)) (fun _ => ⟨rfl, k2 u hu htu mb⟩)) (fun u hu htu mb h' Y e3 M => ?_))
  have hl := (S.2.2.2.2.1 u hu).1
  have zz : zfls (A u).1 (A u).2.2 9999 (A u).2.1 = 0 ↔ ∀ r, r < 2 ^ (A u).1 → zsdb (zbrw (A u).2.2 9999 (A u).2.1 r.testBit) ((A u).1 - 1) = true := by
    unfold zfls
    rw [zsu_zero]
    constructor
    · intro H r hr
      have := H r hr
      cases c : zsdb (zbrw (A u).2.2 9999 (A u).2.1 r.testBit) ((A u).1 - 1) with
      | true => rfl
      | false => rw [c] at this; cases this
    · intro H r hr
      exact if_pos (H r hr)
  refine sg_195_5c Y.1 (fun _ a => ?_) (fun _ a => ⟨rfl, k3 u hu htu mb (zz.mp (by omega)) h' Y⟩) (fun a => by omega)
  have ne : ¬ ∀ r, r < 2 ^ (A u).1 → zsdb (zbrw (A u).2.2 9999 (A u).2.1 r.testBit) ((A u).1 - 1) = true := fun z => a (by have := zz.mpr z; omega)
  have ex : ∀ b : Nat, (∀ r : Nat, r < b → zsdb (zbrw (A u).2.2 9999 (A u).2.1 r.testBit) ((A u).1 - 1) = true) ∨ ∃ q : Nat, q < b ∧ zsdb (zbrw (A u).2.2 9999 (A u).2.1 q.testBit) ((A u).1 - 1) = false ∧ ∀ r : Nat, r < q → zsdb (zbrw (A u).2.2 9999 (A u).2.1 r.testBit) ((A u).1 - 1) = true := by
    intro b
    induction b with
    | zero => exact Or.inl fun r hr => by omega
    | succ b ih =>
      rcases ih with z | ⟨q, q1, q2, q3⟩
      · cases c : zsdb (zbrw (A u).2.2 9999 (A u).2.1 b.testBit) ((A u).1 - 1) with
        | true =>
          refine Or.inl fun r hr => ?_
          by_cases d : r = b
          · rw [d]; exact c
          · exact z r (by omega)
        | false => exact Or.inr ⟨b, by omega, c, z⟩
      · exact Or.inr ⟨q, by omega, q2, q3⟩
  rcases ex (2 ^ (A u).1) with z | ⟨q, q1, q2, q3⟩
  · exact absurd z ne
  · refine cx_9 (n := (A u).1) (t := q) (Or.inl rfl) hl.1 e3 M q1 ?_ (fun r hr => ?_) (sg_195_28c ⟨rfl, k1 u q hu htu mb q1 q2 q3 h' Y⟩)
    · show (decide (q < 2 ^ (A u).1) && zsdb (zbrw (A u).2.2 9999 (A u).2.1 q.testBit) ((A u).1 - 1)) = false
      rw [q2, Bool.and_false]
    · show (decide (r < 2 ^ (A u).1) && zsdb (zbrw (A u).2.2 9999 (A u).2.1 r.testBit) ((A u).1 - 1)) = true
      rw [q3 r hr, decide_eq_true (by omega)]; rfl
/-- unsorted -/
theorem cx_193 {t : Int} (F : zFin h) (S : zCS h N s A) (k0 : ¬ (0 ≤ t ∧ t < (N : Int)) → K (some (zI (-1))) h) (k2 : ∀ u : Nat, u < N → t = (u : Int) → ¬ zmb (A u).2.2 (A u).2.1 = 0 → K (some (zI (-2))) h) (k1 : ∀ u : Nat, u < N → t = (u : Int) → zmb (A u).2.2 (A u).2.1 = 0 → ∀ h', zBt h h' → K (some (zI (zuns (A u).1 (A u).2.2 9999 (A u).2.1 : Int))) h') : zC X 193 [zR 0, zI t] h K := by
  have h6 := S.2.1
  refine sg_193_0 (cx_202 F S (fun c => sg_193_5cz ⟨rfl, k0 c⟩) (fun u hu htu => ?_))
  obtain ⟨hl, L, -⟩ := S.2.2.2.2.1 u hu
  have hpu := zLadT (t := u) (by omega)
  have e4 := S.mb hu
  have hm := hl.2.1
  have hn := hl.1
  have h5 := zfac7 hn.2
  refine sg_193_5c F hpu (by omega) (fun a => ?_) (fun a => ⟨rfl, k2 u hu htu (by omega)⟩)
  have mb0 : zmb (A u).2.2 (A u).2.1 = 0 := by omega
  rw [L.2.1]
  refine cx_1 (q := (A u).2.1) (sk := 9999) F (Or.inl rfl) hpu L hl mb0 (Nat.le_refl _) rfl (zno9 hm) fun h1 F1 fr1 B => sg_193_35c F1 ?_
  refine cx_6 F1 (Or.inl rfl) hn B fun h2 F2 fr2 e2 M => sg_193_42c F2 hpu ?_
  have e3 : h2 54 3 = ((A u).1 : Int) := by rw [e2 3 (by decide) (by decide)]; exact B.1
  have n2 : h2 (6 + 3 * u) 2 = ((A u).1 : Int) := by rw [fr2 _ (by simp; omega), fr1 _ (by simp; omega)]; exact L.1
  have hM : zHM (h2 (6 + 3 * u) 2) = (zfac (A u).1 : Int) := by
    unfold zHM
    rw [n2, if_pos (by unfold zfits; omega), Int.toNat_natCast]
  rw [hM]
  refine cx_11 (n := (A u).1) F2 (Or.inl rfl) hn e3 M fun h3 F3 fr3 => ?_
  have Y : zBt h h3 := ⟨F3, ((fr1.mono (by simp)).trans (fr2.mono (by simp))).trans (fr3.mono (by simp))⟩
  have kk := k1 u hu htu mb0 h3 Y
  have cnt := zcompl (f := fun w => zru (A u).1 (A u).2.2 0 9999 (A u).2.1 w = 0) (zfac (A u).1)
  have e5 : zsu (fun w => if (∀ c, c ≤ (A u).1 → (fun r => decide (r < 2 ^ (A u).1) && zsdb ((fun r => zbrw (A u).2.2 9999 (A u).2.1 r.testBit) r) ((A u).1 - 1)) (zrb (A u).1 (zth (A u).1 w c)) = true) then 1 else 0) (zfac (A u).1) = zsu (fun w => if zru (A u).1 (A u).2.2 0 9999 (A u).2.1 w = 0 then 1 else 0) (zfac (A u).1) := zsu_congr fun w hw => by
    have i := zmark_sorted (sk := 9999) hn (zmb0_k hl mb0) hw
    by_cases c : zru (A u).1 (A u).2.2 0 9999 (A u).2.1 w = 0
    · rw [if_pos c, if_pos (i.mpr c)]
    · rw [if_neg c, if_neg (fun z => c (i.mp z))]
  rw [e5]
  refine sg_193_60c (by omega) ⟨rfl, ?_⟩
  have e6 : (zfac (A u).1 : Int) - (zsu (fun w => if zru (A u).1 (A u).2.2 0 9999 (A u).2.1 w = 0 then 1 else 0) (zfac (A u).1) : Nat) = (zuns (A u).1 (A u).2.2 9999 (A u).2.1 : Int) := by
    unfold zuns
    omega
  rw [e6]
  exact kk
/-- needed -/
theorem cx_197 {t i : Int} (F : zFin h) (S : zCS h N s A) (k0 : (∀ u j : Nat, u < N → t = (u : Int) → i = (j : Int) → j < (A u).2.1 → False) → K (some (zI (-1))) h) (k2 : ∀ u j : Nat, u < N → t = (u : Int) → i = (j : Int) → j < (A u).2.1 → ¬ zmb (A u).2.2 (A u).2.1 = 0 → K (some (zI (-2))) h) (k1 : ∀ u j : Nat, u < N → t = (u : Int) → i = (j : Int) → j < (A u).2.1 → zmb (A u).2.2 (A u).2.1 = 0 → ∀ h', zBt h h' → K (some (zI (if zuns (A u).1 (A u).2.2 j (A u).2.1 = 0 then 0 else 1))) h') : zC X 197 [zR 0, zI t, zI i] h K := by
  have h6 := S.2.1
  refine sg_197_0 (cx_202 F S (fun c => sg_197_5cz ⟨rfl, k0 fun u j hu a => by omega⟩) (fun u hu htu => ?_))
  obtain ⟨hl, L, -⟩ := S.2.2.2.2.1 u hu
  have hpu := zLadT (t := u) (by omega)
  have e4 := S.mb hu
  have hm := hl.2.1
  have hn := hl.1
  have q3 := L.2.1
  refine sg_197_5c F hpu (by omega) (fun a b => ?_) (fun a b => ⟨rfl, k2 u i.toNat hu htu (by omega) (by omega) (by omega)⟩) (fun a => ⟨rfl, k0 fun u2 j hu2 b1 b2 b3 => ?_⟩)
  · have mb0 : zmb (A u).2.2 (A u).2.1 = 0 := by omega
    rw [L.2.1]
    refine cx_1 (q := (A u).2.1) (sk := i.toNat) F (Or.inl rfl) hpu L hl mb0 (Nat.le_refl _) rfl (fun j hj => ⟨fun z => by omega, fun z => by omega⟩) fun h1 F1 fr1 B => sg_197_43c F1 ?_
    refine cx_6 F1 (Or.inl rfl) hn B fun h2 F2 fr2 e2 M => sg_197_50c F2 ?_
    have e3 : h2 54 3 = ((A u).1 : Int) := by rw [e2 3 (by decide) (by decide)]; exact B.1
    have Y : zBt h h2 := ⟨F2, (fr1.mono (by simp)).trans (fr2.mono (by simp))⟩
    have kk := k1 u i.toNat hu htu (by omega) (by omega) mb0 h2 Y
    refine cx_8 (n := (A u).1) (Or.inl rfl) hn e3 M ?_
    have e5 : zsu (fun r => if (decide (r < 2 ^ (A u).1) && zsdb ((fun r => zbrw (A u).2.2 i.toNat (A u).2.1 r.testBit) r) ((A u).1 - 1)) then 0 else 1) (2 ^ (A u).1) = zfls (A u).1 (A u).2.2 i.toNat (A u).2.1 := zsu_congr fun r hr => by
      rw [decide_eq_true hr, Bool.true_and]
    rw [e5]
    have z := zfls_0 (sk := i.toNat) hn (zmb0_k hl mb0)
    refine sg_197_57c (fun c => ⟨rfl, ?_⟩) (fun c => ⟨rfl, ?_⟩)
    · rw [if_pos (z.mp (by omega))] at kk
      exact kk
    · rw [if_neg (fun q => by have := z.mpr q; omega)] at kk
      exact kk
  · have : u2 = u := by omega
    rw [this] at b3
    exact a (by omega)
/-- idle -/
theorem cx_196 {t i : Int} (F : zFin h) (S : zCS h N s A) (k0 : (∀ u j : Nat, u < N → t = (u : Int) → i = (j : Int) → j < (A u).2.1 → False) → K (some (zI (-1))) h) (k2 : ∀ u j : Nat, u < N → t = (u : Int) → i = (j : Int) → j < (A u).2.1 → ¬ zmb (A u).2.2 (A u).2.1 = 0 → K (some (zI (-2))) h) (k3 : ∀ u j : Nat, u < N → t = (u : Int) → i = (j : Int) → j < (A u).2.1 → zmb (A u).2.2 (A u).2.1 = 0 → (∀ o, o < zfac (A u).1 → zst (A u).1 ((A u).2.2 j) false (zru (A u).1 (A u).2.2 0 9999 j o) = zru (A u).1 (A u).2.2 0 9999 j o) → ∀ h', zBt h h' → K (some (zI 1)) h') (k1 : ∀ u j : Nat, u < N → t = (u : Int) → i = (j : Int) → j < (A u).2.1 → zmb (A u).2.2 (A u).2.1 = 0 → ¬ (∀ o, o < zfac (A u).1 → zst (A u).1 ((A u).2.2 j) false (zru (A u).1 (A u).2.2 0 9999 j o) = zru (A u).1 (A u).2.2 0 9999 j o) → ∀ h', zBt h h' → K (some (zI 0)) h') : zC X 196 [zR 0, zI t, zI i] h K := by
  have h6 := S.2.1
  refine sg_196_0 (cx_202 F S (fun c => sg_196_5cz ⟨rfl, k0 fun u j hu a => by omega⟩) (fun u hu htu => ?_))
  obtain ⟨hl, L, -⟩ := S.2.2.2.2.1 u hu
  have hpu := zLadT (t := u) (by omega)
  have e4 := S.mb hu
  have hm := hl.2.1
  have hn := hl.1
  have q3 := L.2.1
  refine sg_196_5c F hpu (by omega) (fun a b => ?_) (fun a b => ⟨rfl, k2 u i.toNat hu htu (by omega) (by omega) (by omega)⟩) (fun a => ⟨rfl, k0 fun u2 j hu2 b1 b2 b3 => ?_⟩)
  · have mb0 : zmb (A u).2.2 (A u).2.1 = 0 := by omega
    obtain ⟨j, hj⟩ : ∃ j : Nat, i = (j : Int) := ⟨i.toNat, by omega⟩
    have hjm : j < (A u).2.1 := by omega
    have hll := zmb0_k hl mb0
    have hll2 : ∀ q, q < j → ((A u).2.2 q).2.1 + 2 ≤ (A u).1 ∧ ((A u).2.2 q).1 < 3 := fun q hq => hll q (by omega)
    obtain ⟨q1, q2⟩ := hll j hjm
    refine cx_1 (q := j) (sk := 9999) F (Or.inl rfl) hpu L hl mb0 (by omega) hj (fun q hq => zno9 hm q (by omega)) fun h1 F1 fr1 B => sg_196_40c F1 ?_
    have Y : zBt h h1 := ⟨F1, fr1.mono (by simp)⟩
    have L1 : zLC h1 (6 + 3 * u) (A u).1 (A u).2.1 (A u).2.2 := by
      unfold zLC
      rw [fr1 _ (by simp; omega), fr1 _ (by simp; omega)]
      exact L
    -- orders and bit rows
    have key : (∀ o, o < zfac (A u).1 → zst (A u).1 ((A u).2.2 j) false (zru (A u).1 (A u).2.2 0 9999 j o) = zru (A u).1 (A u).2.2 0 9999 j o) ↔ ¬ (((A u).2.2 j).1 = 0 ∨ (((A u).2.2 j).1 = 1 ∧ ∃ r, r < 2 ^ (A u).1 ∧ (fun r => zbrw (A u).2.2 9999 j r.testBit) r ((A u).2.2 j).2.1 = true ∧ (fun r => zbrw (A u).2.2 9999 j r.testBit) r (((A u).2.2 j).2.1 + 1) = false) ∨ (((A u).2.2 j).1 = 2 ∧ ∃ r, r < 2 ^ (A u).1 ∧ (fun r => zbrw (A u).2.2 9999 j r.testBit) r ((A u).2.2 j).2.1 = false ∧ (fun r => zbrw (A u).2.2 9999 j r.testBit) r (((A u).2.2 j).2.1 + 1) = true)) := by
      constructor
      · intro H z
        have any : ∀ r, r < 2 ^ (A u).1 → ∃ o c, o < zfac (A u).1 ∧ zru (A u).1 (A u).2.2 0 9999 j o < zfac (A u).1 ∧ ∀ q, q < (A u).1 → zth (A u).1 (zru (A u).1 (A u).2.2 0 9999 j o) c q = zbrw (A u).2.2 9999 j r.testBit q := fun r hr => by
          obtain ⟨o, c, ho, -, hf⟩ := zth_onto (A u).1 r.testBit
          obtain ⟨r1, r2⟩ := zth_ru (c := c) (sk := 9999) (th := 0) ho hn.2 j hll2
          exact ⟨o, c, ho, r1, fun q hq => (r2 q hq).trans (zbrw_congr hf j (fun q hq => (hll2 q hq).1) q hq)⟩
        rcases z with z | ⟨z, r, hr, g1, g2⟩ | ⟨z, r, hr, g1, g2⟩
        · have f1 := zfac_pos (A u).1
          obtain ⟨r1, -⟩ := zth_ru (c := 0) (sk := 9999) (th := 0) f1 hn.2 j hll2
          exact (zgate_ch (b := false) r1 hn.2 q1 q2).mpr (Or.inl z) (H 0 f1)
        · obtain ⟨o, c, ho, r1, r2⟩ := any r hr
          refine (zgate_ch (b := false) r1 hn.2 q1 q2).mpr (Or.inr (Or.inl ⟨z, c, ?_, ?_⟩)) (H o ho)
          · rw [r2 _ (by omega)]; exact g1
          · rw [r2 _ (by omega)]; exact g2
        · obtain ⟨o, c, ho, r1, r2⟩ := any r hr
          refine (zgate_ch (b := false) r1 hn.2 q1 q2).mpr (Or.inr (Or.inr ⟨z, c, ?_, ?_⟩)) (H o ho)
          · rw [r2 _ (by omega)]; exact g1
          · rw [r2 _ (by omega)]; exact g2
      · intro H o ho
        refine Classical.byContradiction fun ne => H ?_
        have hrow : ∀ c, ∃ r, r < 2 ^ (A u).1 ∧ ∀ q, q < (A u).1 → zbrw (A u).2.2 9999 j r.testBit q = zth (A u).1 (zru (A u).1 (A u).2.2 0 9999 j o) c q := fun c => by
          obtain ⟨-, r2⟩ := zth_ru (c := c) (sk := 9999) (th := 0) ho hn.2 j hll2
          refine ⟨zrb (A u).1 (zth (A u).1 o c), zrb_lt _, fun q hq => ?_⟩
          rw [r2 q hq]
          exact zbrw_congr (fun a ha => by rw [zrb_bit, decide_eq_true ha, Bool.true_and]) j (fun q hq => (hll2 q hq).1) q hq
        obtain ⟨r1, -⟩ := zth_ru (c := 0) (sk := 9999) (th := 0) ho hn.2 j hll2
        rcases (zgate_ch (b := false) r1 hn.2 q1 q2).mp ne with z | ⟨z, c, g1, g2⟩ | ⟨z, c, g1, g2⟩
        · exact Or.inl z
        · obtain ⟨r, hr, hq⟩ := hrow c
          refine Or.inr (Or.inl ⟨z, r, hr, ?_, ?_⟩)
          · exact (hq _ (by omega)).trans g1
          · exact (hq _ (by omega)).trans g2
        · obtain ⟨r, hr, hq⟩ := hrow c
          refine Or.inr (Or.inr ⟨z, r, hr, ?_, ?_⟩)
          · exact (hq _ (by omega)).trans g1
          · exact (hq _ (by omega)).trans g2
    refine cx_3 F1 (Or.inl rfl) hpu L1 hl mb0 hjm hj B (fun yes => ?_) (fun no => ?_)
    · exact sg_196_49c (fun z => absurd z (by decide)) (fun _ => ⟨rfl, k1 u j hu htu hj hjm mb0 (fun z => key.mp z yes) h1 Y⟩)
    · exact sg_196_49c (fun _ => ⟨rfl, k3 u j hu htu hj hjm mb0 (key.mpr no) h1 Y⟩) (fun z => absurd rfl z)
  · have : u2 = u := by omega
    rw [this] at b3
    exact a (by omega)
/-- unlike -/
theorem cx_200 {t w : Int} (F : zFin h) (S : zCS h N s A) (k0 : (∀ u v : Nat, u < N → v < N → t = (u : Int) → w = (v : Int) → False) → K (some (zI (-1))) h) (k2 : ∀ u v : Nat, u < N → v < N → t = (u : Int) → w = (v : Int) → ¬ (zmb (A u).2.2 (A u).2.1 = 0 ∧ zmb (A v).2.2 (A v).2.1 = 0 ∧ (A u).1 = (A v).1) → K (some (zI (-2))) h) (k1 : ∀ u v : Nat, u < N → v < N → t = (u : Int) → w = (v : Int) → zmb (A u).2.2 (A u).2.1 = 0 → zmb (A v).2.2 (A v).2.1 = 0 → (A u).1 = (A v).1 → ∀ h', zBt h h' → K (some (zI (zsu (fun o => if zru (A u).1 (A u).2.2 0 9999 (A u).2.1 o = zru (A u).1 (A v).2.2 0 9999 (A v).2.1 o then 0 else 1) (zfac (A u).1) : Nat))) h') : zC X 200 [zR 0, zI t, zI w] h K := by
  have h6 := S.2.1
  refine sg_200_0 (cx_202 F S (fun c => ?_) (fun u hu htu => ?_))
  · have kk := k0 fun u v hu _ a => by omega
    exact sg_200_5cz (cx_202 F S (fun _ => sg_200_11cnz ⟨rfl, kk⟩) (fun _ _ _ => sg_200_11cn ⟨rfl, kk⟩))
  · obtain ⟨hl, L, -⟩ := S.2.2.2.2.1 u hu
    have hpu := zLadT (t := u) (by omega)
    refine sg_200_5c (cx_202 F S (fun c => sg_200_11cz (by omega) ⟨rfl, k0 fun u v _ hv _ a => by omega⟩) (fun v hv htv => ?_))
    obtain ⟨hl2, L2, -⟩ := S.2.2.2.2.1 v hv
    have hpv := zLadT (t := v) (by omega)
    have e4 := S.mb hu
    have f4 := S.mb hv
    have n1 := L.1
    have n2 := L2.1
    have hm := hl.2.1
    have hn := hl.1
    have h5 := zfac7 hn.2
    refine sg_200_11c F hpv hpu (by omega) (by omega) (fun a => ⟨rfl, k2 u v hu hv htu htv fun z => by omega⟩) (fun _ a => ⟨rfl, k2 u v hu hv htu htv fun z => by omega⟩) (fun a b c => ?_) (fun _ _ a => ⟨rfl, k2 u v hu hv htu htv fun z => by omega⟩)
    have mb0 : zmb (A u).2.2 (A u).2.1 = 0 := by omega
    have mb1 : zmb (A v).2.2 (A v).2.1 = 0 := by omega
    have en : (A u).1 = (A v).1 := by omega
    rw [L.2.1]
    refine cx_1 (q := (A u).2.1) (sk := 9999) F (Or.inl rfl) hpu L hl mb0 (Nat.le_refl _) rfl (zno9 hm) fun h1 F1 fr1 B => sg_200_67c F1 hpv ?_
    have L2' : zLC h1 (6 + 3 * v) (A v).1 (A v).2.1 (A v).2.2 := by
      unfold zLC
      rw [fr1 _ (by simp; omega), fr1 _ (by simp; omega)]
      exact L2
    rw [L2'.2.1]
    refine cx_1 (q := (A v).2.1) (sk := 9999) F1 (Or.inr rfl) hpv L2' hl2 mb1 (Nat.le_refl _) rfl (zno9 hl2.2.1) fun h2 F2 fr2 B2 => sg_200_82c F2 ?_
    have B1 : zBR h2 54 (A u).1 (fun r => zbrw (A u).2.2 9999 (A u).2.1 r.testBit) := by
      unfold zBR
      rw [fr2 54 (by decide), fr2 (54 + 1) (by decide), fr2 (54 + 2) (by decide)]
      exact B
    refine cx_7 F2 (Or.inl rfl) (Or.inr rfl) (by decide) hn B1 B2 fun h3 F3 fr3 e3 M => sg_200_93c F3 hpu ?_
    have n3 : h3 54 3 = ((A u).1 : Int) := by rw [e3 3 (by decide) (by decide)]; exact B1.1
    have n4 : h3 (6 + 3 * u) 2 = ((A u).1 : Int) := by rw [fr3 _ (by simp; omega), fr2 _ (by simp; omega), fr1 _ (by simp; omega)]; exact n1
    have hM : zHM (h3 (6 + 3 * u) 2) = (zfac (A u).1 : Int) := by
      unfold zHM
      rw [n4, if_pos (by unfold zfits; omega), Int.toNat_natCast]
    rw [hM]
    refine cx_11 (n := (A u).1) F3 (Or.inl rfl) hn n3 M fun h4 F4 fr4 => ?_
    have Y : zBt h h4 := ⟨F4, (((fr1.mono (by simp)).trans (fr2.mono (by simp))).trans (fr3.mono (by simp))).trans (fr4.mono (by simp))⟩
    have kk := k1 u v hu hv htu htv mb0 mb1 en h4 Y
    have cnt := zcompl (f := fun o => zru (A u).1 (A u).2.2 0 9999 (A u).2.1 o = zru (A u).1 (A v).2.2 0 9999 (A v).2.1 o) (zfac (A u).1)
    have hll2 : ∀ j, j < (A v).2.1 → ((A v).2.2 j).2.1 + 2 ≤ (A u).1 ∧ ((A v).2.2 j).1 < 3 := by rw [en]; exact zmb0_k hl2 mb1
    have e5 : zsu (fun o => if (∀ c, c ≤ (A u).1 → (fun r => decide (r < 2 ^ (A u).1) && zalk ((fun r => zbrw (A u).2.2 9999 (A u).2.1 r.testBit) r) ((fun r => zbrw (A v).2.2 9999 (A v).2.1 r.testBit) r) (A u).1) (zrb (A u).1 (zth (A u).1 o c)) = true) then 1 else 0) (zfac (A u).1) = zsu (fun o => if zru (A u).1 (A u).2.2 0 9999 (A u).2.1 o = zru (A u).1 (A v).2.2 0 9999 (A v).2.1 o then 1 else 0) (zfac (A u).1) := zsu_congr fun o ho => by
      have i := zmark_alike hn (zmb0_k hl mb0) hll2 ho
      by_cases c : zru (A u).1 (A u).2.2 0 9999 (A u).2.1 o = zru (A u).1 (A v).2.2 0 9999 (A v).2.1 o
      · rw [if_pos c, if_pos (i.mpr c)]
      · rw [if_neg c, if_neg (fun z => c (i.mp z))]
    rw [e5]
    refine sg_200_111c (by omega) ⟨rfl, ?_⟩
    have e6 : (zfac (A u).1 : Int) - (zsu (fun o => if zru (A u).1 (A u).2.2 0 9999 (A u).2.1 o = zru (A u).1 (A v).2.2 0 9999 (A v).2.1 o then 1 else 0) (zfac (A u).1) : Nat) = (zsu (fun o => if zru (A u).1 (A u).2.2 0 9999 (A u).2.1 o = zru (A u).1 (A v).2.2 0 9999 (A v).2.1 o then 0 else 1) (zfac (A u).1) : Nat) := by omega
    rw [e6]
    exact kk
end
