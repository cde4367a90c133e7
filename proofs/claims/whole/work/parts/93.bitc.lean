/-! THE CLASS: ALL BIT ROWS AT ONCE -/
def zsdb (f : Nat → Bool) : Nat → Bool
  | 0 => true
  | k + 1 => zsdb f k && (!f k || f (k + 1))
theorem zsdb_iff {f : Nat → Bool} : ∀ {k : Nat}, zsdb f k = true ↔ ∀ j, j < k → f j = true → f (j + 1) = true := by
  intro k
  induction k with
  | zero => exact ⟨fun _ j hj => by omega, fun _ => rfl⟩
  | succ k ih =>
    show (zsdb f k && (!f k || f (k + 1))) = true ↔ _
    rw [Bool.and_eq_true, ih]
    constructor
    · rintro ⟨h1, h2⟩ j hj hf
      by_cases c : j = k
      · rw [c] at hf ⊢
        rw [hf] at h2
        exact h2
      · exact h1 j (by omega) hf
    · intro H
      refine ⟨fun j hj => H j (by omega), ?_⟩
      cases c : f k with
      | true => exact H k (by omega) c
      | false => rfl
theorem zsd_b {n : Nat} {f : Nat → Bool} (hn : 1 ≤ n) : zsd n f ↔ zsdb f (n - 1) = true := by
  rw [zsdb_iff]
  exact ⟨fun h j hj => h j (by omega), fun h j hj => h j (by omega)⟩
def zBR (h : zHP) (o n : Nat) (p : Nat → Nat → Bool) : Prop := h o 3 = (n : Int) ∧ ∀ l, l < 7 → h (o + 1) l = zB (fun r => p r l) ∧ h (o + 2) l = zB (fun r => p (r + 64) l)
def zMK (h : zHP) (o : Nat) (q : Nat → Bool) : Prop := h o 4 = zB q ∧ h o 5 = zB (fun r => q (r + 64))
theorem zHiM_B {n : Nat} (hn : 2 ≤ n ∧ n ≤ 7) : zHiM (n : Int) = zB (fun r => decide (r + 64 < 2 ^ n)) := by
  have : n = 2 ∨ n = 3 ∨ n = 4 ∨ n = 5 ∨ n = 6 ∨ n = 7 := by omega
  rcases this with e | e | e | e | e | e <;> subst e <;> decide +kernel
theorem zB_low2 {n : Nat} (hn : 6 ≤ n) : (-1 : Int) = zB (fun r => decide (r < 2 ^ n)) := by
  rw [zB_one]
  refine zB_ext fun r hr => ?_
  have : 2 ^ 6 ≤ 2 ^ n := Nat.pow_le_pow_right (by decide) hn
  exact (decide_eq_true (by omega)).symm
theorem zB_range (p : Nat → Bool) : -9223372036854775808 ≤ zB p ∧ zB p < 9223372036854775808 := by
  unfold zB zV
  have h1 := BitVec.le_toInt (BitVec.ofNat 64 (zrb 64 p))
  have h2 := BitVec.toInt_lt (x := BitVec.ofNat 64 (zrb 64 p))
  omega
section
variable {X : List Int} {h : zHP} {K : Option zAV → zHP → Prop}
/-- lowMask -/
theorem cx_4 {o n : Nat} (ho : zBit o) (hn : 2 ≤ n ∧ n ≤ 7) (h3 : h o 3 = (n : Int)) (k : K (some (zL (zB (fun r => decide (r < 2 ^ n))))) h) : zC X 4 [zR o] h K := by
  refine sg_4_0 ho (fun a => ?_) (fun a => ⟨rfl, ?_⟩) (fun a => ⟨rfl, ?_⟩)
  · rw [h3, zB_low (by omega)]
    have e : zlshl 1 (zishl 1 (n : Int)) = zB (fun r => decide (r < 2 ^ n)) + 1 := by rw [← zB_low (by omega)]; omega
    exact zB_range _
  · rw [h3, zB_low (by omega)]; exact k
  · rw [zB_low2 (by omega : 6 ≤ n)]; exact k
/-- pass -/
theorem cx_2 {p0 : Nat} {f : Nat → Nat → Bool} {x : Nat × Nat × Nat × Nat} {y z : Int} (F : zFin h) (ha : zarr p0) (hs : zsh X zSHc p0 = (1, 7)) (hl : p0 < 1000) (hx : x.2.1 + 2 ≤ 7) (h3 : x.1 < 3) (hy : y = (x.1 : Int)) (hz : z = (x.2.1 : Int)) (H : ∀ l, l < 7 → h p0 l = zB (fun r => f r l)) (k : ∀ h', zFin h' → zfr [p0] h h' → (∀ l, l < 7 → h' p0 l = zB (fun r => zbs x (f r) l)) → K none h') : zC X 2 [zR p0, zI y, zI z] h K := by
  have e0 : z.toNat = x.2.1 := by omega
  have e1 : (z + 1).toNat = x.2.1 + 1 := by omega
  have a0 := H x.2.1 (by omega)
  have a1 := H (x.2.1 + 1) (by omega)
  have fin : ∀ A B : Nat → Bool, (∀ r, A r = zbs x (f r) x.2.1) → (∀ r, B r = zbs x (f r) (x.2.1 + 1)) → zSHc = zSHc ∧ K none (zup (zup h p0 x.2.1 (zB A)) p0 (x.2.1 + 1) (zB B)) := fun A B hA hB => by
    refine ⟨rfl, k _ ((F.upV ha).upV ha) (((zfr.rfl).up (by simp)).up (by simp)) fun l hl7 => ?_⟩
    by_cases c1 : l = x.2.1 + 1
    · rw [c1, zup_eq]; exact zB_ext fun r _ => hB r
    · rw [zup_k c1]
      by_cases c2 : l = x.2.1
      · rw [c2, zup_eq]; exact zB_ext fun r _ => hA r
      · rw [zup_k c2, H l hl7]
        exact zB_ext fun r _ => by
          unfold zbs
          rw [if_neg c2, if_neg c1]
  have nk : ¬ x.2.1 + 1 = x.2.1 := by omega
  have kd : x.1 = 0 ∨ x.1 = 1 ∨ x.1 = 2 := by omega
  rcases kd with q | q | q
  · have nx := fin (fun r => f r (x.2.1 + 1)) (fun r => f r x.2.1) (fun r => by unfold zbs; rw [if_pos rfl, if_neg (by omega), if_neg (by omega)]) (fun r => by unfold zbs; rw [if_neg nk, if_pos rfl, if_neg (by omega), if_neg (by omega)])
    rw [← a0, ← a1, ← e1, ← e0, e0, ← e0] at nx
    clear fin H k a0 a1
    apply sg_2_0 ha hs hl <;> intros <;> (try omega)
    all_goals (rw [e0, e1] at nx ⊢; exact nx)
  · have nx := fin (fun r => f r x.2.1 && f r (x.2.1 + 1)) (fun r => f r x.2.1 || f r (x.2.1 + 1)) (fun r => by unfold zbs; rw [if_pos rfl, if_pos q]) (fun r => by unfold zbs; rw [if_neg nk, if_pos rfl, if_pos q])
    rw [← zB_and, ← zB_or, ← a0, ← a1] at nx
    clear fin H k a0 a1
    apply sg_2_0 ha hs hl <;> intros <;> (try omega)
    all_goals (rw [e0, e1]; exact nx)
  · have nx := fin (fun r => f r x.2.1 || f r (x.2.1 + 1)) (fun r => f r x.2.1 && f r (x.2.1 + 1)) (fun r => by unfold zbs; rw [if_pos rfl, if_neg (by omega), if_pos q]) (fun r => by unfold zbs; rw [if_neg nk, if_pos rfl, if_neg (by omega), if_pos q])
    rw [← zB_and, ← zB_or, ← a0, ← a1] at nx
    clear fin H k a0 a1
    apply sg_2_0 ha hs hl <;> intros <;> (try omega)
    all_goals (rw [e0, e1]; exact nx)
/-- sendDown -/
theorem cx_1 {o w n m q sk : Nat} {e : zel} {y z : Int} (F : zFin h) (ho : zBit o) (hw : zLad w) (L : zLC h w n m e) (hl : zlok n m e) (hmb : zmb e m = 0) (hq : q ≤ m) (hy : y = (q : Int)) (hz : ∀ i, i < q → ((i : Int) = z ↔ i = sk)) (k : ∀ h', zFin h' → zfr [o, o + 1, o + 2] h h' → zBR h' o n (fun r => zbrw e sk q r.testBit) → K none h') : zC X 1 [zR o, zR w, zI y, zI z] h K := by
  have hn := hl.1
  have hm := hl.2.1
  have wo : w ≠ o ∧ w ≠ o + 1 ∧ w ≠ o + 2 ∧ w + 1 ≠ o ∧ w + 1 ≠ o + 1 ∧ w + 1 ≠ o + 2 := by unfold zLad at hw; unfold zBit at ho; omega
  have k3 : ∀ i, i < m → (e i).1 < 3 := fun i hi => by
    have a1 := (hl.2.2.2 i hi).1
    have a2 := zmb_mono e (show i + 1 ≤ m by omega)
    have a3 : zmb e (i + 1) = zmb e i + (if (e i).1 = 3 then 1 else 0) := rfl
    by_cases c : (e i).1 = 3
    · rw [if_pos c] at a3; omega
    · omega
  have keep : ∀ h1, zfr [o, o + 1, o + 2] h h1 → zLC h1 w n m e := fun h1 fr => by
    unfold zLC
    rw [fr w (by simp; omega), fr (w + 1) (by simp; omega)]
    exact L
  have loop : ∀ (r i : Nat) (h1 : zHP) (x4 : Int), q - i = r → i ≤ q → x4 = (i : Int) → zFin h1 → zfr [o, o + 1, o + 2] h h1 → zBR h1 o n (fun r => zbrw e sk i r.testBit) → zAt X 1 83 0 0 [some (zR o), some (zR w), some (zI y), some (zI z), some (zI x4)] [] zSHc h1 (fun v sh' h' => sh' = zSHc ∧ K v h') := by
    intro r
    induction r with
    | zero =>
      intro i h1 x4 hr hi h4 F1 fr B
      have ei : i = q := by omega
      rw [ei] at B
      exact sg_1_83 F1 ho hw (fun _ => ⟨rfl, k h1 F1 fr B⟩) (fun a => by omega) (fun a => by omega) (fun a => by omega) (fun a => by omega)
    | succ r ih =>
      intro i h1 x4 hr hi h4 F1 fr B
      have L1 := keep h1 fr
      have e3 := L1.2.1
      have hi' : i < m := by omega
      have lg := L1.lg hl hi'
      have kd := L1.kd hl hi'
      rw [← h4] at lg kd
      obtain ⟨b1, b2⟩ := B
      have hle := (hl.2.2.2 i hi').2.1
      refine sg_1_83 F1 ho hw (fun a => by omega) (fun _ a => by omega) (fun _ _ _ => by omega) (fun _ _ c => ?_) (fun _ _ c => ?_)
      · have ek : i = sk := (hz i (by omega)).mp (by omega)
        refine ih (i + 1) h1 _ (by omega) (by omega) (by omega) F1 fr ⟨b1, fun l hl7 => ?_⟩
        have := b2 l hl7
        refine ⟨this.1.trans (zB_ext fun r _ => ?_), this.2.trans (zB_ext fun r _ => ?_)⟩
        · show zbrw e sk i r.testBit l = zbrw e sk (i + 1) r.testBit l
          rw [zbrw_s, if_pos ek]
        · show zbrw e sk i (r + 64).testBit l = zbrw e sk (i + 1) (r + 64).testBit l
          rw [zbrw_s, if_pos ek]
      · have ek : ¬ i = sk := fun z => c (by have := (hz i (by omega)).mpr z; omega)
        refine cx_2 (x := e i) (f := fun r => zbrw e sk i r.testBit) F1 ho.a1 ho.s1 ho.l1 (by omega) (k3 i hi') kd lg (fun l hl7 => (b2 l hl7).1) fun h2 F2 fr2 H2 => sg_1_123c F2 hw ho ?_
        have q1 : h2 w = h1 w := fr2 w (by simp; omega)
        have q2 : h2 (w + 1) = h1 (w + 1) := fr2 (w + 1) (by simp; omega)
        have L2 := keep h2 (fr.trans (fr2.mono (by simp)))
        have lg2 := L2.lg hl hi'
        have kd2 := L2.kd hl hi'
        rw [← h4] at lg2 kd2
        refine cx_2 (x := e i) (f := fun r => zbrw e sk i (r + 64).testBit) F2 ho.a2 ho.s2 ho.l2 (by omega) (k3 i hi') kd2 lg2 (fun l hl7 => by rw [fr2 _ (by simp)]; exact (b2 l hl7).2) fun h3 F3 fr3 H3 => sg_1_142c (by omega) ?_
        refine ih (i + 1) h3 _ (by omega) (by omega) (by omega) F3 ((fr.trans (fr2.mono (by simp))).trans (fr3.mono (by simp))) ⟨by rw [fr3 o (by simp), fr2 o (by simp)]; exact b1, fun l hl7 => ⟨?_, ?_⟩⟩
        · rw [fr3 (o + 1) (by simp), H2 l hl7]
          exact zB_ext fun r _ => by
            show zbs (e i) (zbrw e sk i r.testBit) l = zbrw e sk (i + 1) r.testBit l
            rw [zbrw_s, if_neg ek]
        · rw [H3 l hl7]
          exact zB_ext fun r _ => by
            show zbs (e i) (zbrw e sk i (r + 64).testBit) l = zbrw e sk (i + 1) (r + 64).testBit l
            rw [zbrw_s, if_neg ek]
  have ini : ∀ (r l : Nat) (h1 : zHP) (x4 : Int), 7 - l = r → l ≤ 7 → x4 = (l : Int) → zFin h1 → zfr [o, o + 1, o + 2] h h1 → h1 o 3 = (n : Int) → (∀ a, a < l → h1 (o + 1) a = zB (fun r => r.testBit a) ∧ h1 (o + 2) a = zB (fun r => (r + 64).testBit a)) → zAt X 1 11 0 0 [some (zR o), some (zR w), some (zI y), some (zI z), some (zI x4)] [] zSHc h1 (fun v sh' h' => sh' = zSHc ∧ K v h') := by
    intro r
    induction r with
    | zero =>
      intro l h1 x4 hr hl7 h4 F1 fr h3 B
      exact sg_1_11 F1 ho (fun _ => loop q 0 h1 0 (by omega) (by omega) rfl F1 fr ⟨h3, fun a ha => B a (by omega)⟩) (fun a => by omega) (fun a => by omega) (fun a => by omega) (fun a => by omega) (fun a => by omega)
    | succ r ih =>
      intro l h1 x4 hr hl7 h4 F1 fr h3 B
      have e4 : x4.toNat = l := by omega
      have pat2 : l < 6 → zCk X 1001 l = zB (fun r => (r + 64).testBit l) := fun c => by
        rw [zB_pat c X]
        refine zB_ext fun r hr64 => ?_
        rw [Nat.add_comm]
        exact (Nat.testBit_two_pow_add_gt (i := 6) (j := l) c r).symm
      have st : ∀ c1 c2 : Int, c1 = zB (fun r => r.testBit l) → c2 = zB (fun r => (r + 64).testBit l) → zAt X 1 11 0 0 [some (zR o), some (zR w), some (zI y), some (zI z), some (zI (x4 + 1))] [] zSHc (zup (zup h1 (o + 1) x4.toNat c1) (o + 2) x4.toNat c2) (fun v sh' h' => sh' = zSHc ∧ K v h') := fun c1 c2 hc1 hc2 => by
        rw [e4]
        have n1 : ¬ o + 1 = o + 2 := by omega
        have n2 : ¬ o + 2 = o + 1 := by omega
        have n3 : ¬ o = o + 2 := by omega
        have n4 : ¬ o = o + 1 := by omega
        refine ih (l + 1) _ _ (by omega) (by omega) (by omega) ((F1.upV ho.a1).upV ho.a2) ((fr.up (by simp)).up (by simp)) (by rw [zup_c n3, zup_c n4]; exact h3) fun a ha => ?_
        by_cases c : a = l
        · rw [c, zup_c n1, zup_eq, zup_eq]
          exact ⟨hc1, hc2⟩
        · rw [zup_c n1, zup_k c, zup_k c, zup_c n2]
          exact B a (by omega)
      by_cases c6 : l = 6
      · have nx := st (zCk X 1001 x4.toNat) (-1) (by
          rw [e4, c6]
          show (0 : Int) = _
          rw [zB_nil]
          exact zB_ext fun r hr64 => (Nat.testBit_lt_two_pow (i := 6) hr64).symm) (by
          rw [zB_one, c6]
          refine zB_ext fun r hr64 => ?_
          rw [Nat.add_comm, show (64 : Nat) = 2 ^ 6 from rfl, Nat.testBit_two_pow_add_eq, Nat.testBit_lt_two_pow (i := 6) hr64]
          rfl)
        exact sg_1_11 F1 ho (fun a => by omega) (fun _ => by omega) (fun _ a => by omega) (fun _ a => by omega) (fun _ _ => by omega) (fun _ _ => nx)
      · have nx := st (zCk X 1001 x4.toNat) (zCk X 1001 x4.toNat) (by rw [e4]; exact zB_pat (by omega) X) (by rw [e4]; exact pat2 (by omega))
        exact sg_1_11 F1 ho (fun a => by omega) (fun _ => by omega) (fun _ _ => by omega) (fun _ _ => nx) (fun _ a => by omega) (fun _ a => by omega)
  refine sg_1_0 ho hw ?_
  rw [L.1]
  exact ini 7 0 _ 0 rfl (by omega) rfl (ho.up F rfl) ((zfr.rfl).up (by simp)) zup_eq fun a ha => by omega
/-- markSorted -/
theorem cx_6 {o n : Nat} {p : Nat → Nat → Bool} (F : zFin h) (ho : zBit o) (hn : 2 ≤ n ∧ n ≤ 7) (B : zBR h o n p) (k : ∀ h', zFin h' → zfr [o] h h' → (∀ j, j ≠ 4 → j ≠ 5 → h' o j = h o j) → zMK h' o (fun r => decide (r < 2 ^ n) && zsdb (p r) (n - 1)) → K none h') : zC X 6 [zR o] h K := by
  have n1 : ¬ o + 1 = o := by omega
  have n2 : ¬ o + 2 = o := by omega
  have loop : ∀ (r i : Nat) (h1 : zHP) (x1 : Int), n - 1 - i = r → i ≤ n - 1 → x1 = (i : Int) → zFin h1 → zfr [o] h h1 → (∀ j, j ≠ 4 → j ≠ 5 → h1 o j = h o j) → zMK h1 o (fun r => decide (r < 2 ^ n) && zsdb (p r) i) → zAt X 6 18 0 0 [some (zR o), some (zI x1)] [] zSHc h1 (fun v sh' h' => sh' = zSHc ∧ K v h') := by
    intro r
    induction r with
    | zero =>
      intro i h1 x1 hr hi h4 F1 fr e45 M
      have ei : i = n - 1 := by omega
      rw [ei] at M
      have e3 : h1 o 3 = (n : Int) := by rw [e45 3 (by decide) (by decide)]; exact B.1
      exact sg_6_18 F1 ho (by omega) (fun _ => ⟨rfl, k h1 F1 fr e45 M⟩) (fun a => by omega) (fun a => by omega) (fun a => by omega) (fun a => by omega)
    | succ r ih =>
      intro i h1 x1 hr hi h4 F1 fr e45 M
      have e3 : h1 o 3 = (n : Int) := by rw [e45 3 (by decide) (by decide)]; exact B.1
      have e0 : x1.toNat = i := by omega
      have e1 : (x1 + 1).toNat = i + 1 := by omega
      have l0 := B.2 i (by omega)
      have l1 := B.2 (i + 1) (by omega)
      refine sg_6_18 F1 ho (by omega) (fun a => by omega) (fun _ a => by omega) (fun _ _ => by omega) (fun _ _ => by omega) (fun _ _ => ?_)
      rw [e0, e1, zup_k (by decide), zup_c n2, zup_c n2, fr (o + 1) (by simp), fr (o + 2) (by simp), M.1, M.2, l0.1, l0.2, l1.1, l1.2, zB_not, zB_not, zB_or, zB_or, zB_and, zB_and]
      refine ih (i + 1) _ _ (by omega) (by omega) (by omega) (ho.up (ho.up F1 rfl) rfl) ((fr.up (by simp)).up (by simp)) (fun j a b => by rw [zup_k b, zup_k a]; exact e45 j a b) ⟨?_, ?_⟩
      · rw [zup_k (by decide), zup_eq]
        exact zB_ext fun r _ => by
          show _ = (decide (r < 2 ^ n) && (zsdb (p r) i && (!p r i || p r (i + 1))))
          rw [Bool.and_assoc]
      · rw [zup_eq]
        exact zB_ext fun r _ => by
          show _ = (decide (r + 64 < 2 ^ n) && (zsdb (p (r + 64)) i && (!p (r + 64) i || p (r + 64) (i + 1))))
          rw [Bool.and_assoc]
  refine sg_6_0 ho (cx_4 ho hn B.1 (sg_6_5c ho ?_))
  rw [zup_k (by decide), B.1, zHiM_B hn]
  refine loop (n - 1) 0 _ 0 (by omega) (by omega) rfl (ho.up (ho.up F rfl) rfl) (((zfr.rfl).up (by simp)).up (by simp)) (fun j a b => by rw [zup_k b, zup_k a]) ⟨?_, ?_⟩
  · rw [zup_k (by decide), zup_eq]
    exact zB_ext fun r _ => (Bool.and_true _).symm
  · rw [zup_eq]
    exact zB_ext fun r _ => (Bool.and_true _).symm
end
