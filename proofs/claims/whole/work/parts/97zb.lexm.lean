/-! TEXTS, THE REFERENCE: TOKENS; WORDS IN BOTH COUNTS -/
theorem zwd32 {f g : Nat → Nat} : ∀ (m l : Nat), (∀ i, i < m → 1 ≤ f i ∧ f i ≤ 26) → (∀ i, i < l → 1 ≤ g i ∧ g i ≤ 26) → (zwdN 32 f m = zwdN 32 g l ↔ m = l ∧ ∀ i, i < m → f i = g i)
  | 0, 0, _, _ => ⟨fun _ => ⟨rfl, fun i hi => absurd hi (Nat.not_lt_zero _)⟩, fun _ => rfl⟩
  | 0, l + 1, _, hg => by
    have b := hg l (by omega)
    have e : zwdN 32 g (l + 1) = zwdN 32 g l * 32 + g l := rfl
    have e0 : zwdN 32 f 0 = 0 := rfl
    rw [e, e0]
    constructor
    · intro z; omega
    · intro z; omega
  | m + 1, 0, hf, _ => by
    have b := hf m (by omega)
    have e : zwdN 32 f (m + 1) = zwdN 32 f m * 32 + f m := rfl
    have e0 : zwdN 32 g 0 = 0 := rfl
    rw [e, e0]
    constructor
    · intro z; omega
    · intro z; omega
  | m + 1, l + 1, hf, hg => by
    have a := hf m (by omega)
    have b := hg l (by omega)
    have ih := zwd32 m l (fun i hi => hf i (by omega)) (fun i hi => hg i (by omega))
    have e : zwdN 32 f (m + 1) = zwdN 32 f m * 32 + f m := rfl
    have e2 : zwdN 32 g (l + 1) = zwdN 32 g l * 32 + g l := rfl
    rw [e, e2]
    constructor
    · intro z
      obtain ⟨i1, i2⟩ := ih.mp (by omega)
      refine ⟨by omega, fun i hi => ?_⟩
      by_cases c : i = m
      · rw [c]
        have : f m = g l := by omega
        rw [this, i1]
      · exact i2 i (by omega)
    · rintro ⟨z1, z2⟩
      have el : m = l := by omega
      have y := ih.mpr ⟨el, fun i hi => z2 i (by omega)⟩
      have y2 := z2 m (by omega)
      rw [y, y2, el]
theorem zwd27 {f g : Nat → Nat} : ∀ (m l : Nat), (∀ i, i < m → 1 ≤ f i ∧ f i ≤ 26) → (∀ i, i < l → 1 ≤ g i ∧ g i ≤ 26) → (zwdN 27 f m = zwdN 27 g l ↔ m = l ∧ ∀ i, i < m → f i = g i)
  | 0, 0, _, _ => ⟨fun _ => ⟨rfl, fun i hi => absurd hi (Nat.not_lt_zero _)⟩, fun _ => rfl⟩
  | 0, l + 1, _, hg => by
    have b := hg l (by omega)
    have e : zwdN 27 g (l + 1) = zwdN 27 g l * 27 + g l := rfl
    have e0 : zwdN 27 f 0 = 0 := rfl
    rw [e, e0]
    constructor
    · intro z; omega
    · intro z; omega
  | m + 1, 0, hf, _ => by
    have b := hf m (by omega)
    have e : zwdN 27 f (m + 1) = zwdN 27 f m * 27 + f m := rfl
    have e0 : zwdN 27 g 0 = 0 := rfl
    rw [e, e0]
    constructor
    · intro z; omega
    · intro z; omega
  | m + 1, l + 1, hf, hg => by
    have a := hf m (by omega)
    have b := hg l (by omega)
    have ih := zwd27 m l (fun i hi => hf i (by omega)) (fun i hi => hg i (by omega))
    have e : zwdN 27 f (m + 1) = zwdN 27 f m * 27 + f m := rfl
    have e2 : zwdN 27 g (l + 1) = zwdN 27 g l * 27 + g l := rfl
    rw [e, e2]
    constructor
    · intro z
      obtain ⟨i1, i2⟩ := ih.mp (by omega)
      refine ⟨by omega, fun i hi => ?_⟩
      by_cases c : i = m
      · rw [c]
        have : f m = g l := by omega
        rw [this, i1]
      · exact i2 i (by omega)
    · rintro ⟨z1, z2⟩
      have el : m = l := by omega
      have y := ih.mpr ⟨el, fun i hi => z2 i (by omega)⟩
      have y2 := z2 m (by omega)
      rw [y, y2, el]
theorem zwd_both {f g : Nat → Nat} {m l : Nat} (hf : ∀ i, i < m → 1 ≤ f i ∧ f i ≤ 26) (hg : ∀ i, i < l → 1 ≤ g i ∧ g i ≤ 26) : zwdN 32 f m = zwdN 32 g l ↔ zwdN 27 f m = zwdN 27 g l := (zwd32 m l hf hg).trans (zwd27 m l hf hg).symm
/-- the reference's words -/
def zmwN (c : Nat) : Int := if c = 240049 then 0 else if c = 316163 then 1 else if c = 369988 then 2 else if c = 139055 then 3 else if c = 40187 then 4 else if c = 6946700 then 5 else if c = 15827 then 6 else if c = 310210754 then 7 else if c = 298503040 then 8 else if c = 10815598 then 9 else -1
def zwxT (k : Int) : Int := if k = 76 then 0 else if k = 80 then 1 else if k = 82 then 2 else if k = 71 then 3 else if k = 66 then 4 else if k = 77 then 5 else if k = 85 then 6 else if k = 117 then 7 else if k = 116 then 8 else if k = 84 then 9 else -1
def zsoT (k : Int) : Int := if k = 105 then 1 else if k = 110 then 0 else if k = 59 ∨ k = 123 ∨ k = 125 then 2 else if k = 69 then 4 else if k = 63 then 5 else 3
theorem zwcode {f : Nat → Nat} {m : Nat} (hf : ∀ i, i < m → 1 ≤ f i ∧ f i ≤ 26) (w : List Nat) (hw : ∀ i, i < w.length → 1 ≤ w.getD i 0 ∧ w.getD i 0 ≤ 26) {c d : Nat} (h1 : zwdN 32 (fun i => w.getD i 0) w.length = c) (h2 : zwdN 27 (fun i => w.getD i 0) w.length = d) : zwdN 32 f m = c ↔ zwdN 27 f m = d := by
  rw [← h1, ← h2]
  exact zwd_both hf hw
theorem zmw {f : Nat → Nat} {m : Nat} (hf : ∀ i, i < m → 1 ≤ f i ∧ f i ≤ 26) : zmwN (zwdN 27 f m) = zwxT (zkwN (zwdN 32 f m)) ∧ zsoT (zkwN (zwdN 32 f m)) = (if zmwN (zwdN 27 f m) < 0 then 0 else 3) ∧ (zkwN (zwdN 32 f m) = 110 ↔ zmwN (zwdN 27 f m) < 0) ∧ (zkwN (zwdN 32 f m) = 110 ∨ zsoT (zkwN (zwdN 32 f m)) = 3) := by
  have e0 := zwcode hf [12, 5, 7, 19] (by decide) (show _ = 398579 by decide) (show _ = 240049 by decide)
  have e1 := zwcode hf [18, 21, 14, 7] (by decide) (show _ = 611783 by decide) (show _ = 369988 by decide)
  have e2 := zwcode hf [7, 1, 20, 5] (by decide) (show _ = 231045 by decide) (show _ = 139055 by decide)
  have e3 := zwcode hf [2, 1, 3, 11] (by decide) (show _ = 66667 by decide) (show _ = 40187 by decide)
  have e4 := zwcode hf [13, 1, 25, 2, 5] (by decide) (show _ = 13689925 by decide) (show _ = 6946700 by decide)
  have e5 := zwcode hf [21, 19, 5] (by decide) (show _ = 22117 by decide) (show _ = 15827 by decide)
  have e6 := zwcode hf [21, 16, 19, 9, 4, 5] (by decide) (show _ = 722052229 by decide) (show _ = 310210754 by decide)
  have e7 := zwcode hf [20, 21, 18, 14, 5, 4] (by decide) (show _ = 693713060 by decide) (show _ = 298503040 by decide)
  have e8 := zwcode hf [20, 9, 13, 5, 19] (by decide) (show _ = 21279923 by decide) (show _ = 10815598 by decide)
  have e9 := zwcode hf [16, 1, 18, 20] (by decide) (show _ = 525908 by decide) (show _ = 316163 by decide)
  generalize zwdN 32 f m = a at *
  generalize zwdN 27 f m = b at *
  by_cases c0 : a = 398579
  · rw [c0, e0.mp c0]; decide
  by_cases c1 : a = 611783
  · rw [c1, e1.mp c1]; decide
  by_cases c2 : a = 231045
  · rw [c2, e2.mp c2]; decide
  by_cases c3 : a = 66667
  · rw [c3, e3.mp c3]; decide
  by_cases c4 : a = 13689925
  · rw [c4, e4.mp c4]; decide
  by_cases c5 : a = 22117
  · rw [c5, e5.mp c5]; decide
  by_cases c6 : a = 722052229
  · rw [c6, e6.mp c6]; decide
  by_cases c7 : a = 693713060
  · rw [c7, e7.mp c7]; decide
  by_cases c8 : a = 21279923
  · rw [c8, e8.mp c8]; decide
  by_cases c9 : a = 525908
  · rw [c9, e9.mp c9]; decide
  have k1 : zkwN a = 110 := by
    show (if 398579 = a then (76 : Int) else if 611783 = a then 82 else if 231045 = a then 71 else if 66667 = a then 66 else if 13689925 = a then 77 else if 22117 = a then 85 else if 722052229 = a then 117 else if 693713060 = a then 116 else if 21279923 = a then 84 else if 525908 = a then 80 else 110) = 110
    rw [if_neg (fun z => c0 z.symm), if_neg (fun z => c1 z.symm), if_neg (fun z => c2 z.symm), if_neg (fun z => c3 z.symm), if_neg (fun z => c4 z.symm), if_neg (fun z => c5 z.symm), if_neg (fun z => c6 z.symm), if_neg (fun z => c7 z.symm), if_neg (fun z => c8 z.symm), if_neg (fun z => c9 z.symm)]
  have k2 : zmwN b = -1 := by
    unfold zmwN
    rw [if_neg (fun z => c0 (e0.mpr z)), if_neg (fun z => c9 (e9.mpr z)), if_neg (fun z => c1 (e1.mpr z)), if_neg (fun z => c2 (e2.mpr z)), if_neg (fun z => c3 (e3.mpr z)), if_neg (fun z => c4 (e4.mpr z)), if_neg (fun z => c5 (e5.mpr z)), if_neg (fun z => c6 (e6.mpr z)), if_neg (fun z => c7 (e7.mpr z)), if_neg (fun z => c8 (e8.mpr z))]
  rw [k1, k2]
  decide
theorem zkw_in (c : Nat) : zkwN c = 110 ∨ zkwN c ∈ zwkL := by
  show (if 398579 = c then (76 : Int) else if 611783 = c then 82 else if 231045 = c then 71 else if 66667 = c then 66 else if 13689925 = c then 77 else if 22117 = c then 85 else if 722052229 = c then 117 else if 693713060 = c then 116 else if 21279923 = c then 84 else if 525908 = c then 80 else 110) = 110 ∨ (if 398579 = c then (76 : Int) else if 611783 = c then 82 else if 231045 = c then 71 else if 66667 = c then 66 else if 13689925 = c then 77 else if 22117 = c then 85 else if 722052229 = c then 117 else if 693713060 = c then 116 else if 21279923 = c then 84 else if 525908 = c then 80 else 110) ∈ zwkL
  unfold zwkL
  repeat' split
  all_goals decide
section
variable {h : zHP} {T : Nat} {tb : Nat → Nat}
theorem zTM.by (t : zTM h T tb) {j : Nat} {x : Int} (hj : j < T) (hx : x = (j : Int)) : zByM h x = (tb j : Int) ∧ tb j < 256 := by
  obtain ⟨t1, t2, t3⟩ := t
  have e := t3 j hj
  unfold zByM
  rw [if_pos (by omega), show x.toNat = j by omega, e.1]
  exact ⟨rfl, e.2⟩
theorem zTM.ltr (t : zTM h T tb) {j : Nat} {x : Int} (hj : j ≤ T) (hx : x = (j : Int)) : (97 ≤ zByM h x ∧ zByM h x ≤ 122) ↔ (j < T ∧ zltB tb j = true) := by
  by_cases c : j < T
  · obtain ⟨a, b⟩ := t.by c hx
    unfold zltB
    rw [decide_eq_true_iff, a]
    omega
  · have e : zByM h x = 0 := if_neg (by have := t.1; omega)
    rw [e]
    omega
theorem zTM.dig (t : zTM h T tb) {j : Nat} {x : Int} (hj : j ≤ T) (hx : x = (j : Int)) : (48 ≤ zByM h x ∧ zByM h x ≤ 57) ↔ (j < T ∧ zdgB tb j = true) := by
  by_cases c : j < T
  · obtain ⟨a, b⟩ := t.by c hx
    unfold zdgB
    rw [decide_eq_true_iff, a]
    omega
  · have e : zByM h x = 0 := if_neg (by have := t.1; omega)
    rw [e]
    omega
theorem zTM.k {h' : zHP} (t : zTM h T tb) (f : h' 108 12 = h 108 12) (g : h' 119 = h 119) : zTM h' T tb := by
  obtain ⟨t1, t2, t3⟩ := t
  exact ⟨by rw [f]; exact t1, t2, by rw [g]; exact t3⟩
/-- a token as the reference keeps it -/
def zMtk (h : zHP) (i : Nat) (tb : Nat → Nat) (T p : Nat) : Prop := h 120 i = zsoT (zknT tb T p) ∧ h 121 i = (p : Int) ∧ (zknT tb T p = 105 → h 122 i = zvvT tb T p) ∧ (zsoT (zknT tb T p) = 2 → h 122 i = zknT tb T p) ∧ (zsoT (zknT tb T p) = 3 → h 122 i = zwxT (zknT tb T p)) ∧ (zknT tb T p = 110 → h 123 i = (zwdN 27 (zlfN tb p) (zlnE tb T p - p) : Int))
def zMx (h h' : zHP) (i : Nat) : Prop := zFin h' ∧ zfr [108, 120, 121, 122, 123] h h' ∧ (∀ c, c ≠ 14 → h' 108 c = h 108 c) ∧ h' 108 14 = ((i + 1 : Nat) : Int) ∧ ∀ c j, c = 120 ∨ c = 121 ∨ c = 122 ∨ c = 123 → j ≠ i → h' c j = h c j
end
theorem zst27 {v b : Nat} (hv : v < 1000000000000) (hb : b < 256) : (-9223372036854775808 ≤ (v : Int) * 27 ∧ (v : Int) * 27 < 9223372036854775808) ∧ (-9223372036854775808 ≤ (v : Int) * 27 + (b : Int) ∧ (v : Int) * 27 + (b : Int) < 9223372036854775808) ∧ (-9223372036854775808 ≤ (v : Int) * 27 + (b : Int) - 96 ∧ (v : Int) * 27 + (b : Int) - 96 < 9223372036854775808) := by omega
section
variable {X : List Int} {h : zHP} {K : Option zAV → zHP → Prop}
/-- token -/
theorem cm_215 {i : Nat} {x y z : Int} (F : zFin h) (h14 : h 108 14 = (i : Int)) (hi : i < 2001) (k : ∀ h', zMx h h' i → (∀ j, h' 123 j = h 123 j) → h' 120 i = x → h' 121 i = y → h' 122 i = z → K none h') : zC X 215 [zR 108, zI x, zI y, zI z] h K := by
  refine sg_215_0 F (by omega) (by omega) ⟨rfl, ?_⟩
  rw [h14, Int.toNat_natCast]
  refine k _ ⟨((((F.upA zfa_120).upA zfa_121).upA zfa_122).up (by decide)), ((((zfr.rfl.up (by simp)).up (by simp)).up (by simp)).up (by simp)), fun c hc => ?_, ?_, fun c j hc hj => ?_⟩ (fun j => ?_) ?_ ?_ ?_
  · rw [zup_k hc, zup_c (by decide), zup_c (by decide), zup_c (by decide)]
  · rw [zup_eq]; omega
  · rcases hc with e | e | e | e <;> subst e
    · rw [zup_c (by decide), zup_c (by decide), zup_c (by decide), zup_k hj]
    · rw [zup_c (by decide), zup_c (by decide), zup_k hj, zup_c (by decide)]
    · rw [zup_c (by decide), zup_k hj, zup_c (by decide), zup_c (by decide)]
    · rw [zup_c (by decide), zup_c (by decide), zup_c (by decide), zup_c (by decide)]
  · rw [zup_c (by decide), zup_c (by decide), zup_c (by decide), zup_c (by decide)]
  · rw [zup_c (by decide), zup_c (by decide), zup_c (by decide), zup_eq]
  · rw [zup_c (by decide), zup_c (by decide), zup_eq]
  · rw [zup_c (by decide), zup_eq]
/-- wordOf -/
theorem cm_216 {c : Nat} {x : Int} (hx : x = (c : Int)) (k : K (some (zI (zmwN c))) h) : zC X 216 [zL x] h K := by
  unfold zmwN at k
  apply sg_216_0 <;> intros <;> refine ⟨rfl, ?_⟩
  all_goals repeat (first | rw [if_pos (by omega)] at k | rw [if_neg (by omega)] at k)
  all_goals exact k
theorem zMx.pre {h' : zHP} {i : Nat} {x : Int} (y : zMx (zup h 123 i x) h' i) : zMx h h' i := by
  obtain ⟨a, b, c, d, e⟩ := y
  refine ⟨a, (zfr.rfl.up (by simp)).trans b, fun q hq => (c q hq).trans (zup_c (by decide)), d, fun q j hq hj => (e q j hq hj).trans ?_⟩
  by_cases z : q = 123
  · rw [z, zup_k hj]
  · rw [zup_c z]
theorem zkn_69 {tb : Nat → Nat} {T p : Nat} (hp : p < T) : zknT tb T p ≠ 69 := by
  unfold zknT
  rw [if_neg (by omega)]
  have w : ∀ k ∈ zwkL, k ≠ 69 := by decide
  split
  · split
    · decide
    · rcases zkw_in (zwdN 32 (zlfN tb p) (zlnE tb T p - p)) with z | z
      · rw [z]; decide
      · exact w _ z
  · split
    · split <;> decide
    · split
      · omega
      · decide
theorem zbh_gt {tb : Nat → Nat} {T p : Nat} (hp : p < T) : p < zbhT tb T p ∧ zbhT tb T p ≤ T := by
  unfold zbhT
  rw [if_neg (by omega)]
  split
  · rename_i c
    have a := zeE_ok (p := zltB tb) (T := T) (T - (p + 1)) (p + 1) rfl
    have b := zeE_go hp c
    unfold zlnE
    omega
  · split
    · rename_i c
      have a := zeE_ok (p := zdgB tb) (T := T) (T - (p + 1)) (p + 1) rfl
      have b := zeE_go hp c
      unfold zdnE
      omega
    · omega
/-- scan: one token -/
theorem cm_217 {T p i : Nat} {tb : Nat → Nat} {x : Int} (F : zFin h) (t : zTM h T tb) (hp : p < T) (h14 : h 108 14 = (i : Int)) (hi : i < 2001) (hx : x = (p : Int)) (k : ∀ h', zMx h h' i → zMtk h' i tb T p → K (some (zI (zbhT tb T p : Int))) h') : zC X 217 [zR 108, zI x] h K := by
  have hT := t.2.1
  have e12 := t.1
  have lt := t.ltr (by omega) hx
  have dg := t.dig (by omega) hx
  obtain ⟨b1, b2⟩ := t.by hp hx
  have e14 : (h 108 14).toNat = i := by omega
  by_cases cl : zltB tb p = true
  · obtain ⟨n1, n2, n3, n4⟩ := zeE_ok (p := zltB tb) (T := T) (T - p) p rfl
    have n2 := n2 (by omega)
    have n1 : p ≤ zlnE tb T p := n1
    have n2 : zlnE tb T p ≤ T := n2
    have lets : ∀ i, p + i < zlnE tb T p → 97 ≤ tb (p + i) ∧ tb (p + i) ≤ 122 := fun i hi => by
      have := n3 (p + i) (by omega) hi
      unfold zltB at this
      rw [decide_eq_true_iff] at this
      exact this
    have hf : ∀ i, i < zlnE tb T p - p → 1 ≤ zlfN tb p i ∧ zlfN tb p i ≤ 26 := fun i hi => by
      have := lets i (by omega)
      unfold zlfN
      omega
    have eb : zbhT tb T p = zlnE tb T p := by unfold zbhT; rw [if_neg (by omega), if_pos cl]
    have ek : zknT tb T p = if 8 < zlnE tb T p - p then 63 else zkwN (zwdN 32 (zlfN tb p) (zlnE tb T p - p)) := by unfold zknT; rw [if_neg (by omega), if_pos cl]
    obtain ⟨w1, w2, w3, w4⟩ := zmw hf
    have fin : ∀ x2 : Int, x2 = (zlnE tb T p : Int) → ∀ h', zMx (zup h 123 i (zwdN 27 (zlfN tb p) (min (zlnE tb T p - p) 8) : Int)) h' i → (∀ j, h' 123 j = zup h 123 i (zwdN 27 (zlfN tb p) (min (zlnE tb T p - p) 8) : Int) 123 j) → h' 120 i = zsoT (zknT tb T p) → h' 121 i = x → (zsoT (zknT tb T p) = 3 → h' 122 i = zwxT (zknT tb T p)) → K (some (zI x2)) h' := fun x2 e2 h' y y3 y0 y1 y2 => by
      rw [e2, ← eb]
      refine k h' y.pre ⟨y0, by rw [y1, hx], fun z => ?_, fun z => ?_, y2, fun z => ?_⟩
      · rw [ek] at z
        by_cases c : 8 < zlnE tb T p - p
        · rw [if_pos c] at z; exact absurd z (by decide)
        · rw [if_neg c] at z
          rcases w4 with u | u
          · rw [u] at z; exact absurd z (by decide)
          · rw [z] at u; exact absurd u (by decide)
      · rw [ek] at z
        by_cases c : 8 < zlnE tb T p - p
        · rw [if_pos c] at z; exact absurd z (by decide)
        · rw [if_neg c] at z
          rcases w4 with u | u
          · rw [u] at z; exact absurd z (by decide)
          · rw [u] at z; exact absurd z (by decide)
      · rw [y3, zup_eq]
        rw [ek] at z
        by_cases c : 8 < zlnE tb T p - p
        · rw [if_pos c] at z; exact absurd z (by decide)
        · rw [Nat.min_eq_left (by omega)]
    have loop : ∀ (q j : Nat) (x2 x3 : Int), T - j = q → p ≤ j → j ≤ T → zeE (zltB tb) T j = zlnE tb T p → x2 = (j : Int) → x3 = (zwdN 27 (zlfN tb p) (min (j - p) 8) : Int) → zAt X 217 12 0 0 [some (zR 108), some (zI x), some (zI x2), some (zL x3), none, none] [] zSHc h (fun v sh' h' => sh' = zSHc ∧ K v h') := by
      intro q
      induction q with
      | zero =>
        intro j x2 x3 hq hpj hjT he e2 e3
        have ej : zlnE tb T p = j := he.symm.trans (zeE_st (by omega))
        have nl : ¬ (97 ≤ zByM h x2 ∧ zByM h x2 ≤ 122) := fun z => by
          have := (t.ltr hjT e2).mp z
          omega
        rw [← ej] at e2 e3
        by_cases c : 8 < zlnE tb T p - p
        · refine sg_217_12 F (by omega) (fun _ => by omega) (fun _ z => by omega) (fun _ _ => by omega) (fun _ _ => ?_) (fun z => absurd z nl) (fun z => absurd z nl) (fun z => absurd z nl) (fun z => absurd z nl) (fun z => absurd z nl) (fun z => absurd z nl) (fun z => absurd z nl) (fun z => absurd z nl)
          rw [e14, e3]
          refine cm_215 (F.upA zfa_123) (by rw [zup_c (by decide)]; exact h14) hi fun h' y y3 y0 y1 y2 => sg_217_108c ⟨rfl, fin x2 e2 h' y y3 ?_ y1 fun z => ?_⟩
          · rw [y0, ek, if_pos c]; decide
          · rw [ek, if_pos c] at z; exact absurd z (by decide)
        · refine sg_217_12 F (by omega) (fun _ => by omega) (fun _ _ => ?_) (fun _ z => by omega) (fun _ z => by omega) (fun z => absurd z nl) (fun z => absurd z nl) (fun z => absurd z nl) (fun z => absurd z nl) (fun z => absurd z nl) (fun z => absurd z nl) (fun z => absurd z nl) (fun z => absurd z nl)
          refine cm_216 (c := zwdN 27 (zlfN tb p) (zlnE tb T p - p)) (by rw [e3, Nat.min_eq_left (by omega)]) ?_
          refine sg_217_67c F (by omega) (by omega) (fun _ wn => ?_) (fun _ wp => ?_) (fun z => by omega)
          · rw [e14, e3]
            refine cm_215 (F.upA zfa_123) (by rw [zup_c (by decide)]; exact h14) hi fun h' y y3 y0 y1 y2 => sg_217_108c ⟨rfl, fin x2 e2 h' y y3 ?_ y1 fun z => ?_⟩
            · rw [y0, ek, if_neg c, w2, if_pos wn]
            · rw [ek, if_neg c, w2, if_pos wn] at z; exact absurd z (by decide)
          · rw [e14, e3]
            refine cm_215 (F.upA zfa_123) (by rw [zup_c (by decide)]; exact h14) hi fun h' y y3 y0 y1 y2 => sg_217_108c ⟨rfl, fin x2 e2 h' y y3 ?_ y1 fun z => ?_⟩
            · rw [y0, ek, if_neg c, w2, if_neg (by omega)]
            · rw [y2, ek, if_neg c, w1]
      | succ q ih =>
        intro j x2 x3 hq hpj hjT he e2 e3
        by_cases c2 : zltB tb j = true
        · have yl := (t.ltr hjT e2).mpr ⟨by omega, c2⟩
          obtain ⟨d1, d2⟩ := t.by (show j < T by omega) e2
          have he2 := (zeE_go (show j < T by omega) c2).symm.trans he
          by_cases c : j - p < 8
          · have w := zwdN_lt (β := 27) (f := zlfN tb p) (j - p) fun i hi => by
              have := lets i (by
                have := (zeE_ok (p := zltB tb) (T := T) (T - j) j rfl).1
                omega)
              unfold zlfN
              omega
            have v2 : (27 : Nat) ^ (j - p) ≤ 27 ^ 8 := Nat.pow_le_pow_right (by decide) (by omega)
            have v3 : (27 : Nat) ^ 8 = 282429536481 := by decide
            rw [Nat.min_eq_left (by omega)] at e3
            obtain ⟨o1, o2, o3⟩ := zst27 (show zwdN 27 (zlfN tb p) (j - p) < 1000000000000 by omega) d2
            refine sg_217_12 F (by omega) (fun z => absurd yl z) (fun z => absurd yl z) (fun z => absurd yl z) (fun z => absurd yl z) (fun _ => by omega) (fun _ z => by omega) (fun _ z => by omega) (fun _ _ => by rw [e3]; exact o1) (fun _ _ => by rw [e3, d1]; exact o2) (fun _ _ => by rw [e3, d1]; exact o3) (fun _ _ => by omega) (fun _ _ => ?_)
            refine ih (j + 1) _ _ (by omega) (by omega) (by omega) he2 (by omega) ?_
            rw [Nat.min_eq_left (by omega), show j + 1 - p = (j - p) + 1 by omega]
            show _ = ((zwdN 27 (zlfN tb p) (j - p) * 27 + (tb (p + (j - p)) - 96) : Nat) : Int)
            rw [show p + (j - p) = j by omega]
            omega
          · refine sg_217_12 F (by omega) (fun z => absurd yl z) (fun z => absurd yl z) (fun z => absurd yl z) (fun z => absurd yl z) (fun _ => by omega) (fun _ _ => by omega) (fun _ _ => ?_) (fun _ z => by omega) (fun _ z => by omega) (fun _ z => by omega) (fun _ z => by omega) (fun _ z => by omega)
            refine ih (j + 1) _ _ (by omega) (by omega) (by omega) he2 (by omega) ?_
            rw [Nat.min_eq_right (by omega)] at e3 ⊢
            exact e3
        · have ej : zlnE tb T p = j := he.symm.trans (zeE_st fun z => c2 z.2)
          have nl : ¬ (97 ≤ zByM h x2 ∧ zByM h x2 ≤ 122) := fun z => c2 ((t.ltr hjT e2).mp z).2
          rw [← ej] at e2 e3
          by_cases c : 8 < zlnE tb T p - p
          · refine sg_217_12 F (by omega) (fun _ => by omega) (fun _ z => by omega) (fun _ _ => by omega) (fun _ _ => ?_) (fun z => absurd z nl) (fun z => absurd z nl) (fun z => absurd z nl) (fun z => absurd z nl) (fun z => absurd z nl) (fun z => absurd z nl) (fun z => absurd z nl) (fun z => absurd z nl)
            rw [e14, e3]
            refine cm_215 (F.upA zfa_123) (by rw [zup_c (by decide)]; exact h14) hi fun h' y y3 y0 y1 y2 => sg_217_108c ⟨rfl, fin x2 e2 h' y y3 ?_ y1 fun z => ?_⟩
            · rw [y0, ek, if_pos c]; decide
            · rw [ek, if_pos c] at z; exact absurd z (by decide)
          · refine sg_217_12 F (by omega) (fun _ => by omega) (fun _ _ => ?_) (fun _ z => by omega) (fun _ z => by omega) (fun z => absurd z nl) (fun z => absurd z nl) (fun z => absurd z nl) (fun z => absurd z nl) (fun z => absurd z nl) (fun z => absurd z nl) (fun z => absurd z nl) (fun z => absurd z nl)
            refine cm_216 (c := zwdN 27 (zlfN tb p) (zlnE tb T p - p)) (by rw [e3, Nat.min_eq_left (by omega)]) ?_
            refine sg_217_67c F (by omega) (by omega) (fun _ wn => ?_) (fun _ wp => ?_) (fun z => by omega)
            · rw [e14, e3]
              refine cm_215 (F.upA zfa_123) (by rw [zup_c (by decide)]; exact h14) hi fun h' y y3 y0 y1 y2 => sg_217_108c ⟨rfl, fin x2 e2 h' y y3 ?_ y1 fun z => ?_⟩
              · rw [y0, ek, if_neg c, w2, if_pos wn]
              · rw [ek, if_neg c, w2, if_pos wn] at z; exact absurd z (by decide)
            · rw [e14, e3]
              refine cm_215 (F.upA zfa_123) (by rw [zup_c (by decide)]; exact h14) hi fun h' y y3 y0 y1 y2 => sg_217_108c ⟨rfl, fin x2 e2 h' y y3 ?_ y1 fun z => ?_⟩
              · rw [y0, ek, if_neg c, w2, if_neg (by omega)]
              · rw [y2, ek, if_neg c, w1]
    have yl := lt.mpr ⟨hp, cl⟩
    exact sg_217_0 F (by omega) (fun z => absurd yl z) (fun z => absurd yl z) (fun z => absurd yl z) (fun z => absurd yl z) (fun z => absurd yl z) (fun _ => loop _ p x 0 rfl (Nat.le_refl _) (by omega) rfl hx (by rw [Nat.sub_self]; rfl))
  · have nl : ¬ (97 ≤ zByM h x ∧ zByM h x ≤ 122) := fun z => cl (lt.mp z).2
    by_cases cd : zdgB tb p = true
    · obtain ⟨n1, n2, n3, n4⟩ := zeE_ok (p := zdgB tb) (T := T) (T - p) p rfl
      have n2 := n2 (by omega)
      have n1 : p ≤ zdnE tb T p := n1
      have n2 : zdnE tb T p ≤ T := n2
      have eb : zbhT tb T p = zdnE tb T p := by unfold zbhT; rw [if_neg (by omega), if_neg cl, if_pos cd]
      have ek : zknT tb T p = if 4 < zdnE tb T p - p then 63 else 105 := by unfold zknT; rw [if_neg (by omega), if_neg cl, if_pos cd]
      have ev : zvvT tb T p = (zwdN 10 (zdfN tb p) (zdnE tb T p - p) : Int) := by unfold zvvT; rw [if_neg (by omega), if_neg cl, if_pos cd]
      have fin : ∀ (x2 x3 : Int), x2 = (zdnE tb T p : Int) → x3 = (zwdN 10 (zdfN tb p) (min (zdnE tb T p - p) 4) : Int) → (x2 - x ≤ 4 → zC X 215 [zR 108, zI 1, zI x, zI x3] h (fun v h9 => zAt X 217 173 0 0 [none, none, some (zI x2), none, none, none] (zpush v []) zSHc h9 (fun v sh' h' => sh' = zSHc ∧ K v h'))) ∧ (4 < x2 - x → zC X 215 [zR 108, zI 5, zI x, zI x3] h (fun v h9 => zAt X 217 173 0 0 [none, none, some (zI x2), none, none, none] (zpush v []) zSHc h9 (fun v sh' h' => sh' = zSHc ∧ K v h'))) := fun x2 x3 e2 e3 => by
        refine ⟨fun le => ?_, fun gt => ?_⟩
        · have e : zknT tb T p = 105 := by rw [ek, if_neg (by omega)]
          refine cm_215 F h14 hi fun h' y y3 y0 y1 y2 => sg_217_173c ⟨rfl, ?_⟩
          rw [e2, ← eb]
          refine k h' y ⟨by rw [y0, e]; decide, by rw [y1, hx], fun _ => ?_, fun z => ?_, fun z => ?_, fun z => ?_⟩
          · rw [y2, e3, ev, Nat.min_eq_left (by omega)]
          · rw [e] at z; exact absurd z (by decide)
          · rw [e] at z; exact absurd z (by decide)
          · rw [e] at z; exact absurd z (by decide)
        · have e : zknT tb T p = 63 := by rw [ek, if_pos (by omega)]
          refine cm_215 F h14 hi fun h' y y3 y0 y1 y2 => sg_217_173c ⟨rfl, ?_⟩
          rw [e2, ← eb]
          refine k h' y ⟨by rw [y0, e]; decide, by rw [y1, hx], fun z => ?_, fun z => ?_, fun z => ?_, fun z => ?_⟩
          all_goals rw [e] at z; exact absurd z (by decide)
      have loop : ∀ (q j : Nat) (x2 x3 : Int), T - j = q → p ≤ j → j ≤ T → zeE (zdgB tb) T j = zdnE tb T p → x2 = (j : Int) → x3 = (zwdN 10 (zdfN tb p) (min (j - p) 4) : Int) → zAt X 217 120 0 0 [some (zR 108), some (zI x), some (zI x2), some (zI x3), none, none] [] zSHc h (fun v sh' h' => sh' = zSHc ∧ K v h') := by
        intro q
        induction q with
        | zero =>
          intro j x2 x3 hq hpj hjT he e2 e3
          have ej : zdnE tb T p = j := he.symm.trans (zeE_st (by omega))
          have nd : ¬ (48 ≤ zByM h x2 ∧ zByM h x2 ≤ 57) := fun z => by
            have := (t.dig hjT e2).mp z
            omega
          rw [← ej] at e2 e3
          obtain ⟨g1, g2⟩ := fin x2 x3 e2 e3
          exact sg_217_120 F (by omega) (fun _ => by omega) (fun _ => g1) (fun _ => g2) (fun z => absurd z nd) (fun z => absurd z nd) (fun z => absurd z nd) (fun z => absurd z nd) (fun z => absurd z nd) (fun z => absurd z nd) (fun z => absurd z nd) (fun z => absurd z nd)
        | succ q ih =>
          intro j x2 x3 hq hpj hjT he e2 e3
          by_cases c2 : zdgB tb j = true
          · have yd := (t.dig hjT e2).mpr ⟨by omega, c2⟩
            obtain ⟨d1, d2⟩ := t.by (show j < T by omega) e2
            have he2 := (zeE_go (show j < T by omega) c2).symm.trans he
            by_cases c : j - p < 4
            · have w := zwdN_lt (β := 10) (f := zdfN tb p) (j - p) fun i hi => by
                have := n3 (p + i) (by omega) (by
                  have := (zeE_ok (p := zdgB tb) (T := T) (T - j) j rfl).1
                  show p + i < zdnE tb T p
                  omega)
                unfold zdgB at this
                rw [decide_eq_true_iff] at this
                unfold zdfN
                omega
              have v2 : (10 : Nat) ^ (j - p) ≤ 10 ^ 4 := Nat.pow_le_pow_right (by decide) (by omega)
              have v3 : (10 : Nat) ^ 4 = 10000 := by decide
              rw [Nat.min_eq_left (by omega)] at e3
              refine sg_217_120 F (by omega) (fun z => absurd yd z) (fun z => absurd yd z) (fun z => absurd yd z) (fun _ => by omega) (fun _ z => by omega) (fun _ z => by omega) (fun _ _ => by omega) (fun _ _ => by omega) (fun _ _ => by omega) (fun _ _ => by omega) (fun _ _ => ?_)
              refine ih (j + 1) _ _ (by omega) (by omega) (by omega) he2 (by omega) ?_
              rw [Nat.min_eq_left (by omega), show j + 1 - p = (j - p) + 1 by omega]
              show _ = ((zwdN 10 (zdfN tb p) (j - p) * 10 + (tb (p + (j - p)) - 48) : Nat) : Int)
              rw [show p + (j - p) = j by omega]
              omega
            · refine sg_217_120 F (by omega) (fun z => absurd yd z) (fun z => absurd yd z) (fun z => absurd yd z) (fun _ => by omega) (fun _ _ => by omega) (fun _ _ => ?_) (fun _ z => by omega) (fun _ z => by omega) (fun _ z => by omega) (fun _ z => by omega) (fun _ z => by omega)
              refine ih (j + 1) _ _ (by omega) (by omega) (by omega) he2 (by omega) ?_
              rw [Nat.min_eq_right (by omega)] at e3 ⊢
              exact e3
          · have ej : zdnE tb T p = j := he.symm.trans (zeE_st fun z => c2 z.2)
            have nd : ¬ (48 ≤ zByM h x2 ∧ zByM h x2 ≤ 57) := fun z => c2 ((t.dig hjT e2).mp z).2
            rw [← ej] at e2 e3
            obtain ⟨g1, g2⟩ := fin x2 x3 e2 e3
            exact sg_217_120 F (by omega) (fun _ => by omega) (fun _ => g1) (fun _ => g2) (fun z => absurd z nd) (fun z => absurd z nd) (fun z => absurd z nd) (fun z => absurd z nd) (fun z => absurd z nd) (fun z => absurd z nd) (fun z => absurd z nd) (fun z => absurd z nd)
      have yd := dg.mpr ⟨hp, cd⟩
      exact sg_217_0 F (by omega) (fun _ z => absurd yd z) (fun _ z => absurd yd z) (fun _ z => absurd yd z) (fun _ z => absurd yd z) (fun _ _ => loop _ p x 0 rfl (Nat.le_refl _) (by omega) rfl hx (by rw [Nat.sub_self]; rfl)) (fun z => absurd z nl)
    · have nd : ¬ (48 ≤ zByM h x ∧ zByM h x ≤ 57) := fun z => cd (dg.mp z).2
      have eb : zbhT tb T p = p + 1 := by unfold zbhT; rw [if_neg (by omega), if_neg cl, if_neg cd]
      have ek : zknT tb T p = if tb p = 59 ∨ tb p = 123 ∨ tb p = 125 then (tb p : Int) else 63 := by unfold zknT; rw [if_neg (by omega), if_neg cl, if_neg cd]
      have sgn : tb p = 59 ∨ tb p = 123 ∨ tb p = 125 → zC X 215 [zR 108, zI 2, zI x, zI (zByM h x)] h (fun v h9 => zAt X 217 210 0 0 [none, some (zI x), none, none, none, none] (zpush v []) zSHc h9 (fun v sh' h' => sh' = zSHc ∧ K v h')) := fun c => by
        have e : zknT tb T p = (tb p : Int) := by rw [ek, if_pos c]
        have so : zsoT (zknT tb T p) = 2 := by rw [e]; rcases c with c | c | c <;> rw [c] <;> decide
        refine cm_215 F h14 hi fun h' y y3 y0 y1 y2 => sg_217_210c (by omega) ⟨rfl, ?_⟩
        rw [show x + 1 = ((zbhT tb T p : Nat) : Int) by rw [eb]; omega]
        refine k h' y ⟨by rw [y0, so], by rw [y1, hx], fun z => ?_, fun _ => by rw [y2, b1, e], fun z => ?_, fun z => ?_⟩
        · rw [z] at so; exact absurd so (by decide)
        · rw [so] at z; exact absurd z (by decide)
        · rw [z] at so; exact absurd so (by decide)
      refine sg_217_0 F (by omega) (fun _ _ z => sgn (by omega)) (fun _ _ _ z => sgn (by omega)) (fun _ _ z1 z2 z3 => ?_) (fun _ _ _ _ z => sgn (by omega)) (fun _ z => absurd z nd) (fun z => absurd z nl)
      have e : zknT tb T p = 63 := by rw [ek, if_neg (by omega)]
      refine cm_215 F h14 hi fun h' y y3 y0 y1 y2 => sg_217_210c (by omega) ⟨rfl, ?_⟩
      rw [show x + 1 = ((zbhT tb T p : Nat) : Int) by rw [eb]; omega]
      refine k h' y ⟨by rw [y0, e]; decide, by rw [y1, hx], fun z => ?_, fun z => ?_, fun z => ?_, fun z => ?_⟩
      all_goals rw [e] at z; exact absurd z (by decide)
end
