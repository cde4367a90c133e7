/-! TEXTS: WHERE A TOKEN LIES, WHAT IT IS, WHERE IT ENDS -/
def zeR (p : Nat → Bool) (T : Nat) : Nat → Nat → Nat
  | 0, k => k
  | f + 1, k => if k < T ∧ p k = true then zeR p T f (k + 1) else k
def zeE (p : Nat → Bool) (T k : Nat) : Nat := zeR p T (T - k) k
theorem zeE_go {p : Nat → Bool} {T k : Nat} (h : k < T) (hp : p k = true) : zeE p T k = zeE p T (k + 1) := by
  unfold zeE
  rw [show T - k = (T - (k + 1)) + 1 by omega]
  show (if k < T ∧ p k = true then zeR p T (T - (k + 1)) (k + 1) else k) = _
  rw [if_pos ⟨h, hp⟩]
theorem zeE_st {p : Nat → Bool} {T k : Nat} (h : ¬ (k < T ∧ p k = true)) : zeE p T k = k := by
  unfold zeE
  cases T - k with
  | zero => rfl
  | succ f =>
    show (if k < T ∧ p k = true then zeR p T f (k + 1) else k) = _
    rw [if_neg h]
theorem zeE_ok {p : Nat → Bool} {T : Nat} : ∀ (d k : Nat), T - k = d → k ≤ zeE p T k ∧ (k ≤ T → zeE p T k ≤ T) ∧ (∀ j, k ≤ j → j < zeE p T k → p j = true) ∧ ¬ (zeE p T k < T ∧ p (zeE p T k) = true) := by
  intro d
  induction d with
  | zero =>
    intro k hk
    rw [zeE_st (by omega)]
    exact ⟨Nat.le_refl _, fun z => z, fun j a b => by omega, fun z => by omega⟩
  | succ d ih =>
    intro k hk
    by_cases c : p k = true
    · rw [zeE_go (by omega) c]
      obtain ⟨a1, a2, a3, a4⟩ := ih (k + 1) (by omega)
      refine ⟨by omega, fun _ => a2 (by omega), fun j x y => ?_, a4⟩
      by_cases e : j = k
      · rw [e]; exact c
      · exact a3 j (by omega) y
    · rw [zeE_st (fun z => c z.2)]
      exact ⟨Nat.le_refl _, fun z => z, fun j a b => by omega, fun z => c z.2⟩
def zltB (tb : Nat → Nat) (k : Nat) : Bool := decide (97 ≤ tb k ∧ tb k ≤ 122)
def zdgB (tb : Nat → Nat) (k : Nat) : Bool := decide (48 ≤ tb k ∧ tb k ≤ 57)
def zbkB (tb : Nat → Nat) (k : Nat) : Bool := decide (tb k = 9 ∨ tb k = 10 ∨ tb k = 13 ∨ tb k = 32)
def zplc (tb : Nat → Nat) (T k : Nat) : Nat := zeE (zbkB tb) T k
def zlnE (tb : Nat → Nat) (T p : Nat) : Nat := zeE (zltB tb) T p
def zdnE (tb : Nat → Nat) (T p : Nat) : Nat := zeE (zdgB tb) T p
/-- numbers from digits -/
def zwdN (β : Nat) (f : Nat → Nat) : Nat → Nat
  | 0 => 0
  | m + 1 => zwdN β f m * β + f m
theorem zwdN_lt {β : Nat} {f : Nat → Nat} : ∀ m, (∀ i, i < m → f i < β) → zwdN β f m < β ^ m
  | 0, _ => Nat.one_pos
  | m + 1, h => by
    have a := zwdN_lt m fun i hi => h i (by omega)
    have b := h m (by omega)
    show zwdN β f m * β + f m < β ^ (m + 1)
    rw [Nat.pow_succ]
    have c : (zwdN β f m + 1) * β ≤ β ^ m * β := Nat.mul_le_mul_right _ a
    rw [Nat.add_mul] at c
    omega
def zlfN (tb : Nat → Nat) (p i : Nat) : Nat := tb (p + i) - 96
def zdfN (tb : Nat → Nat) (p i : Nat) : Nat := tb (p + i) - 48
/-- the words -/
def zwcL : List Nat := [398579, 611783, 231045, 66667, 13689925, 22117, 722052229, 693713060, 21279923, 525908]
def zwkL : List Int := [76, 82, 71, 66, 77, 85, 117, 116, 84, 80]
def zwkR (c : Nat) : Nat → Nat → Int
  | 0, _ => 110
  | f + 1, j => if zwcL.getD j 0 = c then zwkL.getD j 0 else zwkR c f (j + 1)
def zkwN (c : Nat) : Int := zwkR c 10 0
/-- the kind of the token at a place, its value, where it ends -/
def zknT (tb : Nat → Nat) (T p : Nat) : Int := if T ≤ p then 69 else if zltB tb p = true then (if 8 < zlnE tb T p - p then 63 else zkwN (zwdN 32 (zlfN tb p) (zlnE tb T p - p))) else if zdgB tb p = true then (if 4 < zdnE tb T p - p then 63 else 105) else if tb p = 59 ∨ tb p = 123 ∨ tb p = 125 then (tb p : Int) else 63
def zvvT (tb : Nat → Nat) (T p : Nat) : Int := if T ≤ p then 0 else if zltB tb p = true then (zwdN 32 (zlfN tb p) (zlnE tb T p - p) : Int) else if zdgB tb p = true then (zwdN 10 (zdfN tb p) (zdnE tb T p - p) : Int) else 0
def zbhT (tb : Nat → Nat) (T p : Nat) : Nat := if T ≤ p then p else if zltB tb p = true then zlnE tb T p else if zdgB tb p = true then zdnE tb T p else p + 1
def zWd (h : zHP) : Prop := ∀ j, j < 10 → h 70 j = (zwcL.getD j 0 : Nat) ∧ h 71 j = zwkL.getD j 0
theorem zdgstep {v b : Nat} (hv : v < 1000000000) (hb : 48 ≤ b ∧ b ≤ 57) : zwl (zwl (zwl ((v : Int) * 10) + (b : Int)) - 48) = ((v * 10 + (b - 48) : Nat) : Int) := by
  have z1 : zwl ((v : Int) * 10) = (v : Int) * 10 := zwl_id (by omega) (by omega)
  have z2 : zwl ((v : Int) * 10 + (b : Int)) = (v : Int) * 10 + (b : Int) := zwl_id (by omega) (by omega)
  rw [z1, z2, zwl_id (by omega) (by omega)]
  omega
theorem zbmy {x : Nat} (h : x < 256) : Int.bmod (x : Int) 256 = if x < 128 then (x : Int) else (x : Int) - 256 := by
  rw [Int.bmod_def]
  split <;> split <;> omega
section
variable {h : zHP} {T : Nat} {tb : Nat → Nat}
theorem zTC.by (t : zTC h T tb) {j : Nat} {x : Int} (hj : j < T) (hx : x = (j : Int)) : zByX h x = (if tb j < 128 then (tb j : Int) else (tb j : Int) - 256) ∧ tb j < 256 := by
  obtain ⟨t1, t2, t3⟩ := t
  have e := t3 j hj
  unfold zByX
  rw [if_pos (by omega), show x.toNat = j by omega, e.1, zbmy e.2]
  exact ⟨rfl, e.2⟩
theorem zTC.ltr (t : zTC h T tb) {j : Nat} {x : Int} (hj : j < T) (hx : x = (j : Int)) : (97 ≤ zByX h x ∧ zByX h x ≤ 122) ↔ zltB tb j = true := by
  obtain ⟨a, b⟩ := t.by hj hx
  unfold zltB
  rw [decide_eq_true_iff, a]
  split <;> omega
theorem zTC.dig (t : zTC h T tb) {j : Nat} {x : Int} (hj : j < T) (hx : x = (j : Int)) : (48 ≤ zByX h x ∧ zByX h x ≤ 57) ↔ zdgB tb j = true := by
  obtain ⟨a, b⟩ := t.by hj hx
  unfold zdgB
  rw [decide_eq_true_iff, a]
  split <;> omega
theorem zTC.blk (t : zTC h T tb) {j : Nat} {x : Int} (hj : j < T) (hx : x = (j : Int)) : (zByX h x = 9 ∨ zByX h x = 10 ∨ zByX h x = 13 ∨ zByX h x = 32) ↔ zbkB tb j = true := by
  obtain ⟨a, b⟩ := t.by hj hx
  unfold zbkB
  rw [decide_eq_true_iff, a]
  split <;> omega
theorem zTC.sgn (t : zTC h T tb) {j : Nat} {x : Int} {s : Nat} (hj : j < T) (hx : x = (j : Int)) (hs : s < 128) : zByX h x = (s : Int) ↔ tb j = s := by
  obtain ⟨a, b⟩ := t.by hj hx
  rw [a]
  split <;> omega
theorem zTC.k {h' : zHP} (t : zTC h T tb) (f : h' 68 6 = h 68 6) (g : h' 69 = h 69) : zTC h' T tb := by
  obtain ⟨t1, t2, t3⟩ := t
  exact ⟨by rw [f]; exact t1, t2, by rw [g]; exact t3⟩
theorem zByX_up {c : Nat} {i x : Int} (hc : ¬ 6 = c) : zByX (zup h 68 c x) i = zByX h i := by
  unfold zByX
  rw [zup_k hc, zup_c (by decide)]
/-- what is known when a token was looked at -/
def zTL (h h' : zHP) (T : Nat) (tb : Nat → Nat) (p : Nat) : Prop := zFin h' ∧ zfr [68] h h' ∧ (∀ c, c ≠ 9 → c ≠ 10 → c ≠ 11 → c ≠ 12 → h' 68 c = h 68 c) ∧ h' 68 11 = (p : Int) ∧ h' 68 12 = (zbhT tb T p : Int) ∧ h' 68 9 = zknT tb T p ∧ (zknT tb T p ≠ 63 → h' 68 10 = zvvT tb T p)
end
section
variable {X : List Int} {h : zHP} {K : Option zAV → zHP → Prop}
/-- kindOfWord -/
theorem cx_141 {c : Nat} {x : Int} (F : zFin h) (W : zWd h) (hx : x = (c : Int)) (k : K (some (zI (zkwN c))) h) : zC X 141 [zR 68, zL x] h K := by
  have loop : ∀ (f j : Nat) (x3 : Int), j + f = 10 → x3 = (j : Int) → zkwN c = zwkR c f j → zAt X 141 2 0 0 [some (zR 68), some (zL x), none, some (zI x3)] [] zSHc h (fun v sh' h' => sh' = zSHc ∧ K v h') := by
    intro f
    induction f with
    | zero =>
      intro j x3 hf h3 e
      have e : zkwN c = 110 := e
      rw [e] at k
      exact sg_141_2 F (fun _ => ⟨rfl, k⟩) (fun z => by omega) (fun z => by omega) (fun z => by omega) (fun z => by omega)
    | succ f ih =>
      intro j x3 hf h3 e
      obtain ⟨w1, w2⟩ := W j (by omega)
      have ej : x3.toNat = j := by omega
      rw [← ej] at w1 w2
      have e : zkwN c = if zwcL.getD j 0 = c then zwkL.getD j 0 else zwkR c f (j + 1) := e
      by_cases q : zwcL.getD j 0 = c
      · rw [if_pos q] at e
        rw [e] at k
        have q2 : h 70 x3.toNat = x := by rw [w1, ej, hx, q]
        refine sg_141_2 F (fun z => by omega) (fun _ => by omega) (fun _ z => absurd q2 z) (fun _ z => absurd q2 z) (fun _ _ => ⟨rfl, ?_⟩)
        rw [w2, ej]
        exact k
      · rw [if_neg q] at e
        have q2 : ¬ h 70 x3.toNat = x := by rw [w1, ej, hx]; omega
        exact sg_141_2 F (fun z => by omega) (fun _ => by omega) (fun _ _ => by omega) (fun _ _ => ih (j + 1) (x3 + 1) (by omega) (by omega) e) (fun _ z => absurd z q2)
  exact sg_141_0 (loop 10 0 0 rfl rfl rfl)
/-- takeLetters -/
theorem cx_139 {T p : Nat} {tb : Nat → Nat} (F : zFin h) (t : zTC h T tb) (W : zWd h) (hp : p < T) (hl : zltB tb p = true) (h11 : h 68 11 = (p : Int)) (h10 : h 68 10 = 0) (k : ∀ h', zTL h h' T tb p → K none h') : zC X 139 [zR 68] h K := by
  have hT := t.2.1
  obtain ⟨n1, n2, n3, n4⟩ := zeE_ok (p := zltB tb) (T := T) (T - p) p rfl
  have n2 := n2 (by omega)
  have hf : ∀ i, p + i < zlnE tb T p → zlfN tb p i < 32 := fun i hi => by
    have := n3 (p + i) (by omega) hi
    unfold zltB at this
    rw [decide_eq_true_iff] at this
    unfold zlfN
    omega
  have eb : zbhT tb T p = zlnE tb T p := by unfold zbhT; rw [if_neg (by omega), if_pos hl]
  have ek : zknT tb T p = if 8 < zlnE tb T p - p then 63 else zkwN (zwdN 32 (zlfN tb p) (zlnE tb T p - p)) := by unfold zknT; rw [if_neg (by omega), if_pos hl]
  have ev : zvvT tb T p = (zwdN 32 (zlfN tb p) (zlnE tb T p - p) : Int) := by unfold zvvT; rw [if_neg (by omega), if_pos hl]
  have fin : ∀ (h1 : zHP) (x1 : Int), x1 = (zlnE tb T p : Int) → zFin h1 → zfr [68] h h1 → (∀ c, c ≠ 10 → h1 68 c = h 68 c) → (zlnE tb T p - p ≤ 9 → h1 68 10 = (zwdN 32 (zlfN tb p) (zlnE tb T p - p) : Int)) → (x1 - h1 68 11 ≤ 8 → zC X 141 [zR 68, zL (h1 68 10)] (zup h1 68 12 x1) (fun v h9 => zAt X 139 82 0 0 [none, none] (zpush v [zR 68]) zSHc h9 (fun v sh' h' => sh' = zSHc ∧ K v h'))) ∧ (8 < x1 - h1 68 11 → (fun v sh' h' => sh' = zSHc ∧ K v h') none zSHc (zup (zup h1 68 12 x1) 68 9 63)) := fun h1 x1 e1 F1 fr fk V => by
    have e11 : h1 68 11 = (p : Int) := (fk 11 (by decide)).trans h11
    have main : ∀ kd : Int, kd = zknT tb T p → K none (zup (zup h1 68 12 x1) 68 9 kd) := fun kd hk => by
      refine k _ ⟨(F1.up (by decide)).up (by decide), (fr.up (by simp)).up (by simp), fun c a b c' d => ?_, ?_, ?_, ?_, fun z => ?_⟩
      · rw [zup_k a, zup_k d]; exact fk c b
      · rw [zup_k (by decide), zup_k (by decide)]; exact e11
      · rw [zup_k (by decide), zup_eq, e1, eb]
      · rw [zup_eq]; exact hk
      · rw [zup_k (by decide), zup_k (by decide), ev]
        refine V ?_
        by_cases c : 8 < zlnE tb T p - p
        · rw [ek, if_pos c] at z
          exact absurd rfl z
        · omega
    refine ⟨fun le => ?_, fun gt => ⟨rfl, main 63 (by rw [ek, if_pos (by omega)])⟩⟩
    have V := V (by omega)
    refine cx_141 (c := zwdN 32 (zlfN tb p) (zlnE tb T p - p)) (F1.up (by decide)) (fun j hj => ?_) V (sg_139_82c ⟨rfl, main _ (by rw [ek, if_neg (by omega)])⟩)
    rw [zup_c (by decide), zup_c (by decide), fr 70 (by decide), fr 71 (by decide)]
    exact W j hj
  have loop : ∀ (q j : Nat) (h1 : zHP) (x1 : Int), T - j = q → p ≤ j → j ≤ T → zeE (zltB tb) T j = zlnE tb T p → x1 = (j : Int) → zFin h1 → zfr [68] h h1 → (∀ c, c ≠ 10 → h1 68 c = h 68 c) → (j - p ≤ 9 → h1 68 10 = (zwdN 32 (zlfN tb p) (j - p) : Int)) → zAt X 139 5 0 0 [some (zR 68), some (zI x1)] [] zSHc h1 (fun v sh' h' => sh' = zSHc ∧ K v h') := by
    intro q
    induction q with
    | zero =>
      intro j h1 x1 hq hpj hjT he e1 F1 fr fk V
      have e6 : h1 68 6 = (T : Int) := (fk 6 (by decide)).trans t.1
      have e11 : h1 68 11 = (p : Int) := (fk 11 (by decide)).trans h11
      have ej : zlnE tb T p = j := he.symm.trans (zeE_st (by omega))
      obtain ⟨g1, g2⟩ := fin h1 x1 (by omega) F1 fr fk (by rw [ej]; exact V)
      exact sg_139_5 F1 (fun _ => by omega) (fun _ => g1) (fun _ => g2) (fun z => by omega) (fun z => by omega) (fun z => by omega) (fun z => by omega) (fun z => by omega) (fun z => by omega)
    | succ q ih =>
      intro j h1 x1 hq hpj hjT he e1 F1 fr fk V
      have t1 := t.k (fk 6 (by decide)) (fr 69 (by decide))
      have e6 : h1 68 6 = (T : Int) := t1.1
      have e11 : h1 68 11 = (p : Int) := (fk 11 (by decide)).trans h11
      have hj : j < T := by omega
      have lt := t1.ltr hj e1
      by_cases c : zltB tb j = true
      · have lt := lt.mpr c
        obtain ⟨b1, b2⟩ := t1.by hj e1
        refine sg_139_5 F1 (fun z => by omega) (fun z => by omega) (fun z => by omega) (fun _ z => absurd lt z) (fun _ z => absurd lt z) (fun _ z => absurd lt z) (fun _ _ => by omega) (fun _ _ => by omega) (fun _ _ => ?_)
        refine ih (j + 1) _ (x1 + 1) (by omega) (by omega) (by omega) ((zeE_go hj c).symm.trans he) (by omega) (F1.up (by decide)) (fr.up (by simp)) (fun c hc => by rw [zup_k hc]; exact fk c hc) (fun le => ?_)
        have V := V (by omega)
        have w := zwdN_lt (β := 32) (f := zlfN tb p) (j - p) fun i hi => by
          unfold zlfN
          have := n3 (p + i) (by omega) (by
            have := (zeE_ok (p := zltB tb) (T := T) (T - j) j rfl).1
            show p + i < zlnE tb T p
            omega)
          unfold zltB at this
          rw [decide_eq_true_iff] at this
          omega
        have w2 : (32 : Nat) ^ (j - p) ≤ 32 ^ 9 := Nat.pow_le_pow_right (by decide) (by omega)
        have w3 : (32 : Nat) ^ 9 = 35184372088832 := by decide
        unfold zltB at c
        rw [decide_eq_true_iff] at c
        rw [if_pos (by omega)] at b1
        have z1 : zwl ((zwdN 32 (zlfN tb p) (j - p) : Int) * 32) = (zwdN 32 (zlfN tb p) (j - p) : Int) * 32 := zwl_id (by omega) (by omega)
        rw [zup_eq, V, b1, z1, zwl_id (by omega) (by omega), show j + 1 - p = (j - p) + 1 by omega]
        show _ = ((zwdN 32 (zlfN tb p) (j - p) * 32 + (tb (p + (j - p)) - 96) : Nat) : Int)
        rw [show p + (j - p) = j by omega]
        omega
      · have lt : ¬ (97 ≤ zByX h1 x1 ∧ zByX h1 x1 ≤ 122) := fun z => c (lt.mp z)
        have ej : zlnE tb T p = j := he.symm.trans (zeE_st fun z => c z.2)
        obtain ⟨g1, g2⟩ := fin h1 x1 (by omega) F1 fr fk (by rw [ej]; exact V)
        exact sg_139_5 F1 (fun z => by omega) (fun z => by omega) (fun z => by omega) (fun _ _ => by omega) (fun _ _ => g1) (fun _ _ => g2) (fun _ z => absurd z lt) (fun _ z => absurd z lt) (fun _ z => absurd z lt)
  exact sg_139_0 (by rw [h11]; exact loop _ p h p rfl (Nat.le_refl _) (by omega) rfl rfl F zfr.rfl (fun _ _ => rfl) (fun _ => by rw [h10, Nat.sub_self]; rfl))
/-- takeDigits -/
theorem cx_140 {T p : Nat} {tb : Nat → Nat} (F : zFin h) (t : zTC h T tb) (hp : p < T) (nl : ¬ zltB tb p = true) (hl : zdgB tb p = true) (h11 : h 68 11 = (p : Int)) (h10 : h 68 10 = 0) (k : ∀ h', zTL h h' T tb p → K none h') : zC X 140 [zR 68] h K := by
  have hT := t.2.1
  obtain ⟨n1, n2, n3, n4⟩ := zeE_ok (p := zdgB tb) (T := T) (T - p) p rfl
  have n2 := n2 (by omega)
  have eb : zbhT tb T p = zdnE tb T p := by unfold zbhT; rw [if_neg (by omega), if_neg nl, if_pos hl]
  have ek : zknT tb T p = if 4 < zdnE tb T p - p then 63 else 105 := by unfold zknT; rw [if_neg (by omega), if_neg nl, if_pos hl]
  have ev : zvvT tb T p = (zwdN 10 (zdfN tb p) (zdnE tb T p - p) : Int) := by unfold zvvT; rw [if_neg (by omega), if_neg nl, if_pos hl]
  have fin : ∀ (h1 : zHP) (x1 : Int), x1 = (zdnE tb T p : Int) → zFin h1 → zfr [68] h h1 → (∀ c, c ≠ 10 → h1 68 c = h 68 c) → (zdnE tb T p - p ≤ 9 → h1 68 10 = (zwdN 10 (zdfN tb p) (zdnE tb T p - p) : Int)) → (x1 - h1 68 11 ≤ 4 → (fun v sh' h' => sh' = zSHc ∧ K v h') none zSHc (zup (zup h1 68 12 x1) 68 9 105)) ∧ (4 < x1 - h1 68 11 → (fun v sh' h' => sh' = zSHc ∧ K v h') none zSHc (zup (zup h1 68 12 x1) 68 9 63)) := fun h1 x1 e1 F1 fr fk V => by
    have e11 : h1 68 11 = (p : Int) := (fk 11 (by decide)).trans h11
    have main : ∀ kd : Int, kd = zknT tb T p → K none (zup (zup h1 68 12 x1) 68 9 kd) := fun kd hk => by
      refine k _ ⟨(F1.up (by decide)).up (by decide), (fr.up (by simp)).up (by simp), fun c a b c' d => ?_, ?_, ?_, ?_, fun z => ?_⟩
      · rw [zup_k a, zup_k d]; exact fk c b
      · rw [zup_k (by decide), zup_k (by decide)]; exact e11
      · rw [zup_k (by decide), zup_eq, e1, eb]
      · rw [zup_eq]; exact hk
      · rw [zup_k (by decide), zup_k (by decide), ev]
        refine V ?_
        by_cases c : 4 < zdnE tb T p - p
        · rw [ek, if_pos c] at z
          exact absurd rfl z
        · omega
    exact ⟨fun le => ⟨rfl, main 105 (by rw [ek, if_neg (by omega)])⟩, fun gt => ⟨rfl, main 63 (by rw [ek, if_pos (by omega)])⟩⟩
  have loop : ∀ (q j : Nat) (h1 : zHP) (x1 : Int), T - j = q → p ≤ j → j ≤ T → zeE (zdgB tb) T j = zdnE tb T p → x1 = (j : Int) → zFin h1 → zfr [68] h h1 → (∀ c, c ≠ 10 → h1 68 c = h 68 c) → (j - p ≤ 9 → h1 68 10 = (zwdN 10 (zdfN tb p) (j - p) : Int)) → zAt X 140 5 0 0 [some (zR 68), some (zI x1)] [] zSHc h1 (fun v sh' h' => sh' = zSHc ∧ K v h') := by
    intro q
    induction q with
    | zero =>
      intro j h1 x1 hq hpj hjT he e1 F1 fr fk V
      have e6 : h1 68 6 = (T : Int) := (fk 6 (by decide)).trans t.1
      have e11 : h1 68 11 = (p : Int) := (fk 11 (by decide)).trans h11
      have ej : zdnE tb T p = j := he.symm.trans (zeE_st (by omega))
      obtain ⟨g1, g2⟩ := fin h1 x1 (by omega) F1 fr fk (by rw [ej]; exact V)
      exact sg_140_5 F1 (fun _ => by omega) (fun _ => g1) (fun _ => g2) (fun z => by omega) (fun z => by omega) (fun z => by omega) (fun z => by omega) (fun z => by omega)
    | succ q ih =>
      intro j h1 x1 hq hpj hjT he e1 F1 fr fk V
      have t1 := t.k (fk 6 (by decide)) (fr 69 (by decide))
      have e6 : h1 68 6 = (T : Int) := t1.1
      have e11 : h1 68 11 = (p : Int) := (fk 11 (by decide)).trans h11
      have hj : j < T := by omega
      have lt := t1.dig hj e1
      by_cases c : zdgB tb j = true
      · have lt := lt.mpr c
        obtain ⟨b1, b2⟩ := t1.by hj e1
        refine sg_140_5 F1 (fun z => by omega) (fun z => by omega) (fun z => by omega) (fun _ z => absurd lt z) (fun _ z => absurd lt z) (fun _ z => absurd lt z) (fun _ _ => by omega) (fun _ _ => ?_)
        refine ih (j + 1) _ (x1 + 1) (by omega) (by omega) (by omega) ((zeE_go hj c).symm.trans he) (by omega) (F1.up (by decide)) (fr.up (by simp)) (fun c hc => by rw [zup_k hc]; exact fk c hc) (fun le => ?_)
        have V := V (by omega)
        have w := zwdN_lt (β := 10) (f := zdfN tb p) (j - p) fun i hi => by
          unfold zdfN
          have := n3 (p + i) (by omega) (by
            have := (zeE_ok (p := zdgB tb) (T := T) (T - j) j rfl).1
            show p + i < zdnE tb T p
            omega)
          unfold zdgB at this
          rw [decide_eq_true_iff] at this
          omega
        have w2 : (10 : Nat) ^ (j - p) ≤ 10 ^ 9 := Nat.pow_le_pow_right (by decide) (by omega)
        have w3 : (10 : Nat) ^ 9 = 1000000000 := by decide
        unfold zdgB at c
        rw [decide_eq_true_iff] at c
        rw [if_pos (by omega)] at b1
        rw [zup_eq, V, b1, zdgstep (by omega) c, show j + 1 - p = (j - p) + 1 by omega]
        show _ = ((zwdN 10 (zdfN tb p) (j - p) * 10 + (tb (p + (j - p)) - 48) : Nat) : Int)
        rw [show p + (j - p) = j by omega]
      · have lt : ¬ (48 ≤ zByX h1 x1 ∧ zByX h1 x1 ≤ 57) := fun z => c (lt.mp z)
        have ej : zdnE tb T p = j := he.symm.trans (zeE_st fun z => c z.2)
        obtain ⟨g1, g2⟩ := fin h1 x1 (by omega) F1 fr fk (by rw [ej]; exact V)
        exact sg_140_5 F1 (fun z => by omega) (fun z => by omega) (fun z => by omega) (fun _ _ => by omega) (fun _ _ => g1) (fun _ _ => g2) (fun _ z => absurd z lt) (fun _ z => absurd z lt)
  exact sg_140_0 (by rw [h11]; exact loop _ p h p rfl (Nat.le_refl _) (by omega) rfl rfl F zfr.rfl (fun _ _ => rfl) (fun _ => by rw [h10, Nat.sub_self]; rfl))
/-- lookAtNext -/
theorem cx_138 {T j0 : Nat} {tb : Nat → Nat} (F : zFin h) (t : zTC h T tb) (W : zWd h) (hj0 : j0 ≤ T) (h12 : h 68 12 = (j0 : Int)) (k : ∀ h', zTL h h' T tb (zplc tb T j0) → K none h') : zC X 138 [zR 68] h K := by
  have hT := t.2.1
  have e6 := t.1
  have loop : ∀ (q j : Nat) (x1 : Int), T - j = q → j ≤ T → zeE (zbkB tb) T j = zplc tb T j0 → x1 = (j : Int) → zAt X 138 5 0 0 [some (zR 68), some (zI x1), none, none] [] zSHc h (fun v sh' h' => sh' = zSHc ∧ K v h') := by
    intro q
    induction q with
    | zero =>
      intro j x1 hq hjT he e1
      have ej : zplc tb T j0 = j := he.symm.trans (zeE_st (by omega))
      have eT : j = T := by omega
      refine sg_138_5 F (fun _ => ⟨rfl, k _ ⟨((((F.up (by decide)).up (by decide)).up (by decide)).up (by decide)), ((((zfr.rfl.up (by simp)).up (by simp)).up (by simp)).up (by simp)), fun c a b c' d => by rw [zup_k d, zup_k a, zup_k b, zup_k c'], ?_, ?_, ?_, fun _ => ?_⟩⟩) (fun z => by omega) (fun z => by omega) (fun z => by omega) (fun z => by omega) (fun z => by omega) (fun z => by omega) (fun z => by omega) (fun z => by omega) (fun z => by omega) (fun z => by omega) (fun z => by omega) (fun z => by omega)
      · rw [zup_k (by decide), zup_k (by decide), zup_k (by decide), zup_eq, ej, e1]
      · rw [zup_eq, ej, e1]; unfold zbhT; rw [if_pos (by omega)]
      · rw [zup_k (by decide), zup_eq, ej]; unfold zknT; rw [if_pos (by omega)]
      · rw [zup_k (by decide), zup_k (by decide), zup_eq, ej]; unfold zvvT; rw [if_pos (by omega)]
    | succ q ih =>
      intro j x1 hq hjT he e1
      have hj : j < T := by omega
      have bl := t.blk hj e1
      have lt := t.ltr hj e1
      have dg := t.dig hj e1
      have s1 := t.sgn (s := 59) hj e1 (by decide)
      have s2 := t.sgn (s := 123) hj e1 (by decide)
      have s3 := t.sgn (s := 125) hj e1 (by decide)
      obtain ⟨b1, b2⟩ := t.by hj e1
      have ez : zByX (zup (zup h 68 11 x1) 68 10 0) x1 = zByX h x1 := by rw [zByX_up (by decide), zByX_up (by decide)]
      by_cases cb : zbkB tb j = true
      · have bl := bl.mpr cb
        exact sg_138_5 F (fun z => by omega) (fun _ z => absurd bl z) (fun _ z => absurd bl z) (fun _ z => absurd bl z) (fun _ z => absurd bl z) (fun _ z => absurd bl z) (fun _ z => absurd bl z) (fun _ z => absurd bl z) (fun _ z => absurd bl z) (fun _ z => absurd bl z) (fun _ z => absurd bl z) (fun _ _ => by omega) (fun _ _ => ih (j + 1) (x1 + 1) (by omega) (by omega) ((zeE_go hj cb).symm.trans he) (by omega))
      · have nb : ¬ (zByX h x1 = 9 ∨ zByX h x1 = 10 ∨ zByX h x1 = 13 ∨ zByX h x1 = 32) := fun z => cb (bl.mp z)
        have ej : zplc tb T j0 = j := he.symm.trans (zeE_st fun z => cb z.2)
        have F2 : zFin (zup (zup h 68 11 x1) 68 10 0) := (F.up (by decide)).up (by decide)
        have t2 : zTC (zup (zup h 68 11 x1) 68 10 0) T tb := t.k (by rw [zup_k (by decide), zup_k (by decide)]) (by funext i; rw [zup_c (by decide), zup_c (by decide)])
        have W2 : zWd (zup (zup h 68 11 x1) 68 10 0) := fun i hi => by rw [zup_c (by decide), zup_c (by decide), zup_c (by decide), zup_c (by decide)]; exact W i hi
        have g11 : zup (zup h 68 11 x1) 68 10 0 68 11 = (j : Int) := by rw [zup_k (by decide), zup_eq]; exact e1
        have lift : ∀ h', zTL (zup (zup h 68 11 x1) 68 10 0) h' T tb j → K none h' := fun h' y => k h' (by
          rw [ej]
          obtain ⟨y1, y2, y3, y4⟩ := y
          exact ⟨y1, ((zfr.rfl.up (by simp)).up (by simp)).trans y2, fun c a b c' d => by rw [y3 c a b c' d, zup_k b, zup_k c'], y4⟩)
        by_cases cl : zltB tb j = true
        · have lt2 : 97 ≤ zByX (zup (zup h 68 11 x1) 68 10 0) x1 ∧ zByX (zup (zup h 68 11 x1) 68 10 0) x1 ≤ 122 := by rw [ez]; exact lt.mpr cl
          refine sg_138_5 F (fun z => by omega) (fun _ _ z => absurd lt2 z) (fun _ _ z => absurd lt2 z) (fun _ _ z => absurd lt2 z) (fun _ _ z => absurd lt2 z) (fun _ _ z => absurd lt2 z) (fun _ _ z => absurd lt2 z) (fun _ _ z => absurd lt2 z) (fun _ _ z => absurd lt2 z) (fun _ _ z => absurd lt2 z) (fun _ _ _ => ?_) (fun _ z => absurd z nb) (fun _ z => absurd z nb)
          exact cx_139 F2 t2 W2 hj cl g11 zup_eq fun h' y => sg_138_79c ⟨rfl, lift h' y⟩
        · have nl2 : ¬ (97 ≤ zByX (zup (zup h 68 11 x1) 68 10 0) x1 ∧ zByX (zup (zup h 68 11 x1) 68 10 0) x1 ≤ 122) := by rw [ez]; exact fun z => cl (lt.mp z)
          by_cases cd : zdgB tb j = true
          · have dg2 : 48 ≤ zByX (zup (zup h 68 11 x1) 68 10 0) x1 ∧ zByX (zup (zup h 68 11 x1) 68 10 0) x1 ≤ 57 := by rw [ez]; exact dg.mpr cd
            refine sg_138_5 F (fun z => by omega) (fun _ _ _ z => absurd dg2 z) (fun _ _ _ z => absurd dg2 z) (fun _ _ _ z => absurd dg2 z) (fun _ _ _ z => absurd dg2 z) (fun _ _ _ z => absurd dg2 z) (fun _ _ _ z => absurd dg2 z) (fun _ _ _ z => absurd dg2 z) (fun _ _ _ z => absurd dg2 z) (fun _ _ _ _ => ?_) (fun _ _ z => absurd z nl2) (fun _ z => absurd z nb) (fun _ z => absurd z nb)
            exact cx_140 F2 t2 hj cl cd g11 zup_eq fun h' y => sg_138_93c ⟨rfl, lift h' y⟩
          · have nd2 : ¬ (48 ≤ zByX (zup (zup h 68 11 x1) 68 10 0) x1 ∧ zByX (zup (zup h 68 11 x1) 68 10 0) x1 ≤ 57) := by rw [ez]; exact fun z => cd (dg.mp z)
            have eb : zbhT tb T j = j + 1 := by unfold zbhT; rw [if_neg (by omega), if_neg cl, if_neg cd]
            have ek : zknT tb T j = if tb j = 59 ∨ tb j = 123 ∨ tb j = 125 then (tb j : Int) else 63 := by unfold zknT; rw [if_neg (by omega), if_neg cl, if_neg cd]
            have ev : zvvT tb T j = 0 := by unfold zvvT; rw [if_neg (by omega), if_neg cl, if_neg cd]
            have put : ∀ kd : Int, kd = zknT tb T j → K none (zup (zup (zup (zup h 68 11 x1) 68 10 0) 68 9 kd) 68 12 (x1 + 1)) := fun kd hk => lift _ ⟨(F2.up (by decide)).up (by decide), (zfr.rfl.up (by simp)).up (by simp), fun c a b c' d => by rw [zup_k d, zup_k a], by rw [zup_k (by decide), zup_k (by decide)]; exact g11, by rw [zup_eq, eb]; omega, by rw [zup_k (by decide), zup_eq]; exact hk, fun _ => by rw [zup_k (by decide), zup_k (by decide), zup_eq, ev]⟩
            have p1 : zByX (zup (zup h 68 11 x1) 68 10 0) x1 = 59 ∨ zByX (zup (zup h 68 11 x1) 68 10 0) x1 = 123 ∨ zByX (zup (zup h 68 11 x1) 68 10 0) x1 = 125 → K none (zup (zup (zup (zup h 68 11 x1) 68 10 0) 68 9 (zByX (zup (zup h 68 11 x1) 68 10 0) x1)) 68 12 (x1 + 1)) := fun z => by
              refine put _ ?_
              rw [ez] at z ⊢
              rw [ek, if_pos (by omega), b1]
              split <;> omega
            exact sg_138_5 F (fun z => by omega) (fun _ _ _ _ _ => by omega) (fun _ _ _ _ z => ⟨rfl, p1 (Or.inl z)⟩) (fun _ _ _ _ _ _ => by omega) (fun _ _ _ _ _ z => ⟨rfl, p1 (Or.inr (Or.inl z))⟩) (fun _ _ _ _ _ _ _ => by omega) (fun _ _ _ _ z1 z2 z3 => ⟨rfl, put 63 (by rw [ez] at z1 z2 z3; rw [ek, if_neg (by omega)])⟩) (fun _ _ _ _ _ _ _ => by omega) (fun _ _ _ _ _ _ z => ⟨rfl, p1 (Or.inr (Or.inr z))⟩) (fun _ _ _ z => absurd z nd2) (fun _ _ z => absurd z nl2) (fun _ z => absurd z nb) (fun _ z => absurd z nb)
  exact sg_138_0 (by rw [h12]; exact loop _ j0 j0 rfl hj0 rfl rfl)
end
