/-! THE CLASS: WHAT IS MARKED -/
def zalk (f g : Nat → Bool) : Nat → Bool
  | 0 => true
  | k + 1 => zalk f g k && !(Bool.xor (f k) (g k))
theorem zalk_iff {f g : Nat → Bool} : ∀ {k : Nat}, zalk f g k = true ↔ ∀ j, j < k → f j = g j := by
  intro k
  induction k with
  | zero => exact ⟨fun _ j hj => by omega, fun _ => rfl⟩
  | succ k ih =>
    show (zalk f g k && !(Bool.xor (f k) (g k))) = true ↔ _
    rw [Bool.and_eq_true, ih]
    constructor
    · rintro ⟨h1, h2⟩ j hj
      by_cases c : j = k
      · rw [c]
        cases a : f k <;> cases b : g k <;> rw [a, b] at h2 <;> first | rfl | cases h2
      · exact h1 j (by omega)
    · intro H
      refine ⟨fun j hj => H j (by omega), ?_⟩
      rw [H k (by omega)]
      cases g k <;> rfl
theorem zcnt_half {q : Nat → Bool} {n : Nat} (hn : n ≤ 7) : zsu (fun r => if (decide (r < 2 ^ n) && !q r) then 1 else 0) 64 + zsu (fun r => if (decide (r + 64 < 2 ^ n) && !q (r + 64)) then 1 else 0) 64 = zsu (fun r => if q r then 0 else 1) (2 ^ n) := by
  have h128 : 2 ^ n ≤ 2 ^ 7 := Nat.pow_le_pow_right (by decide) hn
  have e1 : zsu (fun r => if (decide (r < 2 ^ n) && !q r) then 1 else 0) (64 + 64) = zsu (fun r => if (decide (r < 2 ^ n) && !q r) then 1 else 0) 64 + zsu (fun r => if (decide (r + 64 < 2 ^ n) && !q (r + 64)) then 1 else 0) 64 := by
    rw [zsu_split]
    refine congrArg (zsu (fun r => if (decide (r < 2 ^ n) && !q r) then 1 else 0) 64 + ·) (zsu_congr fun i _ => ?_)
    rw [Nat.add_comm 64 i]
  rw [← e1, show 64 + 64 = 2 ^ n + (128 - 2 ^ n) by omega, zsu_split]
  have e2 : zsu (fun i => if (decide (2 ^ n + i < 2 ^ n) && !q (2 ^ n + i)) then 1 else 0) (128 - 2 ^ n) = 0 := by
    refine Eq.trans (zsu_congr (g := fun _ => 0) fun i _ => ?_) (zsu_0 _)
    rw [decide_eq_false (by omega)]
    rfl
  rw [e2, Nat.add_zero]
  refine zsu_congr fun r hr => ?_
  rw [decide_eq_true hr, Bool.true_and]
  cases q r <;> rfl
section
variable {X : List Int} {h : zHP} {K : Option zAV → zHP → Prop}
/-- markAlike -/
theorem cx_7 {o o2 n n2 : Nat} {p p2 : Nat → Nat → Bool} (F : zFin h) (ho : zBit o) (ho2 : zBit o2) (hoo : o ≠ o2) (hn : 2 ≤ n ∧ n ≤ 7) (B : zBR h o n p) (B2 : zBR h o2 n2 p2) (k : ∀ h', zFin h' → zfr [o] h h' → (∀ j, j ≠ 4 → j ≠ 5 → h' o j = h o j) → zMK h' o (fun r => decide (r < 2 ^ n) && zalk (p r) (p2 r) n) → K none h') : zC X 7 [zR o, zR o2] h K := by
  have m : ¬ o + 1 = o ∧ ¬ o + 2 = o ∧ ¬ o2 + 1 = o ∧ ¬ o2 + 2 = o := by unfold zBit at ho ho2; omega
  have loop : ∀ (r i : Nat) (h1 : zHP) (x1 : Int), n - i = r → i ≤ n → x1 = (i : Int) → zFin h1 → zfr [o] h h1 → (∀ j, j ≠ 4 → j ≠ 5 → h1 o j = h o j) → zMK h1 o (fun r => decide (r < 2 ^ n) && zalk (p r) (p2 r) i) → zAt X 7 18 0 0 [some (zR o), some (zR o2), some (zI x1)] [] zSHc h1 (fun v sh' h' => sh' = zSHc ∧ K v h') := by
    intro r
    induction r with
    | zero =>
      intro i h1 x1 hr hi h4 F1 fr e45 M
      have ei : i = n := by omega
      rw [ei] at M
      have e3 : h1 o 3 = (n : Int) := by rw [e45 3 (by decide) (by decide)]; exact B.1
      exact sg_7_18 F1 ho2 ho (fun _ => ⟨rfl, k h1 F1 fr e45 M⟩) (fun a => by omega) (fun a => by omega) (fun a => by omega) (fun a => by omega)
    | succ r ih =>
      intro i h1 x1 hr hi h4 F1 fr e45 M
      have e3 : h1 o 3 = (n : Int) := by rw [e45 3 (by decide) (by decide)]; exact B.1
      have e0 : x1.toNat = i := by omega
      have l0 := B.2 i (by omega)
      have l1 := B2.2 i (by omega)
      refine sg_7_18 F1 ho2 ho (fun a => by omega) (fun _ a => by omega) (fun _ _ => by omega) (fun _ _ => by omega) (fun _ _ => ?_)
      rw [e0, zup_k (by decide), zup_c m.2.1, zup_c m.2.2.2, fr (o + 1) (by simp), fr (o + 2) (by simp), fr (o2 + 1) (by simp; omega), fr (o2 + 2) (by simp; omega), M.1, M.2, l0.1, l0.2, l1.1, l1.2, zB_xor, zB_xor, zB_not, zB_not, zB_and, zB_and]
      refine ih (i + 1) _ _ (by omega) (by omega) (by omega) (ho.up (ho.up F1 rfl) rfl) ((fr.up (by simp)).up (by simp)) (fun j a b => by rw [zup_k b, zup_k a]; exact e45 j a b) ⟨?_, ?_⟩
      · rw [zup_k (by decide), zup_eq]
        exact zB_ext fun r _ => by
          show _ = (decide (r < 2 ^ n) && (zalk (p r) (p2 r) i && !(Bool.xor (p r i) (p2 r i))))
          rw [Bool.and_assoc]
      · rw [zup_eq]
        exact zB_ext fun r _ => by
          show _ = (decide (r + 64 < 2 ^ n) && (zalk (p (r + 64)) (p2 (r + 64)) i && !(Bool.xor (p (r + 64) i) (p2 (r + 64) i))))
          rw [Bool.and_assoc]
  refine sg_7_0 ho (cx_4 ho hn B.1 (sg_7_5c ho ?_))
  rw [zup_k (by decide), B.1, zHiM_B hn]
  refine loop n 0 _ 0 (by omega) (by omega) rfl (ho.up (ho.up F rfl) rfl) (((zfr.rfl).up (by simp)).up (by simp)) (fun j a b => by rw [zup_k b, zup_k a]) ⟨?_, ?_⟩
  · rw [zup_k (by decide), zup_eq]
    exact zB_ext fun r _ => (Bool.and_true _).symm
  · rw [zup_eq]
    exact zB_ext fun r _ => (Bool.and_true _).symm
/-- howManyUnmarked -/
theorem cx_8 {o n : Nat} {q : Nat → Bool} (ho : zBit o) (hn : 2 ≤ n ∧ n ≤ 7) (h3 : h o 3 = (n : Int)) (M : zMK h o q) (k : K (some (zI (zsu (fun r => if q r then 0 else 1) (2 ^ n) : Nat))) h) : zC X 8 [zR o] h K := by
  have half := zcnt_half (q := q) hn.2
  have b1 := zsu_bd (f := fun r => if (decide (r < 2 ^ n) && !q r) then 1 else 0) (b := 1) 64 (fun i _ => by show (if _ then 1 else 0) ≤ 1; split <;> omega)
  have b2 := zsu_bd (f := fun r => if (decide (r + 64 < 2 ^ n) && !q (r + 64)) then 1 else 0) (b := 1) 64 (fun i _ => by show (if _ then 1 else 0) ≤ 1; split <;> omega)
  refine sg_8_0 ho (cx_4 ho hn h3 (sg_8_4c ho ?_))
  rw [M.1, zB_not, zB_and]
  refine zp_330 (zrb_lt 64) ?_
  rw [zB_pc]
  refine sg_8_16c ho ?_
  rw [h3, zHiM_B hn, M.2, zB_not, zB_and]
  refine zp_330 (zrb_lt 64) ?_
  rw [zB_pc]
  refine sg_8_32c (by omega) ⟨rfl, ?_⟩
  rw [← half, Int.natCast_add] at k
  exact k
/-- firstUnmarked -/
theorem cx_9 {o n t : Nat} {q : Nat → Bool} (ho : zBit o) (hn : 2 ≤ n ∧ n ≤ 7) (h3 : h o 3 = (n : Int)) (M : zMK h o q) (ht : t < 2 ^ n) (h1 : q t = false) (h0 : ∀ r, r < t → q r = true) (k : K (some (zI (t : Int))) h) : zC X 9 [zR o] h K := by
  have h128 : 2 ^ n ≤ 2 ^ 7 := Nat.pow_le_pow_right (by decide) hn.2
  refine sg_9_0 ho (cx_4 ho hn h3 ?_)
  have lo : zland (zB (fun r => decide (r < 2 ^ n))) (zlxor (h o 4) (-1)) = zB (fun r => decide (r < 2 ^ n) && !q r) := by rw [M.1, zB_not, zB_and]
  have hi : zland (zHiM (h o 3)) (zlxor (h o 5) (-1)) = zB (fun r => decide (r + 64 < 2 ^ n) && !q (r + 64)) := by rw [h3, zHiM_B hn, M.2, zB_not, zB_and]
  by_cases c : t < 64
  · have nz : ¬ zland (zB (fun r => decide (r < 2 ^ n))) (zlxor (h o 4) (-1)) = 0 := fun z => by
      rw [lo, zB_0] at z
      have := z t c
      rw [h1, decide_eq_true ht] at this
      cases this
    refine sg_9_4c ho (fun z => absurd z nz) (fun _ => ?_)
    rw [lo]
    refine zp_329 (t := t) (zrb_lt 64) c ?_ (fun r hr => ?_) (sg_9_24c ⟨rfl, k⟩)
    · rw [zrb_bit, decide_eq_true c, h1, decide_eq_true ht]; rfl
    · rw [zrb_bit, h0 r hr]; simp
  · have z0 : zland (zB (fun r => decide (r < 2 ^ n))) (zlxor (h o 4) (-1)) = 0 := by
      rw [lo, zB_0]
      intro r hr
      rw [h0 r (by omega)]; simp
    refine sg_9_4c ho (fun _ => ?_) (fun z => absurd z0 z)
    rw [hi]
    refine zp_329 (t := t - 64) (zrb_lt 64) (by omega) ?_ (fun r hr => ?_) (sg_9_43c (by omega) ⟨rfl, ?_⟩)
    · rw [zrb_bit, decide_eq_true (show t - 64 < 64 by omega), show t - 64 + 64 = t by omega, h1, decide_eq_true ht]; rfl
    · rw [zrb_bit, h0 (r + 64) (by omega)]; simp
    · rw [show (64 : Int) + ((t - 64 : Nat) : Int) = (t : Int) by omega]
      exact k
/-- isMarked -/
theorem cx_10 {o r : Nat} {q : Nat → Bool} {x : Int} (ho : zBit o) (M : zMK h o q) (hr : r < 128) (hx : x = (r : Int)) (k : K (some (zI (if q r then 1 else 0))) h) : zC X 10 [zR o, zI x] h K := by
  have e63 : ziand x 63 = ((r % 64 : Nat) : Int) := by rw [hx]; exact ziand_m 6 (by omega)
  have lt := Nat.mod_lt r (show 0 < 64 by decide)
  by_cases c : r < 64
  · have g : zland (zlushr (h o 4) (ziand x 63)) 1 = if q r then 1 else 0 := by
      rw [e63, M.1, zB_get lt, Nat.mod_eq_of_lt c]
    refine sg_10_0 ho (fun a => by omega) (fun a => by omega) (fun _ a => ?_) (fun _ a => ?_)
    · rw [g] at a
      cases e : q r with
      | true => rw [e] at a; exact absurd rfl a
      | false => rw [e] at k; exact ⟨rfl, k⟩
    · rw [g] at a
      cases e : q r with
      | true => rw [e] at k; exact ⟨rfl, k⟩
      | false => rw [e] at a; exact absurd a (by decide)
  · have g : zland (zlushr (h o 5) (ziand x 63)) 1 = if q r then 1 else 0 := by
      rw [e63, M.2, zB_get lt, show r % 64 + 64 = r by omega]
    refine sg_10_0 ho (fun _ a => ?_) (fun _ a => ?_) (fun a => by omega) (fun a => by omega)
    · rw [g] at a
      cases e : q r with
      | true => rw [e] at a; exact absurd rfl a
      | false => rw [e] at k; exact ⟨rfl, k⟩
    · rw [g] at a
      cases e : q r with
      | true => rw [e] at k; exact ⟨rfl, k⟩
      | false => rw [e] at a; exact absurd a (by decide)
end
/-! the chains, row by row -/
def zZ (q : Nat → Bool) (n : Nat) : Nat → Nat → Nat
  | 0, _ => 0
  | k + 1, r => if r = k then (if q k = true then (if k = 0 then 1 else 0) + zsu (fun a => if k.testBit a then zZ q n k (k ^^^ 2 ^ a) else 0) n else 0) else zZ q n k r
theorem zZ_s {q : Nat → Bool} {n k r : Nat} : zZ q n (k + 1) r = if r = k then (if q k = true then (if k = 0 then 1 else 0) + zsu (fun a => if k.testBit a then zZ q n k (k ^^^ 2 ^ a) else 0) n else 0) else zZ q n k r := rfl
theorem zclear_lt {k a : Nat} (h : k.testBit a = true) : k ^^^ 2 ^ a < k := by
  have e : k = (k ^^^ 2 ^ a) + 2 ^ a := by
    have h1 : (k ^^^ 2 ^ a).testBit a = false := by rw [Nat.testBit_xor, h, Nat.testBit_two_pow, decide_eq_true rfl]; rfl
    have h2 : (k ^^^ 2 ^ a) ^^^ 2 ^ a = k := by rw [Nat.xor_assoc, Nat.xor_self, Nat.xor_zero]
    have h3 : ∀ y : Nat, y.testBit a = false → y ^^^ 2 ^ a = y + 2 ^ a := fun y hy => by
      apply Nat.eq_of_testBit_eq
      intro j
      rw [Nat.testBit_xor, Nat.testBit_two_pow, Nat.add_comm]
      have hp : 0 < 2 ^ a := Nat.two_pow_pos a
      have d := Nat.div_add_mod y (2 ^ (a + 1))
      have m1 : y % 2 ^ (a + 1) < 2 ^ a := by
        have lt := Nat.mod_lt y (show 0 < 2 ^ (a + 1) from Nat.two_pow_pos _)
        have e2 : 2 ^ (a + 1) = 2 ^ a + 2 ^ a := by rw [Nat.pow_succ]; omega
        by_cases c : y % 2 ^ (a + 1) < 2 ^ a
        · exact c
        · exfalso
          have t1 : (y % 2 ^ (a + 1)).testBit a = true := by
            rw [show y % 2 ^ (a + 1) = 2 ^ a + (y % 2 ^ (a + 1) - 2 ^ a) by omega, Nat.testBit_two_pow_add_eq, Nat.testBit_lt_two_pow (by omega)]; rfl
          rw [Nat.testBit_mod_two_pow, hy, Bool.and_false] at t1
          cases t1
      by_cases c1 : j < a + 1
      · by_cases c2 : j = a
        · rw [c2, Nat.testBit_two_pow_add_eq, hy, decide_eq_true rfl]; rfl
        · rw [Nat.testBit_two_pow_add_gt (by omega), decide_eq_false (by omega), Bool.xor_false]
      · have e3 : 2 ^ a + y = 2 ^ (a + 1) * (y / 2 ^ (a + 1)) + (y % 2 ^ (a + 1) + 2 ^ a) := by omega
        have e2 : 2 ^ (a + 1) = 2 ^ a + 2 ^ a := by rw [Nat.pow_succ]; omega
        rw [e3, Nat.testBit_two_pow_mul_add _ (by omega), if_neg c1, decide_eq_false (by omega), Bool.xor_false]
        have := Nat.testBit_two_pow_mul_add (y / 2 ^ (a + 1)) (i := a + 1) (b := y % 2 ^ (a + 1)) (by omega) j
        rw [if_neg c1, d] at this
        exact this
    rw [← h3 _ h1, h2]
  have hp : 0 < 2 ^ a := Nat.two_pow_pos a
  omega
theorem zZ_stay {q : Nat → Bool} {n r : Nat} : ∀ k, r < k → zZ q n k r = zZ q n (r + 1) r := by
  intro k
  induction k with
  | zero => intro h; omega
  | succ k ih =>
    intro h
    by_cases c : r = k
    · rw [c]
    · rw [zZ_s, if_neg c]
      exact ih (by omega)
theorem zZ_rec {q : Nat → Bool} {n N row : Nat} (h : row < N) : zZ q n N row = if q row = true then (if row = 0 then 1 else 0) + zsu (fun a => if row.testBit a then zZ q n N (row ^^^ 2 ^ a) else 0) n else 0 := by
  rw [zZ_stay N h, zZ_s, if_pos rfl]
  by_cases c : q row = true
  · rw [if_pos c, if_pos c]
    congr 1
    refine zsu_congr fun a _ => ?_
    by_cases d : row.testBit a = true
    · rw [if_pos d, if_pos d]
      have lt := zclear_lt d
      rw [zZ_stay row lt, zZ_stay N (by omega)]
    · rw [if_neg d, if_neg d]
  · rw [if_neg c, if_neg c]
theorem zZ_le {q : Nat → Bool} {n N : Nat} (hn : n ≤ 7) : ∀ (b row : Nat), zones row.testBit n ≤ b → row < N → zZ q n N row ≤ 8 ^ b := by
  intro b
  induction b with
  | zero =>
    intro row hz hr
    rw [zZ_rec hr]
    by_cases c : q row = true
    · rw [if_pos c]
      have s0 : zsu (fun a => if row.testBit a then zZ q n N (row ^^^ 2 ^ a) else 0) n = 0 := by
        refine Eq.trans (zsu_congr (g := fun _ => 0) fun a ha => ?_) (zsu_0 _)
        refine if_neg fun d => ?_
        have := zsu_ge (f := fun j => if row.testBit j then 1 else 0) ha
        have e : (if row.testBit a then 1 else 0 : Nat) = 1 := if_pos d
        have hz : zsu (fun j => if row.testBit j then 1 else 0) n ≤ 0 := hz
        omega
      rw [s0]
      split <;> decide
    · rw [if_neg c]; exact Nat.zero_le _
  | succ b ih =>
    intro row hz hr
    rw [zZ_rec hr]
    by_cases c : q row = true
    · rw [if_pos c]
      have sb : zsu (fun a => if row.testBit a then zZ q n N (row ^^^ 2 ^ a) else 0) n ≤ n * 8 ^ b := zsu_bd n fun a ha => by
        show (if row.testBit a then _ else 0) ≤ _
        by_cases d : row.testBit a = true
        · rw [if_pos d]
          have lt := zclear_lt d
          refine ih _ ?_ (by omega)
          have u := zsu_upd (C := fun j => if row.testBit j then 1 else 0) (a := a) (x := 0) ha
          have u : zsu (fun o => if o = a then 0 else (fun j => if row.testBit j then 1 else 0) o) n + (if row.testBit a then 1 else 0) = zsu (fun j => if row.testBit j then 1 else 0) n + 0 := u
          have e1 : (if row.testBit a then 1 else 0 : Nat) = 1 := if_pos d
          have e2 : zones (row ^^^ 2 ^ a).testBit n = zsu (fun o => if o = a then 0 else (fun j => if row.testBit j then 1 else 0) o) n := zsu_congr fun j hj => by
            show (if (row ^^^ 2 ^ a).testBit j then 1 else 0) = if j = a then 0 else if row.testBit j then 1 else 0
            rw [Nat.testBit_xor, Nat.testBit_two_pow]
            by_cases f : j = a
            · rw [f, d, decide_eq_true rfl, if_pos rfl]; rfl
            · rw [decide_eq_false (fun z => f z.symm), Bool.xor_false, if_neg f]
          rw [e2]
          have hz : zsu (fun j => if row.testBit j then 1 else 0) n ≤ b + 1 := hz
          omega
        · rw [if_neg d]; exact Nat.zero_le _
      have p1 : 1 ≤ 8 ^ b := by rw [show 8 = 2 ^ 3 from rfl, ← Nat.pow_mul]; exact Nat.two_pow_pos _
      have p2 : n * 8 ^ b ≤ 7 * 8 ^ b := Nat.mul_le_mul_right _ hn
      have p3 : 8 ^ (b + 1) = 8 * 8 ^ b := by rw [Nat.pow_succ, Nat.mul_comm]
      split <;> omega
    · rw [if_neg c]; exact Nat.zero_le _
theorem zZ_bd {q : Nat → Bool} {n N row : Nat} (hn : n ≤ 7) (hr : row < N) : zZ q n N row ≤ 2097152 := by
  have h1 := zsu_bd (f := fun j => if row.testBit j then 1 else 0) (b := 1) n (fun i _ => by show (if _ then 1 else 0) ≤ 1; split <;> omega)
  exact zZ_le (q := q) hn 7 row (by show zsu _ n ≤ 7; omega) hr
theorem zclr_int : ∀ row : Nat, row < 128 → ∀ a : Nat, a < 7 → ziand (row : Int) (zixor (zishl 1 (a : Int)) (-1)) = ((if row.testBit a then row ^^^ 2 ^ a else row : Nat) : Int) := by decide +kernel
section
variable {X : List Int} {h : zHP} {K : Option zAV → zHP → Prop}
/-- ordersOfMarked -/
theorem cx_11 {o n : Nat} {q : Nat → Bool} (F : zFin h) (ho : zBit o) (hn : 2 ≤ n ∧ n ≤ 7) (h3 : h o 3 = (n : Int)) (M : zMK h o q) (k : ∀ h', zFin h' → zfr [o + 3] h h' → K (some (zI (zsu (fun w => if (∀ c, c ≤ n → q (zrb n (zth n w c)) = true) then 1 else 0) (zfac n) : Nat))) h') : zC X 11 [zR o] h K := by
  have h128 : 2 ^ n ≤ 128 := Nat.pow_le_pow_right (n := 2) (by decide) hn.2
  have h4 : 2 ^ 2 ≤ 2 ^ n := Nat.pow_le_pow_right (by decide) hn.1
  have no : ¬ o = o + 3 := by omega
  have e2n : zishl 1 (n : Int) = ((2 ^ n : Nat) : Int) := by
    have := zishl_n (x := 1) (k := n) (by omega) (by omega)
    rw [Nat.one_mul] at this
    exact this
  have rows : ∀ (r row : Nat) (h1 : zHP) (x2 : Int), 2 ^ n - row = r → row ≤ 2 ^ n → x2 = (row : Int) → zFin h1 → zfr [o + 3] h h1 → (∀ w, w < row → h1 (o + 3) w = (zZ q n (2 ^ n) w : Int)) → zAt X 11 9 0 0 [some (zR o), some (zI ((2 ^ n : Nat) : Int)), some (zI x2), none, none, none] [] zSHc h1 (fun v sh' h' => sh' = zSHc ∧ K v h') := by
    intro r
    induction r with
    | zero =>
      intro row h1 x2 hr hrow hx F1 fr D
      have er : row = 2 ^ n := by omega
      have kk := k h1 F1 fr
      rw [← zchain_n (P := q) (Z := zZ q n (2 ^ n)) (fun row hrow => zZ_rec hrow)] at kk
      have v := D (2 ^ n - 1) (by omega)
      have e1 : ((((2 ^ n : Nat) : Int)) - 1).toNat = 2 ^ n - 1 := by omega
      rw [← v, ← e1] at kk
      generalize 2 ^ n = P2 at *
      clear D k v
      apply sg_11_9 F1 ho <;> intros <;> (try omega)
      all_goals exact ⟨rfl, kk⟩
    | succ r ih =>
      intro row h1 x2 hr hrow hx F1 fr D
      have hrow' : row < 2 ^ n := by omega
      have e3 : h1 o 3 = (n : Int) := by rw [fr o (by simp)]; exact h3
      have M1 : zMK h1 o q := by unfold zMK; rw [fr o (by simp)]; exact M
      have zb : ∀ w, w < 2 ^ n → zZ q n (2 ^ n) w ≤ 2097152 := fun w hw => zZ_bd hn.2 hw
      have inner : ∀ (r2 a : Nat) (x3 x4 : Int), n - a = r2 → a ≤ n → x4 = (a : Int) → x3 = (((if row = 0 then 1 else 0) + zsu (fun a => if row.testBit a then zZ q n (2 ^ n) (row ^^^ 2 ^ a) else 0) a : Nat) : Int) → zAt X 11 36 0 0 [some (zR o), some (zI ((2 ^ n : Nat) : Int)), some (zI x2), some (zI x3), some (zI x4), none] [] zSHc h1 (fun v sh' h' => sh' = zSHc ∧ K v h') := by
        intro r2
        induction r2 with
        | zero =>
          intro a x3 x4 hr2 ha hx4 hx3
          have ea : a = n := by omega
          rw [ea] at hx3
          have st : ∀ c : Int, c = (zZ q n (2 ^ n) row : Int) → zAt X 11 9 0 0 [some (zR o), some (zI ((2 ^ n : Nat) : Int)), some (zI (x2 + 1)), none, none, none] [] zSHc (zup h1 (o + 3) x2.toNat c) (fun v sh' h' => sh' = zSHc ∧ K v h') := fun c hc => by
            rw [show x2.toNat = row by omega]
            refine ih (row + 1) _ _ (by omega) (by omega) (by omega) (F1.upV ho.a3) (fr.up (by simp)) fun w hw => ?_
            by_cases c1 : w = row
            · rw [c1, zup_eq]; exact hc
            · rw [zup_k c1]; exact D w (by omega)
          have zr := zZ_rec (q := q) (n := n) hrow'
          have go : zC X 10 [zR o, zI x2] h1 (fun v h9 => zAt X 11 92 0 0 [some (zR o), some (zI ((2 ^ n : Nat) : Int)), some (zI x2), some (zI x3), none, none] (zpush v [zI x2, zR (o + 3)]) zSHc h9 (fun v sh' h' => sh' = zSHc ∧ K v h')) := by
            refine cx_10 ho M1 (r := row) (by omega) hx ?_
            cases e : q row with
            | true =>
              rw [e, if_pos rfl] at zr
              exact sg_11_92c ho (fun z => absurd z (by decide)) (fun z => absurd z (by decide)) (fun z => absurd z (by decide)) (fun _ => by omega) (fun _ => by omega) (fun _ => st x3 (by rw [zr]; exact hx3))
            | false =>
              rw [e, if_neg (by decide)] at zr
              exact sg_11_92c ho (fun _ => by omega) (fun _ => by omega) (fun _ => st 0 (by rw [zr]; rfl)) (fun z => absurd rfl z) (fun z => absurd rfl z) (fun z => absurd rfl z)
          exact sg_11_36 F1 ho (fun _ => go) (fun c => by omega) (fun c => by omega) (fun c => by omega) (fun c => by omega) (fun c => by omega) (fun c => by omega) (fun c => by omega) (fun c => by omega)
        | succ r2 ih2 =>
          intro a x3 x4 hr2 ha hx4 hx3
          have ha' : a < n := by omega
          have sb : zsu (fun a => if row.testBit a then zZ q n (2 ^ n) (row ^^^ 2 ^ a) else 0) a ≤ a * 2097152 := zsu_bd a fun b _ => by
            show (if row.testBit b then _ else 0) ≤ _
            by_cases d : row.testBit b = true
            · rw [if_pos d]
              have := zclear_lt d
              exact zb _ (by omega)
            · rw [if_neg d]; exact Nat.zero_le _
          have sb2 : a * 2097152 ≤ 7 * 2097152 := Nat.mul_le_mul_right _ (by omega)
          have es : zsu (fun a => if row.testBit a then zZ q n (2 ^ n) (row ^^^ 2 ^ a) else 0) (a + 1) = zsu (fun a => if row.testBit a then zZ q n (2 ^ n) (row ^^^ 2 ^ a) else 0) a + (if row.testBit a then zZ q n (2 ^ n) (row ^^^ 2 ^ a) else 0) := rfl
          have ec : ziand x2 (zixor (zishl 1 x4) (-1)) = ((if row.testBit a then row ^^^ 2 ^ a else row : Nat) : Int) := by rw [hx, hx4]; exact zclr_int row (by omega) a (by omega)
          have b01 : (if row = 0 then 1 else 0 : Nat) ≤ 1 := by split <;> omega
          by_cases d : row.testBit a = true
          · have lt := zclear_lt d
            rw [if_pos d] at es ec
            have v := D _ lt
            have v2 : h1 (o + 3) ((ziand x2 (zixor (zishl 1 x4) (-1))).toNat) = (zZ q n (2 ^ n) (row ^^^ 2 ^ a) : Int) := by rw [ec, Int.toNat_natCast]; exact v
            have vb := zb (row ^^^ 2 ^ a) (by omega)
            have nx := ih2 (a + 1) (x3 + (h1 (o + 3) ((ziand x2 (zixor (zishl 1 x4) (-1))).toNat))) (x4 + 1) (by omega) (by omega) (by omega) (by rw [v2, es, hx3]; omega)
            generalize row ^^^ 2 ^ a = rc at *
            generalize 2 ^ n = P2 at *
            clear ih ih2 D k zb
            apply sg_11_36 F1 ho <;> intros <;> (try omega)
            all_goals exact nx
          · rw [if_neg d] at es ec
            have nx := ih2 (a + 1) x3 (x4 + 1) (by omega) (by omega) (by omega) (by rw [es, hx3, Nat.add_zero])
            clear ih ih2 D k zb
            apply sg_11_36 F1 ho <;> intros <;> (try omega)
            all_goals exact nx
      by_cases c0 : row = 0
      · have nx := inner n 0 1 0 (by omega) (by omega) rfl (by rw [if_pos c0]; rfl)
        generalize 2 ^ n = P2 at *
        clear inner ih D k zb
        apply sg_11_9 F1 ho <;> intros <;> (try omega)
        all_goals exact nx
      · have nx := inner n 0 0 0 (by omega) (by omega) rfl (by rw [if_neg c0]; rfl)
        generalize 2 ^ n = P2 at *
        clear inner ih D k zb
        apply sg_11_9 F1 ho <;> intros <;> (try omega)
        all_goals exact nx
  refine sg_11_0 ho ?_
  rw [h3, e2n]
  exact rows (2 ^ n) 0 h 0 (by omega) (by omega) rfl F zfr.rfl fun w hw => by omega
end
