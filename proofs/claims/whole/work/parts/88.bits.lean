/-! BIT ROWS AS NUMBERS; LONGS AS BIT VECTORS -/
def zrb : Nat → (Nat → Bool) → Nat
  | 0, _ => 0
  | n + 1, f => if f n then 2 ^ n + zrb n f else zrb n f
theorem zrb_lt {f : Nat → Bool} : ∀ n, zrb n f < 2 ^ n := by
  intro n
  induction n with
  | zero => exact Nat.one_pos
  | succ n ih =>
    have e : 2 ^ (n + 1) = 2 ^ n + 2 ^ n := by rw [Nat.pow_succ]; omega
    show (if f n then 2 ^ n + zrb n f else zrb n f) < _
    split <;> omega
theorem zrb_bit {f : Nat → Bool} : ∀ n j, (zrb n f).testBit j = (decide (j < n) && f j) := by
  intro n
  induction n with
  | zero =>
    intro j
    show Nat.testBit 0 j = _
    rw [Nat.zero_testBit, decide_eq_false (by omega), Bool.false_and]
  | succ n ih =>
    intro j
    have hl := zrb_lt (f := f) n
    by_cases c : n < j
    · rw [decide_eq_false (by omega), Bool.false_and]
      apply Nat.testBit_lt_two_pow
      exact Nat.lt_of_lt_of_le (zrb_lt (n + 1)) (Nat.pow_le_pow_right (by decide) c)
    · show (if f n then 2 ^ n + zrb n f else zrb n f).testBit j = _
      by_cases d : j = n
      · subst d
        rw [decide_eq_true (by omega), Bool.true_and]
        cases e : f j with
        | true => rw [if_pos rfl, Nat.testBit_two_pow_add_eq, Nat.testBit_lt_two_pow hl]; rfl
        | false => rw [if_neg (by decide), Nat.testBit_lt_two_pow hl]
      · have hj : j < n := by omega
        have e1 : decide (j < n + 1) = decide (j < n) := by rw [decide_eq_true hj, decide_eq_true (by omega)]
        rw [e1, ← ih j]
        cases e : f n with
        | true => rw [if_pos rfl, Nat.testBit_two_pow_add_gt hj]
        | false => rw [if_neg (by decide)]
theorem zrb_ext {f g : Nat → Bool} {n : Nat} (h : ∀ j, j < n → f j = g j) : zrb n f = zrb n g := by
  apply Nat.eq_of_testBit_eq
  intro j
  rw [zrb_bit, zrb_bit]
  by_cases c : j < n
  · rw [h j c]
  · rw [decide_eq_false c, Bool.false_and, Bool.false_and]
theorem zrb_eq {r n : Nat} (h : r < 2 ^ n) : zrb n r.testBit = r := by
  apply Nat.eq_of_testBit_eq
  intro j
  rw [zrb_bit]
  by_cases c : j < n
  · rw [decide_eq_true c, Bool.true_and]
  · rw [decide_eq_false c, Bool.false_and, Nat.testBit_lt_two_pow (Nat.lt_of_lt_of_le h (Nat.pow_le_pow_right (by decide) (by omega)))]
/-- a long of these bits -/
def zV (x : Nat) : Int := (BitVec.ofNat 64 x).toInt
def zB (p : Nat → Bool) : Int := zV (zrb 64 p)
theorem zV_ofInt (x : Nat) : (Int64.ofInt (zV x)).toBitVec = BitVec.ofNat 64 x := by
  show BitVec.ofInt 64 (BitVec.ofNat 64 x).toInt = _
  exact BitVec.ofInt_toInt
theorem zV_n {x : Nat} (h : x < 9223372036854775808) : (x : Int) = zV x := (zbv64 h).symm
theorem zV_and (x y : Nat) : zland (zV x) (zV y) = zV (x &&& y) := by
  show (Int64.ofInt (zV x) &&& Int64.ofInt (zV y)).toBitVec.toInt = _
  rw [Int64.toBitVec_and, zV_ofInt, zV_ofInt, zbvand]
  rfl
theorem zV_or (x y : Nat) : zlor (zV x) (zV y) = zV (x ||| y) := by
  show (Int64.ofInt (zV x) ||| Int64.ofInt (zV y)).toBitVec.toInt = _
  rw [Int64.toBitVec_or, zV_ofInt, zV_ofInt, zbvor]
  rfl
theorem zV_xor (x y : Nat) : zlxor (zV x) (zV y) = zV (x ^^^ y) := by
  show (Int64.ofInt (zV x) ^^^ Int64.ofInt (zV y)).toBitVec.toInt = _
  rw [Int64.toBitVec_xor, zV_ofInt, zV_ofInt, zbvxor]
  rfl
theorem zV_add (x y : Nat) : zwl (zV x + zV y) = zV (x + y) := by
  show Int.bmod ((BitVec.ofNat 64 x).toInt + (BitVec.ofNat 64 y).toInt) (2 ^ 64) = _
  rw [← BitVec.toInt_add, ← BitVec.ofNat_add]
  rfl
theorem zV_sub {x y : Nat} (h : y ≤ x) : zwl (zV x - zV y) = zV (x - y) := by
  have e := zV_add (x - y) y
  rw [show x - y + y = x by omega] at e
  have e0 : zV 0 = 0 := by decide
  rw [← e]
  show Int.bmod (Int.bmod (zV (x - y) + zV y) 18446744073709551616 - zV y) 18446744073709551616 = _
  rw [Int.bmod_sub_bmod, show zV (x - y) + zV y - zV y = zV (x - y) + zV 0 by omega]
  exact zV_add (x - y) 0
theorem zV_shr {x : Nat} (hx : x < 18446744073709551616) {k : Nat} (hk : k < 64) : zlushr (zV x) (k : Int) = zV (x / 2 ^ k) := by
  unfold zlushr
  show ((Int64.ofInt (zV x)).toUInt64 >>> ((Int32.ofInt (k : Int)).toInt64.toUInt64 &&& Int64.toUInt64 63)).toBitVec.toInt = _
  have h5 : ∀ k : Nat, k < 64 → (((Int32.ofInt (k : Int)).toInt64.toUInt64 &&& Int64.toUInt64 63).toBitVec % (64 : BitVec 64)) = BitVec.ofNat 64 k := by decide +kernel
  rw [UInt64.toBitVec_shiftRight, h5 k hk]
  show ((Int64.ofInt (zV x)).toBitVec >>> BitVec.ofNat 64 k).toInt = _
  rw [zV_ofInt]
  have e : BitVec.ofNat 64 x >>> BitVec.ofNat 64 k = BitVec.ofNat 64 (x / 2 ^ k) := by
    apply BitVec.eq_of_toNat_eq
    have h2 : x / 2 ^ k ≤ x := Nat.div_le_self _ _
    rw [BitVec.ushiftRight_eq', BitVec.toNat_ushiftRight, BitVec.toNat_ofNat, BitVec.toNat_ofNat, BitVec.toNat_ofNat, Nat.mod_eq_of_lt (show k < 2 ^ 64 by omega), Nat.shiftRight_eq_div_pow, Nat.mod_eq_of_lt (show x < 2 ^ 64 by omega), Nat.mod_eq_of_lt (show x / 2 ^ k < 2 ^ 64 by omega)]
  rw [e]
  rfl
theorem zV_mod (x : Nat) : zV (x % 2 ^ 64) = zV x := by
  unfold zV
  congr 1
  apply BitVec.eq_of_toNat_eq
  rw [BitVec.toNat_ofNat, BitVec.toNat_ofNat, Nat.mod_mod]
theorem zV_zero {x : Nat} (hx : x < 2 ^ 64) : zV x = 0 ↔ x = 0 := by
  constructor
  · intro h
    have e : BitVec.ofNat 64 x = BitVec.ofNat 64 0 := BitVec.eq_of_toInt_eq (h.trans (by decide))
    have := congrArg BitVec.toNat e
    rw [BitVec.toNat_ofNat, BitVec.toNat_ofNat, Nat.mod_eq_of_lt hx] at this
    exact this
  · intro h
    rw [h]
    decide
theorem zB_ext {p q : Nat → Bool} (h : ∀ r, r < 64 → p r = q r) : zB p = zB q := by
  unfold zB
  rw [zrb_ext h]
theorem zB_and (p q : Nat → Bool) : zland (zB p) (zB q) = zB (fun r => p r && q r) := by
  unfold zB
  rw [zV_and]
  congr 1
  apply Nat.eq_of_testBit_eq
  intro j
  rw [Nat.testBit_and, zrb_bit, zrb_bit, zrb_bit]
  cases decide (j < 64) <;> simp
theorem zB_or (p q : Nat → Bool) : zlor (zB p) (zB q) = zB (fun r => p r || q r) := by
  unfold zB
  rw [zV_or]
  congr 1
  apply Nat.eq_of_testBit_eq
  intro j
  rw [Nat.testBit_or, zrb_bit, zrb_bit, zrb_bit]
  cases decide (j < 64) <;> simp
theorem zB_xor (p q : Nat → Bool) : zlxor (zB p) (zB q) = zB (fun r => Bool.xor (p r) (q r)) := by
  unfold zB
  rw [zV_xor]
  congr 1
  apply Nat.eq_of_testBit_eq
  intro j
  rw [Nat.testBit_xor, zrb_bit, zrb_bit, zrb_bit]
  cases decide (j < 64) <;> simp
theorem zB_one : (-1 : Int) = zB (fun _ => true) := by decide +kernel
theorem zB_nil : (0 : Int) = zB (fun _ => false) := by decide +kernel
theorem zB_not (p : Nat → Bool) : zlxor (zB p) (-1) = zB (fun r => !p r) := by
  rw [zB_one, zB_xor]
  exact zB_ext fun r _ => by cases p r <;> rfl
theorem zB_0 {p : Nat → Bool} : zB p = 0 ↔ ∀ r, r < 64 → p r = false := by
  unfold zB
  rw [zV_zero (zrb_lt 64)]
  constructor
  · intro h r hr
    have := zrb_bit (f := p) 64 r
    rw [h, Nat.zero_testBit, decide_eq_true hr, Bool.true_and] at this
    exact this.symm
  · intro h
    apply Nat.eq_of_testBit_eq
    intro j
    rw [zrb_bit, Nat.zero_testBit]
    by_cases c : j < 64
    · rw [h j c, Bool.and_false]
    · rw [decide_eq_false c, Bool.false_and]
theorem zB_get {p : Nat → Bool} {k : Nat} (hk : k < 64) : zland (zlushr (zB p) (k : Int)) 1 = if p k then 1 else 0 := by
  unfold zB
  rw [zV_shr (zrb_lt 64) hk, show (1 : Int) = zV 1 from by decide, zV_and, Nat.and_one_is_mod]
  have e : zrb 64 p / 2 ^ k % 2 = (if p k then 1 else 0) := by
    have := zrb_bit (f := p) 64 k
    rw [decide_eq_true hk, Bool.true_and, Nat.testBit_eq_decide_div_mod_eq] at this
    cases c : p k with
    | true => rw [c] at this; rw [if_pos rfl]; exact of_decide_eq_true this
    | false =>
      rw [c] at this
      rw [if_neg (by decide)]
      have h1 := of_decide_eq_false this
      omega
  rw [e]
  cases p k with
  | true => exact (by decide : zV 1 = 1)
  | false => exact (by decide : zV 0 = 0)
theorem zB_pat {l : Nat} (hl : l < 6) (X : List Int) : zCk X 1001 l = zB (fun r => r.testBit l) := by
  have e : zCk X 1001 l = zPat.getD l 0 := rfl
  have d : ∀ l : Nat, l < 6 → zPat.getD l 0 = zB (fun r => r.testBit l) := by decide +kernel
  rw [e]
  exact d l hl
theorem zB_low {n : Nat} (hn : 2 ≤ n ∧ n ≤ 5) : zlshl 1 (zishl 1 (n : Int)) - 1 = zB (fun r => decide (r < 2 ^ n)) := by
  have : n = 2 ∨ n = 3 ∨ n = 4 ∨ n = 5 := by omega
  rcases this with e | e | e | e <;> subst e <;> decide +kernel
