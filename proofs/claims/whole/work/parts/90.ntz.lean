/-! THE FIRST BIT THAT IS SET -/
def zV3 (x : Nat) : Int := (BitVec.ofNat 32 x).toInt
theorem zw_V (y : Nat) : zw (zV y) = zV3 y := by
  unfold zw zV zV3
  rw [BitVec.toInt_ofNat', BitVec.toInt_ofNat', Int.bmod_bmod_of_dvd (by decide)]
theorem zV3_mod (x : Nat) : zV3 (x % 2 ^ 32) = zV3 x := by
  unfold zV3
  congr 1
  apply BitVec.eq_of_toNat_eq
  rw [BitVec.toNat_ofNat, BitVec.toNat_ofNat, Nat.mod_mod]
theorem zV3_ofInt (x : Nat) : (Int32.ofInt (zV3 x)).toBitVec = BitVec.ofNat 32 x := by
  show BitVec.ofInt 32 (BitVec.ofNat 32 x).toInt = _
  exact BitVec.ofInt_toInt
theorem zV3_and (x y : Nat) : ziand (zV3 x) (zV3 y) = zV3 (x &&& y) := by
  show (Int32.ofInt (zV3 x) &&& Int32.ofInt (zV3 y)).toBitVec.toInt = _
  rw [Int32.toBitVec_and, zV3_ofInt, zV3_ofInt, zbvand]
  rfl
theorem zV3_or (x y : Nat) : zior (zV3 x) (zV3 y) = zV3 (x ||| y) := by
  show (Int32.ofInt (zV3 x) ||| Int32.ofInt (zV3 y)).toBitVec.toInt = _
  rw [Int32.toBitVec_or, zV3_ofInt, zV3_ofInt, zbvor]
  rfl
theorem zV3_xor (x y : Nat) : zixor (zV3 x) (zV3 y) = zV3 (x ^^^ y) := by
  show (Int32.ofInt (zV3 x) ^^^ Int32.ofInt (zV3 y)).toBitVec.toInt = _
  rw [Int32.toBitVec_xor, zV3_ofInt, zV3_ofInt, zbvxor]
  rfl
theorem zV3_add (x y : Nat) : zw (zV3 x + zV3 y) = zV3 (x + y) := by
  show Int.bmod ((BitVec.ofNat 32 x).toInt + (BitVec.ofNat 32 y).toInt) (2 ^ 32) = _
  rw [← BitVec.toInt_add, ← BitVec.ofNat_add]
  rfl
theorem zV3_sub {x y : Nat} (h : y ≤ x) : zw (zV3 x - zV3 y) = zV3 (x - y) := by
  have e := zV3_add (x - y) y
  rw [show x - y + y = x by omega] at e
  have e0 : zV3 0 = 0 := by decide
  rw [← e]
  show Int.bmod (Int.bmod (zV3 (x - y) + zV3 y) 4294967296 - zV3 y) 4294967296 = _
  rw [Int.bmod_sub_bmod, show zV3 (x - y) + zV3 y - zV3 y = zV3 (x - y) + zV3 0 by omega]
  exact zV3_add (x - y) 0
theorem zV3_n {x : Nat} (h : x < 2147483648) : zV3 x = (x : Int) := zbv32 h
theorem zV3_zero {x : Nat} (hx : x < 2 ^ 32) : zV3 x = 0 ↔ x = 0 := by
  constructor
  · intro h
    have e : BitVec.ofNat 32 x = BitVec.ofNat 32 0 := BitVec.eq_of_toInt_eq (h.trans (by decide))
    have := congrArg BitVec.toNat e
    rw [BitVec.toNat_ofNat, BitVec.toNat_ofNat, Nat.mod_eq_of_lt hx] at this
    exact this
  · intro h
    rw [h]
    decide
theorem zlow_bit {x t : Nat} (hx : x < 2 ^ 32) (ht : t < 32) (h1 : x.testBit t = true) (h0 : ∀ r, r < t → x.testBit r = false) : (x ^^^ 4294967295) &&& (x - 1) = 2 ^ t - 1 := by
  have em : x % 2 ^ (t + 1) = 2 ^ t := by
    apply Nat.eq_of_testBit_eq
    intro j
    rw [Nat.testBit_mod_two_pow, Nat.testBit_two_pow]
    by_cases c : j < t
    · rw [h0 j c, Bool.and_false, decide_eq_false (by omega)]
    · by_cases d : j = t
      · rw [d, h1, decide_eq_true (by omega), decide_eq_true rfl]; rfl
      · rw [decide_eq_false (by omega), Bool.false_and, decide_eq_false (by omega)]
  have hp : 0 < 2 ^ t := Nat.two_pow_pos t
  have e2 : 2 ^ (t + 1) = 2 ^ t + 2 ^ t := by rw [Nat.pow_succ]; omega
  have ex : x = 2 ^ (t + 1) * (x / 2 ^ (t + 1)) + 2 ^ t := by
    have := Nat.div_add_mod x (2 ^ (t + 1))
    rw [em] at this
    exact this.symm
  have ex1 : x - 1 = 2 ^ (t + 1) * (x / 2 ^ (t + 1)) + (2 ^ t - 1) := by omega
  have b1 : ∀ j, (x - 1).testBit j = if j < t + 1 then (2 ^ t - 1).testBit j else (x / 2 ^ (t + 1)).testBit (j - (t + 1)) := fun j => by
    rw [ex1]
    exact Nat.testBit_two_pow_mul_add _ (by omega) j
  have b0 : ∀ j, x.testBit j = if j < t + 1 then (2 ^ t).testBit j else (x / 2 ^ (t + 1)).testBit (j - (t + 1)) := fun j => by
    have := Nat.testBit_two_pow_mul_add (x / 2 ^ (t + 1)) (i := t + 1) (b := 2 ^ t) (by omega) j
    rw [← ex] at this
    exact this
  have bo : ∀ j, (4294967295 : Nat).testBit j = decide (j < 32) := fun j => Nat.testBit_two_pow_sub_one 32 j
  apply Nat.eq_of_testBit_eq
  intro j
  rw [Nat.testBit_and, Nat.testBit_xor, bo, Nat.testBit_two_pow_sub_one]
  by_cases c : j < t
  · rw [h0 j c, b1, if_pos (by omega), Nat.testBit_two_pow_sub_one, decide_eq_true (show j < 32 by omega), decide_eq_true c]; rfl
  · rw [decide_eq_false c]
    by_cases d : j = t
    · rw [d, h1, decide_eq_true ht]; rfl
    · by_cases c32 : j < 32
      · rw [b0, b1, if_neg (by omega), if_neg (by omega), decide_eq_true c32]
        cases (x / 2 ^ (t + 1)).testBit (j - (t + 1)) <;> rfl
      · rw [Nat.testBit_lt_two_pow (Nat.lt_of_lt_of_le hx (Nat.pow_le_pow_right (by decide) (by omega))), decide_eq_false c32]; rfl
def zn4 (a b m : Int) : Int := if 4 < m then zw (b + ziushr (ziushr m 2) 1) else zw (a + ziushr m 1)
def zn16 (a b c d m : Int) : Int := if 16 < m then zn4 c d (ziushr m 4) else zn4 a b m
def znt (m : Int) : Int := if 0 < m then (if 65536 < m then (if 256 < ziushr m 16 then zn16 25 27 29 31 (ziushr (ziushr m 16) 8) else zn16 17 19 21 23 (ziushr m 16)) else (if 256 < m then zn16 9 11 13 15 (ziushr m 8) else zn16 1 3 5 7 m)) else ziand m 32
theorem znt_all : ∀ t : Nat, t < 32 → znt (((2 ^ t - 1 : Nat)) : Int) = (t : Int) := by decide +kernel
section
variable {X : List Int} {h : zHP} {K : Option zAV → zHP → Prop}
theorem zp_328a {x : Int} (k : K (some (zI (znt (ziand (zixor x (-1)) (zw (x - 1)))))) h) : zC X 328 [zI x] h K := by
  unfold znt zn16 zn4 at k
  apply sg_328_0 <;> intros <;> refine ⟨rfl, ?_⟩ <;> (repeat (first | rw [if_pos (by omega)] at k | rw [if_neg (by omega)] at k)) <;> exact k
/-- Integer.numberOfTrailingZeros -/
theorem zp_328 {x t : Nat} (hx : x < 2 ^ 32) (ht : t < 32) (h1 : x.testBit t = true) (h0 : ∀ r, r < t → x.testBit r = false) (k : K (some (zI (t : Int))) h) : zC X 328 [zI (zV3 x)] h K := by
  refine zp_328a ?_
  have hx1 : 1 ≤ x := by
    by_cases c : x = 0
    · rw [c, Nat.zero_testBit] at h1; cases h1
    · omega
  have hp : 2 ^ t ≤ 2 ^ 31 := Nat.pow_le_pow_right (by decide) (by omega)
  have hp0 : 0 < 2 ^ t := Nat.two_pow_pos t
  rw [show (-1 : Int) = zV3 4294967295 from by decide, zV3_xor, show (1 : Int) = zV3 1 from by decide, zV3_sub hx1, zV3_and, zlow_bit hx ht h1 h0, zV3_n (by omega), znt_all t ht]
  exact k
/-- Long.numberOfTrailingZeros -/
theorem zp_329 {x t : Nat} (hx : x < 2 ^ 64) (ht : t < 64) (h1 : x.testBit t = true) (h0 : ∀ r, r < t → x.testBit r = false) (k : K (some (zI (t : Int))) h) : zC X 329 [zL (zV x)] h K := by
  have e1 : zw (zV x) = zV3 (x % 2 ^ 32) := by rw [zw_V, zV3_mod]
  have hm : x % 2 ^ 32 < 2 ^ 32 := Nat.mod_lt _ (by decide)
  have bm : ∀ r, (x % 2 ^ 32).testBit r = (decide (r < 32) && x.testBit r) := fun r => Nat.testBit_mod_two_pow x 32 r
  by_cases c : t < 32
  · have nz : ¬ zw (zV x) = 0 := fun z => by
      rw [e1, zV3_zero hm] at z
      have := bm t
      rw [z, Nat.zero_testBit, h1, decide_eq_true c] at this
      cases this
    refine sg_329_0 (fun _ => ?_) (fun z => absurd z nz)
    rw [e1]
    exact zp_328 hm c (by rw [bm, h1, decide_eq_true c]; rfl) (fun r hr => by rw [bm, h0 r hr, Bool.and_false]) (sg_329_25c ⟨rfl, k⟩)
  · have z0 : zw (zV x) = 0 := by
      rw [e1, zV3_zero hm]
      apply Nat.eq_of_testBit_eq
      intro r
      rw [bm, Nat.zero_testBit]
      by_cases d : r < 32
      · rw [h0 r (by omega), Bool.and_false]
      · rw [decide_eq_false d, Bool.false_and]
    refine sg_329_0 (fun z => absurd z0 z) (fun _ => ?_)
    have e2 : zw (zlushr (zV x) 32) = zV3 (x / 2 ^ 32) := by
      have := zV_shr (x := x) hx (k := 32) (by decide)
      rw [show ((32 : Nat) : Int) = 32 from rfl] at this
      rw [this, zw_V]
    have bd : ∀ r, (x / 2 ^ 32).testBit r = x.testBit (32 + r) := fun r => by rw [← Nat.shiftRight_eq_div_pow, Nat.testBit_shiftRight]
    have hd : x / 2 ^ 32 < 2 ^ 32 := by
      rw [Nat.div_lt_iff_lt_mul (by decide)]
      exact hx
    rw [e2]
    refine zp_328 (t := t - 32) hd (by omega) (by rw [bd, show 32 + (t - 32) = t by omega]; exact h1) (fun r hr => by rw [bd]; exact h0 _ (by omega)) (sg_329_17c ⟨rfl, ?_⟩)
    rw [zw_id (by omega) (by omega), show (32 : Int) + ((t - 32 : Nat) : Int) = (t : Int) by omega]
    exact k
end
