/-! INT AND LONG OPERATIONS OVER NATURAL NUMBERS -/
theorem zbm32 {x : Nat} (h : x < 2147483648) : Int.bmod (x : Int) (2 ^ 32) = (x : Int) := by
  rw [Int.bmod_eq_of_le]
  · omega
  · omega
theorem zbm64 {x : Nat} (h : x < 9223372036854775808) : Int.bmod (x : Int) (2 ^ 64) = (x : Int) := by
  rw [Int.bmod_eq_of_le]
  · omega
  · omega
theorem zbv32 {x : Nat} (h : x < 2147483648) : (BitVec.ofNat 32 x).toInt = (x : Int) := by rw [BitVec.toInt_ofNat']; exact zbm32 h
theorem zbv64 {x : Nat} (h : x < 9223372036854775808) : (BitVec.ofNat 64 x).toInt = (x : Int) := by rw [BitVec.toInt_ofNat']; exact zbm64 h
theorem zi_bv (x : Nat) : (Int32.ofInt (x : Int)).toBitVec = BitVec.ofNat 32 x := by
  show BitVec.ofInt 32 (x : Int) = _
  rw [BitVec.ofInt_natCast]
theorem zl_bv (x : Nat) : (Int64.ofInt (x : Int)).toBitVec = BitVec.ofNat 64 x := by
  show BitVec.ofInt 64 (x : Int) = _
  rw [BitVec.ofInt_natCast]
theorem zbvand {w x y : Nat} : BitVec.ofNat w x &&& BitVec.ofNat w y = BitVec.ofNat w (x &&& y) := by
  apply BitVec.eq_of_toNat_eq
  rw [BitVec.toNat_and, BitVec.toNat_ofNat, BitVec.toNat_ofNat, BitVec.toNat_ofNat, Nat.and_mod_two_pow]
theorem zbvor {w x y : Nat} : BitVec.ofNat w x ||| BitVec.ofNat w y = BitVec.ofNat w (x ||| y) := by
  apply BitVec.eq_of_toNat_eq
  rw [BitVec.toNat_or, BitVec.toNat_ofNat, BitVec.toNat_ofNat, BitVec.toNat_ofNat, Nat.or_mod_two_pow]
theorem zbvxor {w x y : Nat} : BitVec.ofNat w x ^^^ BitVec.ofNat w y = BitVec.ofNat w (x ^^^ y) := by
  apply BitVec.eq_of_toNat_eq
  rw [BitVec.toNat_xor, BitVec.toNat_ofNat, BitVec.toNat_ofNat, BitVec.toNat_ofNat, Nat.xor_mod_two_pow]
theorem ziand_n {x y : Nat} (hx : x < 2147483648) : ziand (x : Int) (y : Int) = ((x &&& y : Nat) : Int) := by
  unfold ziand
  show (Int32.ofInt (x : Int) &&& Int32.ofInt (y : Int)).toBitVec.toInt = _
  rw [Int32.toBitVec_and, zi_bv, zi_bv, zbvand]
  exact zbv32 (Nat.lt_of_le_of_lt Nat.and_le_left hx)
theorem zior_n {x y : Nat} (hx : x < 2147483648) (hy : y < 2147483648) : zior (x : Int) (y : Int) = ((x ||| y : Nat) : Int) := by
  unfold zior
  show (Int32.ofInt (x : Int) ||| Int32.ofInt (y : Int)).toBitVec.toInt = _
  rw [Int32.toBitVec_or, zi_bv, zi_bv, zbvor]
  exact zbv32 (Nat.or_lt_two_pow (n := 31) hx hy)
theorem zixor_n {x y : Nat} (hx : x < 2147483648) (hy : y < 2147483648) : zixor (x : Int) (y : Int) = ((x ^^^ y : Nat) : Int) := by
  unfold zixor
  show (Int32.ofInt (x : Int) ^^^ Int32.ofInt (y : Int)).toBitVec.toInt = _
  rw [Int32.toBitVec_xor, zi_bv, zi_bv, zbvxor]
  exact zbv32 (Nat.xor_lt_two_pow (n := 31) hx hy)
theorem zlxor_n {x y : Nat} (hx : x < 9223372036854775808) (hy : y < 9223372036854775808) : zlxor (x : Int) (y : Int) = ((x ^^^ y : Nat) : Int) := by
  unfold zlxor
  show (Int64.ofInt (x : Int) ^^^ Int64.ofInt (y : Int)).toBitVec.toInt = _
  rw [Int64.toBitVec_xor, zl_bv, zl_bv, zbvxor]
  exact zbv64 (Nat.xor_lt_two_pow (n := 63) hx hy)
theorem zlor_n {x y : Nat} (hx : x < 9223372036854775808) (hy : y < 9223372036854775808) : zlor (x : Int) (y : Int) = ((x ||| y : Nat) : Int) := by
  unfold zlor
  show (Int64.ofInt (x : Int) ||| Int64.ofInt (y : Int)).toBitVec.toInt = _
  rw [Int64.toBitVec_or, zl_bv, zl_bv, zbvor]
  exact zbv64 (Nat.or_lt_two_pow (n := 63) hx hy)
theorem zland_n {x y : Nat} (hx : x < 9223372036854775808) : zland (x : Int) (y : Int) = ((x &&& y : Nat) : Int) := by
  unfold zland
  show (Int64.ofInt (x : Int) &&& Int64.ofInt (y : Int)).toBitVec.toInt = _
  rw [Int64.toBitVec_and, zl_bv, zl_bv, zbvand]
  exact zbv64 (Nat.lt_of_le_of_lt Nat.and_le_left hx)
theorem zsh32 : ∀ k : Nat, k < 32 → ((Int32.ofInt (k : Int) &&& 31).toBitVec.smod (32 : BitVec 32)) = BitVec.ofNat 32 k := by decide +kernel
theorem zsh64 : ∀ k : Nat, k < 64 → (((Int32.ofInt (k : Int)).toInt64 &&& 63).toBitVec.smod (64 : BitVec 64)) = BitVec.ofNat 64 k := by decide +kernel
theorem zishl_n {x k : Nat} (hk : k < 32) (h : x * 2 ^ k < 2147483648) : zishl (x : Int) (k : Int) = ((x * 2 ^ k : Nat) : Int) := by
  unfold zishl
  show (Int32.ofInt (x : Int) <<< (Int32.ofInt (k : Int) &&& 31)).toBitVec.toInt = _
  rw [Int32.toBitVec_shiftLeft, zi_bv, zsh32 k hk]
  have e : BitVec.ofNat 32 x <<< BitVec.ofNat 32 k = BitVec.ofNat 32 (x * 2 ^ k) := by
    apply BitVec.eq_of_toNat_eq
    rw [BitVec.shiftLeft_eq', BitVec.toNat_shiftLeft, BitVec.toNat_ofNat, BitVec.toNat_ofNat, BitVec.toNat_ofNat, Nat.mod_eq_of_lt (show k < 2 ^ 32 by omega), Nat.shiftLeft_eq, Nat.mod_mul_mod]
  rw [e]
  exact zbv32 h
theorem zlshl_n {x k : Nat} (hk : k < 64) (h : x * 2 ^ k < 9223372036854775808) : zlshl (x : Int) (k : Int) = ((x * 2 ^ k : Nat) : Int) := by
  unfold zlshl
  show (Int64.ofInt (x : Int) <<< ((Int32.ofInt (k : Int)).toInt64 &&& 63)).toBitVec.toInt = _
  rw [Int64.toBitVec_shiftLeft, zl_bv, zsh64 k hk]
  have e : BitVec.ofNat 64 x <<< BitVec.ofNat 64 k = BitVec.ofNat 64 (x * 2 ^ k) := by
    apply BitVec.eq_of_toNat_eq
    rw [BitVec.shiftLeft_eq', BitVec.toNat_shiftLeft, BitVec.toNat_ofNat, BitVec.toNat_ofNat, BitVec.toNat_ofNat, Nat.mod_eq_of_lt (show k < 2 ^ 64 by omega), Nat.shiftLeft_eq, Nat.mod_mul_mod]
  rw [e]
  exact zbv64 h
theorem zishr_n {x k : Nat} (hk : k < 32) (hx : x < 2147483648) : zishr (x : Int) (k : Int) = ((x / 2 ^ k : Nat) : Int) := by
  unfold zishr
  show (Int32.ofInt (x : Int) >>> (Int32.ofInt (k : Int) &&& 31)).toBitVec.toInt = _
  rw [Int32.toBitVec_shiftRight, zi_bv, zsh32 k hk]
  show (BitVec.sshiftRight (BitVec.ofNat 32 x) (BitVec.ofNat 32 k).toNat).toInt = _
  rw [BitVec.toInt_sshiftRight, zbv32 hx, BitVec.toNat_ofNat, Nat.mod_eq_of_lt (show k < 2 ^ 32 by omega), Int.shiftRight_eq_div_pow]
  norm_cast
theorem ziushr_n {x k : Nat} (hk : k < 32) (hx : x < 2147483648) : ziushr (x : Int) (k : Int) = ((x / 2 ^ k : Nat) : Int) := by
  unfold ziushr
  show ((Int32.ofInt (x : Int)).toUInt32 >>> ((Int32.ofInt (k : Int)).toUInt32 &&& Int32.toUInt32 31)).toBitVec.toInt = _
  have h5 : ∀ k : Nat, k < 32 → (((Int32.ofInt (k : Int)).toUInt32 &&& Int32.toUInt32 31).toBitVec % (32 : BitVec 32)) = BitVec.ofNat 32 k := by decide +kernel
  rw [UInt32.toBitVec_shiftRight, h5 k hk]
  show (BitVec.ofInt 32 (x : Int) >>> BitVec.ofNat 32 k).toInt = _
  rw [BitVec.ofInt_natCast]
  have e : BitVec.ofNat 32 x >>> BitVec.ofNat 32 k = BitVec.ofNat 32 (x / 2 ^ k) := by
    apply BitVec.eq_of_toNat_eq
    have h2 : x / 2 ^ k ≤ x := Nat.div_le_self _ _
    rw [BitVec.ushiftRight_eq', BitVec.toNat_ushiftRight, BitVec.toNat_ofNat, BitVec.toNat_ofNat, BitVec.toNat_ofNat, Nat.mod_eq_of_lt (show k < 2 ^ 32 by omega), Nat.shiftRight_eq_div_pow, Nat.mod_eq_of_lt (show x < 2 ^ 32 by omega), Nat.mod_eq_of_lt (show x / 2 ^ k < 2 ^ 32 by omega)]
  rw [e]
  exact zbv32 (Nat.lt_of_le_of_lt (Nat.div_le_self _ _) hx)
theorem zlushr_n {x k : Nat} (hk : k < 64) (hx : x < 9223372036854775808) : zlushr (x : Int) (k : Int) = ((x / 2 ^ k : Nat) : Int) := by
  unfold zlushr
  show ((Int64.ofInt (x : Int)).toUInt64 >>> ((Int32.ofInt (k : Int)).toInt64.toUInt64 &&& Int64.toUInt64 63)).toBitVec.toInt = _
  have h5 : ∀ k : Nat, k < 64 → (((Int32.ofInt (k : Int)).toInt64.toUInt64 &&& Int64.toUInt64 63).toBitVec % (64 : BitVec 64)) = BitVec.ofNat 64 k := by decide +kernel
  rw [UInt64.toBitVec_shiftRight, h5 k hk]
  show (BitVec.ofInt 64 (x : Int) >>> BitVec.ofNat 64 k).toInt = _
  rw [BitVec.ofInt_natCast]
  have e : BitVec.ofNat 64 x >>> BitVec.ofNat 64 k = BitVec.ofNat 64 (x / 2 ^ k) := by
    apply BitVec.eq_of_toNat_eq
    have h2 : x / 2 ^ k ≤ x := Nat.div_le_self _ _
    rw [BitVec.ushiftRight_eq', BitVec.toNat_ushiftRight, BitVec.toNat_ofNat, BitVec.toNat_ofNat, BitVec.toNat_ofNat, Nat.mod_eq_of_lt (show k < 2 ^ 64 by omega), Nat.shiftRight_eq_div_pow, Nat.mod_eq_of_lt (show x < 2 ^ 64 by omega), Nat.mod_eq_of_lt (show x / 2 ^ k < 2 ^ 64 by omega)]
  rw [e]
  exact zbv64 (Nat.lt_of_le_of_lt (Nat.div_le_self _ _) hx)
theorem ziand_m {x : Nat} (k : Nat) (hx : x < 2147483648) : ziand (x : Int) ((2 ^ k - 1 : Nat) : Int) = ((x % 2 ^ k : Nat) : Int) := by
  rw [ziand_n hx, Nat.and_two_pow_sub_one_eq_mod]
theorem ziand_1 {x : Nat} (hx : x < 2147483648) : ziand (x : Int) 1 = ((x % 2 : Nat) : Int) := ziand_m 1 hx
theorem ziand_3 {x : Nat} (hx : x < 2147483648) : ziand (x : Int) 3 = ((x % 4 : Nat) : Int) := ziand_m 2 hx
theorem ziand_7 {x : Nat} (hx : x < 2147483648) : ziand (x : Int) 7 = ((x % 8 : Nat) : Int) := ziand_m 3 hx
/-- the unsigned shift by one -/
theorem ziushr_1 (x : Int) : 0 ≤ ziushr x 1 ∧ ziushr x 1 < 2147483648 := by
  unfold ziushr
  have h5 : (((Int32.ofInt 1).toUInt32 &&& Int32.toUInt32 31).toBitVec % (32 : BitVec 32)) = BitVec.ofNat 32 1 := by decide +kernel
  have e : ((Int32.ofInt x).toUInt32 >>> ((Int32.ofInt 1).toUInt32 &&& Int32.toUInt32 31)).toInt32.toInt = (BitVec.ofInt 32 x >>> BitVec.ofNat 32 1).toInt := by
    show ((Int32.ofInt x).toUInt32 >>> ((Int32.ofInt 1).toUInt32 &&& Int32.toUInt32 31)).toBitVec.toInt = _
    rw [UInt32.toBitVec_shiftRight, h5]
    rfl
  rw [e]
  have h1 : (BitVec.ofInt 32 x >>> BitVec.ofNat 32 1).toNat < 2147483648 := by
    rw [BitVec.ushiftRight_eq', BitVec.toNat_ushiftRight, Nat.shiftRight_eq_div_pow]
    have := (BitVec.ofInt 32 x).isLt
    have e1 : (BitVec.ofNat 32 1).toNat = 1 := rfl
    rw [e1]
    omega
  rw [BitVec.toInt_eq_toNat_of_lt (by omega)]
  omega
/-- or of parts that lie apart -/
theorem zor_add {a b : Nat} (k : Nat) (hb : b < 2 ^ k) : b ||| a * 2 ^ k = b + a * 2 ^ k := by
  rw [Nat.or_comm, Nat.mul_comm, ← Nat.two_pow_add_eq_or_of_lt hb, Nat.add_comm]
