/-! whole numbers and the machine's -/
def z32 (x : Int) : Prop := -2147483648 ≤ x ∧ x < 2147483648
def z64 (x : Int) : Prop := -9223372036854775808 ≤ x ∧ x < 9223372036854775808
theorem zi_to {x : Int} (h : z32 x) : (Int32.ofInt x).toInt = x := by
  rw [Int32.toInt_ofInt]
  have := h.1
  have := h.2
  show Int.bmod x 4294967296 = x
  rw [Int.bmod_def]
  omega
theorem zl_to {x : Int} (h : z64 x) : (Int64.ofInt x).toInt = x := by
  rw [Int64.toInt_ofInt]
  have := h.1
  have := h.2
  show Int.bmod x 18446744073709551616 = x
  rw [Int.bmod_def]
  omega
theorem zw_r (x : Int) : z32 (zw x) := by
  unfold zw z32
  rw [Int.bmod_def]
  omega
theorem zwl_r (x : Int) : z64 (zwl x) := by
  unfold zwl z64
  rw [Int.bmod_def]
  omega
theorem zw_id {x : Int} (h1 : -2147483648 ≤ x) (h2 : x < 2147483648) : zw x = x := by
  unfold zw
  rw [Int.bmod_def]
  omega
theorem zwl_id {x : Int} (h1 : -9223372036854775808 ≤ x) (h2 : x < 9223372036854775808) : zwl x = x := by
  unfold zwl
  rw [Int.bmod_def]
  omega
theorem z32_i (x : Int32) : z32 x.toInt := ⟨by have := Int32.le_toInt x; simpa using this, by have := Int32.toInt_lt x; simpa using this⟩
theorem z64_l (x : Int64) : z64 x.toInt := ⟨by have := Int64.le_toInt x; simpa using this, by have := Int64.toInt_lt x; simpa using this⟩
theorem zi_eq {x : Int32} {y : Int} (h : x.toInt = zw y) : x = Int32.ofInt y := by
  rw [← Int32.toInt_inj, Int32.toInt_ofInt, h]
  rfl
theorem zl_eq {x : Int64} {y : Int} (h : x.toInt = zwl y) : x = Int64.ofInt y := by
  rw [← Int64.toInt_inj, Int64.toInt_ofInt, h]
  rfl
theorem zi_w (x : Int) : Int32.ofInt (zw x) = Int32.ofInt x := zi_eq (by rw [zi_to (zw_r x)])
theorem zl_w (x : Int) : Int64.ofInt (zwl x) = Int64.ofInt x := zl_eq (by rw [zl_to (zwl_r x)])
theorem zi_of (x : Int32) : Int32.ofInt x.toInt = x := Int32.ofInt_toInt x
theorem zl_of (x : Int64) : Int64.ofInt x.toInt = x := Int64.ofInt_toInt x
theorem zi_add (x y : Int) : Int32.ofInt x + Int32.ofInt y = Int32.ofInt (zw (x + y)) := by rw [zi_w, Int32.ofInt_add]
theorem zi_sub (x y : Int) : Int32.ofInt x - Int32.ofInt y = Int32.ofInt (zw (x - y)) := by rw [zi_w, Int32.ofInt_sub]
theorem zi_mul (x y : Int) : Int32.ofInt x * Int32.ofInt y = Int32.ofInt (zw (x * y)) := by rw [zi_w, Int32.ofInt_mul]
theorem zi_neg (x : Int) : -Int32.ofInt x = Int32.ofInt (zw (-x)) := by rw [zi_w, Int32.ofInt_neg]
theorem zl_add (x y : Int) : Int64.ofInt x + Int64.ofInt y = Int64.ofInt (zwl (x + y)) := by rw [zl_w, Int64.ofInt_add]
theorem zl_sub (x y : Int) : Int64.ofInt x - Int64.ofInt y = Int64.ofInt (zwl (x - y)) := by rw [zl_w, Int64.ofInt_sub]
theorem zl_mul (x y : Int) : Int64.ofInt x * Int64.ofInt y = Int64.ofInt (zwl (x * y)) := by rw [zl_w, Int64.ofInt_mul]
theorem zi_lt {x y : Int} (hx : z32 x) (hy : z32 y) : Int32.ofInt x < Int32.ofInt y ↔ x < y := by rw [Int32.lt_iff_toInt_lt, zi_to hx, zi_to hy]
theorem zi_le {x y : Int} (hx : z32 x) (hy : z32 y) : Int32.ofInt x ≤ Int32.ofInt y ↔ x ≤ y := by rw [Int32.le_iff_toInt_le, zi_to hx, zi_to hy]
theorem zi_e {x y : Int} (hx : z32 x) (hy : z32 y) : Int32.ofInt x = Int32.ofInt y ↔ x = y := by rw [← Int32.toInt_inj, zi_to hx, zi_to hy]
theorem zl_lt {x y : Int} (hx : z64 x) (hy : z64 y) : Int64.ofInt x < Int64.ofInt y ↔ x < y := by rw [Int64.lt_iff_toInt_lt, zl_to hx, zl_to hy]
theorem zl_e {x y : Int} (hx : z64 x) (hy : z64 y) : Int64.ofInt x = Int64.ofInt y ↔ x = y := by rw [← Int64.toInt_inj, zl_to hx, zl_to hy]
theorem zi_0 : (0 : Int32) = Int32.ofInt 0 := rfl
theorem z32_0 : z32 0 := ⟨by decide, by decide⟩
theorem zi_div {x y : Int} (hx : z32 x) (hy : z32 y) : Int32.ofInt x / Int32.ofInt y = Int32.ofInt (zw (Int.tdiv x y)) := by
  refine zi_eq ?_
  rw [Int32.toInt_div, zi_to hx, zi_to hy, zw]
  show Int.bmod _ _ = Int.bmod (Int.bmod _ _) _
  rw [Int.bmod_bmod]
theorem zi_rem {x y : Int} (hx : z32 x) (hy : z32 y) : Int32.ofInt x - Int32.ofInt x / Int32.ofInt y * Int32.ofInt y = Int32.ofInt (Int.tmod x y) := by
  rw [zi_div hx hy, zi_w, ← Int32.ofInt_mul, ← Int32.ofInt_sub]
  congr 1
  have := Int.tmod_add_tdiv_mul x y
  omega
theorem zi_rem_r {x y : Int} (hx : z32 x) (hy : z32 y) : z32 (Int.tmod x y) := by
  by_cases h0 : y = 0
  · subst h0; rw [Int.tmod_zero]; exact hx
  · have h1 := Int.emod_nonneg x h0
    rcases Int.le_total 0 x with h | h
    · have a := Int.tmod_nonneg y h
      have b : Int.tmod x y ≤ x := by
        have e := Int.natAbs_tmod x y
        have g := Nat.mod_le x.natAbs y.natAbs
        omega
      exact ⟨by have := hx.1; omega, by have := hx.2; omega⟩
    · have e : Int.tmod x y = -(Int.tmod (-x) y) := by rw [Int.neg_tmod]; omega
      have h' : 0 ≤ -x := by omega
      have a := Int.tmod_nonneg y h'
      have b : Int.tmod (-x) y ≤ -x := by
        have e := Int.natAbs_tmod (-x) y
        have g := Nat.mod_le (-x).natAbs y.natAbs
        omega
      rw [e]
      exact ⟨by have := hx.1; omega, by have := hx.2; omega⟩
theorem zi_i2l {x : Int} (hx : z32 x) : (Int32.ofInt x).toInt64 = Int64.ofInt x := by
  refine zl_eq ?_
  rw [Int32.toInt_toInt64, zi_to hx, zwl_id (by have := hx.1; omega) (by have := hx.2; omega)]
theorem zi_l2i {x : Int} (hx : z64 x) : (Int64.ofInt x).toInt32 = Int32.ofInt (zw x) := by
  rw [zi_w]
  refine zi_eq ?_
  rw [Int64.toInt_toInt32, zl_to hx]
  rfl
theorem zi_i2b {x : Int} (hx : z32 x) : (Int32.ofInt x).toInt8.toInt32 = Int32.ofInt (Int.bmod x 256) := by
  refine zi_eq ?_
  rw [Int8.toInt_toInt32, Int32.toInt_toInt8, zi_to hx, zw_id (by rw [Int.bmod_def]; omega) (by rw [Int.bmod_def]; omega)]
theorem zi_i2s {x : Int} (hx : z32 x) : (Int32.ofInt x).toInt16.toInt32 = Int32.ofInt (Int.bmod x 65536) := by
  refine zi_eq ?_
  rw [Int16.toInt_toInt32, Int32.toInt_toInt16, zi_to hx, zw_id (by rw [Int.bmod_def]; omega) (by rw [Int.bmod_def]; omega)]
theorem zi_i2c {x : Int} (hx : z32 x) : ((Int32.ofInt x).toUInt32 % 65536).toInt32 = Int32.ofInt (x % 65536) := by
  rw [pk_char]
  have e : (Int32.ofInt x).toBitVec.toNat % 2 ^ 16 = (x % 65536).toNat := by
    have h1 : (Int32.ofInt x).toBitVec = BitVec.ofInt 32 x := rfl
    rw [h1, BitVec.toNat_ofInt]
    omega
  show nI ((Int32.ofInt x).toBitVec.toNat % 65536) = _
  rw [show (65536 : Nat) = 2 ^ 16 from rfl, e]
  refine zi_eq ?_
  rw [nI_toInt (by omega), zw_id (by omega) (by omega)]
  omega
theorem zi_cmp {x y : Int} (hx : z64 x) (hy : z64 y) : lg_cmp (Int64.ofInt x) (Int64.ofInt y) = Int32.ofInt (if y < x then 1 else if x = y then 0 else -1) := by
  unfold lg_cmp
  by_cases a : y < x
  · rw [if_pos a, if_pos ((zl_lt hy hx).mpr a)]; rfl
  · rw [if_neg a, if_neg (fun z => a ((zl_lt hy hx).mp z))]
    by_cases b : x = y
    · rw [if_pos b, if_pos ((zl_e hx hy).mpr b)]; rfl
    · rw [if_neg b, if_neg (fun z => b ((zl_e hx hy).mp z))]; rfl
theorem zi_in {k : Int} {n : Nat} (h : z32 k) (h0 : 0 ≤ k) (h1 : k < (n : Int)) : vp_in (Int32.ofInt k) n := vp_in_iff.mpr (by rw [zi_to h]; exact ⟨h0, h1⟩)
theorem zi_cl {k : Int} (h : z32 k) : (Int32.ofInt k).toNatClampNeg = k.toNat := by
  show (Int32.ofInt k).toInt.toNat = k.toNat
  rw [zi_to h]
theorem zi_nat {n : Nat} (h : n < 2147483648) : Int32.ofNat n = Int32.ofInt (n : Int) := by
  refine zi_eq ?_
  rw [zw_id (by omega) (by omega)]
  exact nI_toInt h
theorem zi_b8 {n : Int} (h1 : -128 ≤ n) (h2 : n ≤ 127) : (Int8.ofInt n).toInt32 = Int32.ofInt n := by
  refine zi_eq ?_
  rw [Int8.toInt_toInt32, Int8.toInt_ofInt, zw_id (by omega) (by omega)]
  show Int.bmod n 256 = n
  rw [Int.bmod_def]
  omega
theorem zi_b16 {n : Int} (h1 : -32768 ≤ n) (h2 : n ≤ 32767) : (Int16.ofInt n).toInt32 = Int32.ofInt n := by
  refine zi_eq ?_
  rw [Int16.toInt_toInt32, Int16.toInt_ofInt, zw_id (by omega) (by omega)]
  show Int.bmod n 65536 = n
  rw [Int.bmod_def]
  omega
