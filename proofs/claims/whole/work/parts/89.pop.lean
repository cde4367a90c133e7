/-! HOW MANY BITS ARE SET -/
def zpc (x : Nat) : Nat → Nat := zsu (fun r => if x.testBit r then 1 else 0)
def zM (c : Nat) : Nat → Nat
  | 0 => 0
  | w + 1 => c + 256 * zM c w
theorem zand2 {p q r s : Nat} (hp : p < 256) (hr : r < 256) : (p + 256 * q) &&& (r + 256 * s) = (p &&& r) + 256 * (q &&& s) := by
  have e : ∀ a b : Nat, a < 256 → ∀ j, (a + 256 * b).testBit j = if j < 8 then a.testBit j else b.testBit (j - 8) := fun a b ha j => by
    rw [Nat.add_comm]
    exact Nat.testBit_two_pow_mul_add b (i := 8) ha j
  have hpr : p &&& r < 256 := Nat.lt_of_le_of_lt Nat.and_le_left hp
  apply Nat.eq_of_testBit_eq
  intro j
  rw [Nat.testBit_and, e p q hp, e r s hr, e _ _ hpr]
  by_cases c : j < 8
  · rw [if_pos c, if_pos c, if_pos c, Nat.testBit_and]
  · rw [if_neg c, if_neg c, if_neg c, Nat.testBit_and]
def zg1 (a : Nat) : Nat := a - (a / 2 &&& 85)
def zg2 (a : Nat) : Nat := (a &&& 51) + (a / 4 &&& 51)
def zA1 (w x : Nat) : Nat := x - (x / 2 &&& zM 85 w)
def zA2 (w x : Nat) : Nat := (x &&& zM 51 w) + (x / 4 &&& zM 51 w)
def zA3 (w x : Nat) : Nat := (x + x / 16) &&& zM 15 w
theorem zk1 : ∀ a, a < 256 → ∀ b, b < 2 → (a / 2 + 128 * b) &&& 85 = a / 2 &&& 85 := by decide +kernel
theorem zk2 : ∀ a, a < 256 → ∀ b, b < 4 → (a / 4 + 64 * b) &&& 51 = a / 4 &&& 51 := by decide +kernel
theorem zk3 : ∀ a, a < 256 → zg1 a < 256 ∧ zg2 (zg1 a) < 69 ∧ zg2 (zg1 a) % 16 < 5 ∧ ∀ t, t < 5 → (zg2 (zg1 a) + zg2 (zg1 a) / 16 + 16 * t) &&& 15 = zpc a 8 := by decide +kernel
theorem zk4 : ∀ a, a < 256 → zpc a 8 < 9 := by decide +kernel
theorem zA1_s {w a y : Nat} (ha : a < 256) : zA1 (w + 1) (a + 256 * y) = zg1 a + 256 * zA1 w y := by
  unfold zA1 zg1
  show a + 256 * y - ((a + 256 * y) / 2 &&& (85 + 256 * zM 85 w)) = _
  have e : (a + 256 * y) / 2 = (a / 2 + 128 * (y % 2)) + 256 * (y / 2) := by omega
  rw [e, zand2 (by omega) (by omega), zk1 a ha _ (Nat.mod_lt _ (by decide))]
  have h1 : (a / 2 &&& 85) ≤ a / 2 := Nat.and_le_left
  have h2 : (y / 2 &&& zM 85 w) ≤ y / 2 := Nat.and_le_left
  omega
theorem zA2_s {w a y : Nat} (ha : a < 256) : zA2 (w + 1) (a + 256 * y) = zg2 a + 256 * zA2 w y := by
  unfold zA2 zg2
  show ((a + 256 * y) &&& (51 + 256 * zM 51 w)) + ((a + 256 * y) / 4 &&& (51 + 256 * zM 51 w)) = _
  have e : (a + 256 * y) / 4 = (a / 4 + 64 * (y % 4)) + 256 * (y / 4) := by omega
  rw [e, zand2 ha (by omega), zand2 (by omega) (by omega), zk2 a ha _ (Nat.mod_lt _ (by decide))]
  omega
theorem zA3_s {w a y : Nat} (ha : a < 256) (hs : a + a / 16 + 16 * (y % 16) < 256) : zA3 (w + 1) (a + 256 * y) = ((a + a / 16 + 16 * (y % 16)) &&& 15) + 256 * zA3 w y := by
  unfold zA3
  show ((a + 256 * y) + (a + 256 * y) / 16) &&& (15 + 256 * zM 15 w) = _
  have e : (a + 256 * y) + (a + 256 * y) / 16 = (a + a / 16 + 16 * (y % 16)) + 256 * (y + y / 16) := by omega
  rw [e, zand2 hs (by omega)]
/-- the counts of the bytes -/
def zCb : Nat → Nat → Nat
  | 0, _ => 0
  | w + 1, x => zpc (x % 256) 8 + 256 * zCb w (x / 256)
theorem zCb_all : ∀ w x, x < 256 ^ w → zA3 w (zA2 w (zA1 w x)) = zCb w x ∧ zA2 w (zA1 w x) % 16 < 5 := by
  intro w
  induction w with
  | zero =>
    intro x hx
    have : x = 0 := by have := hx; rw [Nat.pow_zero] at this; omega
    subst this
    exact ⟨rfl, by decide⟩
  | succ w ih =>
    intro x hx
    have hy : x / 256 < 256 ^ w := by rw [Nat.pow_succ] at hx; omega
    obtain ⟨i1, i2⟩ := ih (x / 256) hy
    have ha : x % 256 < 256 := Nat.mod_lt _ (by decide)
    obtain ⟨k1, k2, k3, k4⟩ := zk3 _ ha
    have ex : x = x % 256 + 256 * (x / 256) := by omega
    have e1 : zA1 (w + 1) x = zg1 (x % 256) + 256 * zA1 w (x / 256) := by rw [← zA1_s ha, ← ex]
    have e2 : zA2 (w + 1) (zA1 (w + 1) x) = zg2 (zg1 (x % 256)) + 256 * zA2 w (zA1 w (x / 256)) := by rw [e1, zA2_s k1]
    refine ⟨?_, by rw [e2]; omega⟩
    rw [e2, zA3_s (by omega) (by omega), k4 _ i2, i1]
    rfl
theorem zpc_bytes : ∀ w x, zpc x (8 * w) = zsu (fun i => zpc (x / 256 ^ i % 256) 8) w := by
  intro w
  induction w with
  | zero => intro x; rfl
  | succ w ih =>
    intro x
    show zpc x (8 * w + 8) = _ + zpc (x / 256 ^ w % 256) 8
    rw [← ih]
    show zsu (fun r => if x.testBit r then 1 else 0) (8 * w + 8) = _
    rw [zsu_split]
    congr 1
    show _ = zsu (fun r => if (x / 256 ^ w % 256).testBit r then 1 else 0) 8
    refine zsu_congr fun i hi => ?_
    have e : (x / 256 ^ w % 256).testBit i = x.testBit (8 * w + i) := by
      rw [show (256 : Nat) = 2 ^ 8 from rfl, Nat.testBit_mod_two_pow, decide_eq_true hi, Bool.true_and, ← Nat.pow_mul, ← Nat.shiftRight_eq_div_pow, Nat.testBit_shiftRight]
    rw [e]
theorem zCb_8 (x : Nat) : ∃ c0 c1 c2 c3 c4 c5 c6 c7 : Nat, c0 < 9 ∧ c1 < 9 ∧ c2 < 9 ∧ c3 < 9 ∧ c4 < 9 ∧ c5 < 9 ∧ c6 < 9 ∧ c7 < 9 ∧ zCb 8 x = c0 + 256 * (c1 + 256 * (c2 + 256 * (c3 + 256 * (c4 + 256 * (c5 + 256 * (c6 + 256 * c7)))))) ∧ zpc x 64 = c0 + c1 + c2 + c3 + c4 + c5 + c6 + c7 := by
  have b : ∀ y, zpc (y % 256) 8 < 9 := fun y => zk4 _ (Nat.mod_lt _ (by decide))
  refine ⟨zpc (x % 256) 8, zpc (x / 256 % 256) 8, zpc (x / 256 / 256 % 256) 8, zpc (x / 256 / 256 / 256 % 256) 8, zpc (x / 256 / 256 / 256 / 256 % 256) 8, zpc (x / 256 / 256 / 256 / 256 / 256 % 256) 8, zpc (x / 256 / 256 / 256 / 256 / 256 / 256 % 256) 8, zpc (x / 256 / 256 / 256 / 256 / 256 / 256 / 256 % 256) 8, b _, b _, b _, b _, b _, b _, b _, b _, rfl, ?_⟩
  have e := zpc_bytes 8 x
  have d : ∀ i, x / 256 ^ (i + 1) = x / 256 ^ i / 256 := fun i => by rw [Nat.pow_succ, Nat.div_div_eq_div_mul]
  have d0 : x / 256 ^ 0 = x := by rw [Nat.pow_zero, Nat.div_one]
  show zpc x (8 * 8) = _
  rw [e]
  show 0 + zpc (x / 256 ^ 0 % 256) 8 + zpc (x / 256 ^ 1 % 256) 8 + zpc (x / 256 ^ 2 % 256) 8 + zpc (x / 256 ^ 3 % 256) 8 + zpc (x / 256 ^ 4 % 256) 8 + zpc (x / 256 ^ 5 % 256) 8 + zpc (x / 256 ^ 6 % 256) 8 + zpc (x / 256 ^ 7 % 256) 8 = _
  rw [d 6, d 5, d 4, d 3, d 2, d 1, d 0, d0, Nat.zero_add]
theorem zdv1 {a q : Nat} (h : a < 256) : (a + 256 * q) / 256 = q := by omega
theorem zdv2 {a b q : Nat} (h : a < 256) (h2 : b < 256) : (a + 256 * (b + 256 * q)) / 65536 = q := by
  rw [show 65536 = 256 * 256 from rfl, ← Nat.div_div_eq_div_mul, zdv1 h, zdv1 h2]
theorem zdv4 {a b c d q : Nat} (h : a < 256) (h2 : b < 256) (h3 : c < 256) (h4 : d < 256) : (a + 256 * (b + 256 * (c + 256 * (d + 256 * q)))) / 4294967296 = q := by
  rw [show 4294967296 = 65536 * 65536 from rfl, ← Nat.div_div_eq_div_mul, zdv2 h h2, zdv2 h3 h4]
theorem zpe1 {c0 c1 c2 x1 x2 x3 : Nat} (e1 : x1 = c1 + 256 * x2) (e2 : x2 = c2 + 256 * x3) : c0 + 256 * x1 + x1 = (c0 + c1) + 256 * ((c1 + c2) + 256 * (x2 + x3)) := by omega
theorem zpe2 {a0 a1 a2 a3 x0 x1 x2 x3 x4 : Nat} (e0 : x0 = a0 + 256 * x1) (e1 : x1 = a1 + 256 * x2) (e2 : x2 = a2 + 256 * x3) (e3 : x3 = a3 + 256 * x4) : x0 + x1 + x2 + x3 = (a0 + a1 + a2 + a3) + 256 * (x1 + x2 + x3 + x4) := by omega
theorem zpe3 {s0 s4 y1 y5 : Nat} (h : s0 + s4 < 128) : ((s0 + 256 * y1) + (s4 + 256 * y5)) % 128 = s0 + s4 := by omega
theorem zpop_end {c0 c1 c2 c3 c4 c5 c6 c7 c d e f : Nat} (h0 : c0 < 9) (h1 : c1 < 9) (h2 : c2 < 9) (h3 : c3 < 9) (h4 : c4 < 9) (h5 : c5 < 9) (h6 : c6 < 9) (h7 : c7 < 9) (ec : c = c0 + 256 * (c1 + 256 * (c2 + 256 * (c3 + 256 * (c4 + 256 * (c5 + 256 * (c6 + 256 * c7))))))) (ed : d = c + c / 256) (ee : e = d + d / 65536) (ef : f = e + e / 4294967296) : f % 128 = c0 + c1 + c2 + c3 + c4 + c5 + c6 + c7 ∧ d < 18446744073709551616 ∧ e < 18446744073709551616 := by
  have b7 : c7 < 100 := by omega
  obtain ⟨x6, e6⟩ : ∃ x, x = c6 + 256 * c7 := ⟨_, rfl⟩
  rw [← e6] at ec
  have b6 : x6 < 10000 := by clear ec ed ee ef; omega
  obtain ⟨x5, e5⟩ : ∃ x, x = c5 + 256 * x6 := ⟨_, rfl⟩
  rw [← e5] at ec
  have b5 : x5 < 3000000 := by clear ec ed ee ef; omega
  obtain ⟨x4, e4⟩ : ∃ x, x = c4 + 256 * x5 := ⟨_, rfl⟩
  rw [← e4] at ec
  have b4 : x4 < 1000000000 := by clear ec ed ee ef; omega
  obtain ⟨x3, e3⟩ : ∃ x, x = c3 + 256 * x4 := ⟨_, rfl⟩
  rw [← e3] at ec
  have b3 : x3 < 300000000000 := by clear ec ed ee ef; omega
  obtain ⟨x2, e2⟩ : ∃ x, x = c2 + 256 * x3 := ⟨_, rfl⟩
  rw [← e2] at ec
  have b2 : x2 < 100000000000000 := by clear ec ed ee ef; omega
  obtain ⟨x1, e1⟩ : ∃ x, x = c1 + 256 * x2 := ⟨_, rfl⟩
  rw [← e1] at ec
  have b1 : x1 < 30000000000000000 := by clear ec ed ee ef; omega
  have e7 : c7 = c7 + 256 * 0 := by omega
  have q1 : c / 256 = x1 := by rw [ec]; exact zdv1 (by clear ec ed ee ef e1 e2 e3 e4 e5 e6; omega)
  rw [q1, ec] at ed
  have d2 : d = (c0 + c1) + 256 * ((c1 + c2) + 256 * (x2 + x3)) := ed.trans (zpe1 e1 e2)
  have q2 : d / 65536 = x2 + x3 := by rw [d2]; exact zdv2 (by clear ec ed ee ef d2 e1 e2 e3 e4 e5 e6; omega) (by clear ec ed ee ef d2 e1 e2 e3 e4 e5 e6; omega)
  rw [q2, ed] at ee
  have y0 : e = (c0 + c1 + c2 + c3) + 256 * (x1 + x2 + x3 + x4) := by
    have := zpe2 (x0 := c0 + 256 * x1) rfl e1 e2 e3
    rw [← this, ee, Nat.add_assoc (c0 + 256 * x1 + x1)]
  have y1 := zpe2 e1 e2 e3 e4
  have y2 := zpe2 e2 e3 e4 e5
  have y3 := zpe2 e3 e4 e5 e6
  have y4 := zpe2 e4 e5 e6 e7
  have q3 : e / 4294967296 = x4 + x5 + x6 + c7 := by
    rw [y0, y1, y2, y3]
    clear ec ed ee ef d2 e1 e2 e3 e4 e5 e6 y0 y1 y2 y3 y4 q1 q2
    exact zdv4 (by omega) (by omega) (by omega) (by omega)
  rw [q3, y0, y4] at ef
  refine ⟨?_, ?_, ?_⟩
  · rw [ef, zpe3 (by clear ec ed ee ef d2 e1 e2 e3 e4 e5 e6 y0 y1 y2 y3 y4 q1 q2 q3; omega)]
    omega
  · rw [ed]
    clear ec ed ee ef d2 e1 e2 e3 e4 e5 e6 y0 y1 y2 y3 y4 q1 q2 q3
    omega
  · rw [y0]
    clear ec ed ee ef d2 e1 e2 e3 e4 e5 e6 y0 y1 y2 y3 y4 q1 q2 q3
    omega
theorem zM_vals : zM 85 8 = 6148914691236517205 ∧ zM 51 8 = 3689348814741910323 ∧ zM 15 8 = 1085102592571150095 := by decide
theorem zB_pc (p : Nat → Bool) : zpc (zrb 64 p) 64 = zsu (fun r => if p r then 1 else 0) 64 := zsu_congr fun r hr => by
  rw [zrb_bit, decide_eq_true hr, Bool.true_and]
section
variable {X : List Int} {h : zHP} {K : Option zAV → zHP → Prop}
theorem zp_330a {x a b c d e f : Int} (ea : a = zwl (x - zland (zlushr x 1) 6148914691236517205)) (eb : b = zwl (zland a 3689348814741910323 + zland (zlushr a 2) 3689348814741910323)) (ec : c = zland (zwl (b + zlushr b 4)) 1085102592571150095) (ed : d = zwl (c + zlushr c 8)) (ee : e = zwl (d + zlushr d 16)) (ef : f = zwl (e + zlushr e 32)) (k : K (some (zI (ziand (zw f) 127))) h) : zC X 330 [zL x] h K := by
  subst ef
  subst ee
  subst ed
  subst ec
  subst eb
  subst ea
  exact sg_330_0 ⟨rfl, k⟩
end
theorem zk55 : (6148914691236517205 : Int) = zV 6148914691236517205 := zV_n (by decide)
theorem zk33 : (3689348814741910323 : Int) = zV 3689348814741910323 := zV_n (by decide)
theorem zk0f : (1085102592571150095 : Int) = zV 1085102592571150095 := zV_n (by decide)
theorem zlow7 (y : Nat) : ziand (zw (zV y)) 127 = ((y % 128 : Nat) : Int) := by
  have z := zcod (zw (zV y)) 7 (by decide)
  refine Eq.trans z ?_
  show zw (zV y) % 128 = _
  unfold zw zV
  rw [BitVec.toInt_ofNat', Int.bmod_bmod_of_dvd (by decide)]
  have := Int.bmod_def (y : Int) 4294967296
  rw [this]
  split <;> omega
section
variable {X : List Int} {h : zHP} {K : Option zAV → zHP → Prop}
/-- Long.bitCount -/
theorem zp_330 {x : Nat} (hx : x < 18446744073709551616) (k : K (some (zI (zpc x 64 : Int))) h) : zC X 330 [zL (zV x)] h K := by
  obtain ⟨m1, m2, m3⟩ := zM_vals
  obtain ⟨a1, -⟩ := zCb_all 8 x hx
  obtain ⟨c0, c1, c2, c3, c4, c5, c6, c7, h0, h1, h2, h3, h4, h5, h6, h7, ec, ep⟩ := zCb_8 x
  have q1 : zA1 8 x = x - (x / 2 &&& 6148914691236517205) := by unfold zA1; rw [m1]
  have l1 : (x / 2 &&& 6148914691236517205) ≤ x := Nat.le_trans Nat.and_le_left (Nat.div_le_self _ _)
  have b1 : zA1 8 x < 18446744073709551616 := by rw [q1]; exact Nat.lt_of_le_of_lt (Nat.sub_le _ _) hx
  generalize zA1 8 x = A1 at *
  have q2 : zA2 8 A1 = (A1 &&& 3689348814741910323) + (A1 / 4 &&& 3689348814741910323) := by unfold zA2; rw [m2]
  have b2 : zA2 8 A1 < 18446744073709551616 := by
    rw [q2]
    have l2 : (A1 &&& 3689348814741910323) ≤ 3689348814741910323 := Nat.and_le_right
    have l3 : (A1 / 4 &&& 3689348814741910323) ≤ 3689348814741910323 := Nat.and_le_right
    exact Nat.lt_of_le_of_lt (Nat.add_le_add l2 l3) (by decide)
  generalize zA2 8 A1 = A2 at *
  have q3 : zA3 8 A2 = (A2 + A2 / 16) &&& 1085102592571150095 := by unfold zA3; rw [m3]
  have b3 : zA3 8 A2 < 18446744073709551616 := by
    rw [q3]
    exact Nat.lt_of_le_of_lt Nat.and_le_right (by decide)
  generalize zA3 8 A2 = A3 at *
  obtain ⟨g1, g2, g3⟩ := zpop_end (c := A3) h0 h1 h2 h3 h4 h5 h6 h7 (a1.trans ec) rfl rfl rfl
  refine zp_330a (a := zV A1) (b := zV A2) (c := zV A3) (d := zV (A3 + A3 / 256)) (e := zV (A3 + A3 / 256 + (A3 + A3 / 256) / 65536)) (f := zV (A3 + A3 / 256 + (A3 + A3 / 256) / 65536 + (A3 + A3 / 256 + (A3 + A3 / 256) / 65536) / 4294967296)) ?_ ?_ ?_ ?_ ?_ ?_ ?_
  · have s := zV_shr hx (k := 1) (by decide)
    rw [show ((1 : Nat) : Int) = 1 from rfl] at s
    rw [s, zk55, zV_and, zV_sub l1, q1]
  · have s := zV_shr b1 (k := 2) (by decide)
    rw [show ((2 : Nat) : Int) = 2 from rfl] at s
    rw [s, zk33, zV_and, zV_and, zV_add, q2]
  · have s := zV_shr b2 (k := 4) (by decide)
    rw [show ((4 : Nat) : Int) = 4 from rfl] at s
    rw [s, zk0f, zV_add, zV_and, q3]
  · have s := zV_shr b3 (k := 8) (by decide)
    rw [show ((8 : Nat) : Int) = 8 from rfl] at s
    rw [s, zV_add]
  · have s := zV_shr g2 (k := 16) (by decide)
    rw [show ((16 : Nat) : Int) = 16 from rfl] at s
    rw [s, zV_add]
  · have s := zV_shr g3 (k := 32) (by decide)
    rw [show ((32 : Nat) : Int) = 32 from rfl] at s
    rw [s, zV_add]
  · rw [zlow7, g1, ← ep]
    exact k
end
