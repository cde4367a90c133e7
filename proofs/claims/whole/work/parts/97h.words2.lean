/-! SLIDES AND TURNS OF WORDS, WORDS AS NUMBERS -/
theorem zrkv_from {n v b : Nat} {f g : Nat → Nat} (e : zrkv n v f b = zrkv n v g b) (h : ∀ j, b ≤ j → f j = g j) : ∀ i, b ≤ i → zrkv n v f i = zrkv n v g i := by
  intro i
  induction i with
  | zero =>
    intro hi
    rw [Nat.le_zero.mp hi] at e
    exact e
  | succ i ih =>
    intro hi
    by_cases c : b = i + 1
    · rw [← c]; exact e
    · show zrn n (f i) _ = zrn n (g i) _
      rw [ih (by omega), h i (by omega)]
def zsw (f : Nat → Nat) (a : Nat) : Nat → Nat := fun j => if j = a then f (a + 1) else if j = a + 1 then f a else f j
def ztw (f : Nat → Nat) (a : Nat) : Nat → Nat := fun j => if j = a then f (a + 1) else if j = a + 1 then f a else if j = a + 2 then f (a + 1) else f j
theorem zsw_ok {n v m a : Nat} {f : Nat → Nat} (hv : v < zfac n) (V : zvw n v f m) (ha : a + 1 < m) (d : f a + 1 < f (a + 1) ∨ f (a + 1) + 1 < f a) : zvw n v (zsw f a) m := by
  obtain ⟨p1, p2⟩ := V.2 a (by omega)
  obtain ⟨q1, q2⟩ := V.2 (a + 1) ha
  have ho : zrkv n v f a < zfac n := zrkv_lt hv a fun j hj => (V.2 j (by omega)).1
  have ga : zsw f a a = f (a + 1) := if_pos rfl
  have gb : zsw f a (a + 1) = f a := by unfold zsw; rw [if_neg (by omega), if_pos rfl]
  have gc : ∀ j, j ≠ a → j ≠ a + 1 → zsw f a j = f j := fun j h1 h2 => by unfold zsw; rw [if_neg h1, if_neg h2]
  have e0 : ∀ j, j ≤ a → zrkv n v (zsw f a) j = zrkv n v f j := fun j hj => zrkv_congr j fun i hi => gc i (by omega) (by omega)
  have e1 : zrkv n v (zsw f a) (a + 1) = zrn n (f (a + 1)) (zrkv n v f a) := by
    show zrn n (zsw f a a) (zrkv n v (zsw f a) a) = _
    rw [ga, e0 a (Nat.le_refl _)]
  have e2 : zrkv n v (zsw f a) (a + 2) = zrkv n v f (a + 2) := by
    show zrn n (zsw f a (a + 1)) (zrkv n v (zsw f a) (a + 1)) = zrn n (f (a + 1)) (zrn n (f a) (zrkv n v f a))
    rw [gb, e1]
    exact zrn_far ho q1 p1 (by omega)
  have q2 : zp n (zrn n (f a) (zrkv n v f a)) (f (a + 1) + 1) < zp n (zrn n (f a) (zrkv n v f a)) (f (a + 1)) := q2
  rw [zrp2 (v := f (a + 1) + 1) ho p1 (by omega) (by omega) (by omega), zrp2 (v := f (a + 1)) ho p1 (by omega) (by omega) (by omega)] at q2
  refine ⟨V.1, fun j hj => ?_⟩
  by_cases c1 : j < a
  · rw [e0 j (by omega), gc j (by omega) (by omega)]; exact V.2 j hj
  · by_cases c2 : j = a
    · rw [c2, ga, e0 a (Nat.le_refl _)]; exact ⟨q1, q2⟩
    · by_cases c3 : j = a + 1
      · rw [c3, gb, e1, zrp2 (v := f a + 1) ho q1 (by omega) (by omega) (by omega), zrp2 (v := f a) ho q1 (by omega) (by omega) (by omega)]
        exact ⟨p1, p2⟩
      · rw [gc j c2 c3, zrkv_from e2 (fun i hi => gc i (by omega) (by omega)) j (by omega)]; exact V.2 j hj
theorem ztn_two {n x y o : Nat} (ho : o < zfac n) (hx : x + 2 ≤ n) (hy : y + 2 ≤ n) (d : y = x + 1 ∨ x = y + 1) (h1 : zp n o (x + 1) < zp n o x) (h2 : zp n (zrn n x o) (y + 1) < zp n (zrn n x o) y) (h3 : zp n (zrn n y (zrn n x o)) (x + 1) < zp n (zrn n y (zrn n x o)) x) : zp n o (y + 1) < zp n o y ∧ zp n (zrn n y o) (x + 1) < zp n (zrn n y o) x ∧ zp n (zrn n x (zrn n y o)) (y + 1) < zp n (zrn n x (zrn n y o)) y ∧ zrn n y (zrn n x (zrn n y o)) = zrn n x (zrn n y (zrn n x o)) := by
  rcases d with d | d
  · subst d
    obtain ⟨a, b, c⟩ := (ztn_up ho (show x + 3 ≤ n by omega)).mp ⟨h1, h2, h3⟩
    exact ⟨a, b, c, (zrn_near ho (by omega)).symm⟩
  · subst d
    obtain ⟨a, b, c⟩ := (ztn_up ho (show y + 3 ≤ n by omega)).mpr ⟨h1, h2, h3⟩
    exact ⟨a, b, c, zrn_near ho (by omega)⟩
theorem ztw_ok {n v m a : Nat} {f : Nat → Nat} (hv : v < zfac n) (V : zvw n v f m) (ha : a + 2 < m) (e : f (a + 2) = f a) (d : f (a + 1) = f a + 1 ∨ f a = f (a + 1) + 1) : zvw n v (ztw f a) m := by
  obtain ⟨p1, p2⟩ := V.2 a (by omega)
  obtain ⟨q1, q2⟩ := V.2 (a + 1) (by omega)
  obtain ⟨r1, r2⟩ := V.2 (a + 2) ha
  have ho : zrkv n v f a < zfac n := zrkv_lt hv a fun j hj => (V.2 j (by omega)).1
  have ga : ztw f a a = f (a + 1) := if_pos rfl
  have gb : ztw f a (a + 1) = f a := by unfold ztw; rw [if_neg (by omega), if_pos rfl]
  have gd : ztw f a (a + 2) = f (a + 1) := by unfold ztw; rw [if_neg (by omega), if_neg (by omega), if_pos rfl]
  have gc : ∀ j, j ≠ a → j ≠ a + 1 → j ≠ a + 2 → ztw f a j = f j := fun j h1 h2 h3 => by unfold ztw; rw [if_neg h1, if_neg h2, if_neg h3]
  have q2 : zp n (zrn n (f a) (zrkv n v f a)) (f (a + 1) + 1) < zp n (zrn n (f a) (zrkv n v f a)) (f (a + 1)) := q2
  have r2 : zp n (zrn n (f (a + 1)) (zrn n (f a) (zrkv n v f a))) (f (a + 2) + 1) < zp n (zrn n (f (a + 1)) (zrn n (f a) (zrkv n v f a))) (f (a + 2)) := r2
  rw [e] at r2
  obtain ⟨s1, s2, s3, s4⟩ := ztn_two ho p1 q1 d p2 q2 r2
  have e0 : ∀ j, j ≤ a → zrkv n v (ztw f a) j = zrkv n v f j := fun j hj => zrkv_congr j fun i hi => gc i (by omega) (by omega) (by omega)
  have e1 : zrkv n v (ztw f a) (a + 1) = zrn n (f (a + 1)) (zrkv n v f a) := by
    show zrn n (ztw f a a) (zrkv n v (ztw f a) a) = _
    rw [ga, e0 a (Nat.le_refl _)]
  have e2 : zrkv n v (ztw f a) (a + 2) = zrn n (f a) (zrn n (f (a + 1)) (zrkv n v f a)) := by
    show zrn n (ztw f a (a + 1)) (zrkv n v (ztw f a) (a + 1)) = _
    rw [gb, e1]
  have e3 : zrkv n v (ztw f a) (a + 3) = zrkv n v f (a + 3) := by
    show zrn n (ztw f a (a + 2)) (zrkv n v (ztw f a) (a + 2)) = zrn n (f (a + 2)) (zrn n (f (a + 1)) (zrn n (f a) (zrkv n v f a)))
    rw [gd, e2, e]
    exact s4
  refine ⟨V.1, fun j hj => ?_⟩
  by_cases c1 : j < a
  · rw [e0 j (by omega), gc j (by omega) (by omega) (by omega)]; exact V.2 j hj
  · by_cases c2 : j = a
    · rw [c2, ga, e0 a (Nat.le_refl _)]; exact ⟨q1, s1⟩
    · by_cases c3 : j = a + 1
      · rw [c3, gb, e1]; exact ⟨p1, s2⟩
      · by_cases c4 : j = a + 2
        · rw [c4, gd, e2]; exact ⟨q1, s3⟩
        · rw [gc j c2 c3 c4, zrkv_from e3 (fun i hi => gc i (by omega) (by omega) (by omega)) j (by omega)]; exact V.2 j hj
/-- words as numbers -/
def zwf (f : Nat → Nat) : Nat → Nat
  | 0 => 0
  | i + 1 => zwf f i * 8 + f i
theorem zwv_f {n v r : Nat} : ∀ m, zwv n v r m = zwf (zlet n v r) m
  | 0 => rfl
  | m + 1 => by
    show zwv n v r m * 8 + zlet n v r m = zwf (zlet n v r) m * 8 + zlet n v r m
    rw [zwv_f m]
theorem zwf_congr {f g : Nat → Nat} : ∀ m, (∀ j, j < m → f j = g j) → zwf f m = zwf g m
  | 0, _ => rfl
  | m + 1, h => by
    show zwf f m * 8 + f m = zwf g m * 8 + g m
    rw [zwf_congr m (fun j hj => h j (by omega)), h m (by omega)]
theorem zwf_lt {f : Nat → Nat} : ∀ m, (∀ j, j < m → f j < 8) → zwf f m < 8 ^ m
  | 0, _ => Nat.one_pos
  | m + 1, h => by
    have a := zwf_lt m fun j hj => h j (by omega)
    have b := h m (by omega)
    show zwf f m * 8 + f m < _
    rw [Nat.pow_succ]
    omega
theorem zwf_inj {f g : Nat → Nat} : ∀ m, (∀ j, j < m → f j < 8) → (∀ j, j < m → g j < 8) → zwf f m = zwf g m → ∀ j, j < m → f j = g j
  | 0, _, _, _ => fun j hj => by omega
  | m + 1, hf, hg, e => fun j hj => by
    have a := hf m (by omega)
    have b := hg m (by omega)
    have e : zwf f m * 8 + f m = zwf g m * 8 + g m := e
    by_cases c : j = m
    · rw [c]; omega
    · exact zwf_inj m (fun j hj => hf j (by omega)) (fun j hj => hg j (by omega)) (by omega) j (by omega)
theorem zwf_sh {f : Nat → Nat} : ∀ m, zwf f (m + 1) = f 0 * 8 ^ m + zwf (fun j => f (j + 1)) m
  | 0 => by show 0 * 8 + f 0 = f 0 * 1 + 0; omega
  | m + 1 => by
    have ih := zwf_sh (f := f) m
    show zwf f (m + 1) * 8 + f (m + 1) = f 0 * 8 ^ (m + 1) + (zwf (fun j => f (j + 1)) m * 8 + f (m + 1))
    rw [ih, Nat.add_mul, Nat.pow_succ, Nat.mul_assoc]
    omega
theorem zwf_mono {n : Nat} (hn : n ≤ 7) : ∀ (m v r s : Nat), v < zfac n → zinvs n v = m → r < s → s < zTl n v → zwf (zlet n v r) m < zwf (zlet n v s) m := by
  intro m
  induction m with
  | zero =>
    intro v r s hv hm hrs hs
    rw [zinvs_z hv hm, zTl_0] at hs
    omega
  | succ m ih =>
    intro v r s hv hm hrs hs
    have h0 : v ≠ 0 := fun z => by rw [z, zinvs_0] at hm; omega
    have hr : r < zTl n v := by omega
    obtain ⟨b1, b2, b3, b4⟩ := zpk_at hv h0 hr
    obtain ⟨c1, c2, c3, c4⟩ := zpk_at hv h0 hs
    have b1 : zlet n v r 0 + 2 ≤ n := b1
    have b2 : zp n v (zlet n v r 0 + 1) < zp n v (zlet n v r 0) := b2
    have c1 : zlet n v s 0 + 2 ≤ n := c1
    have c2 : zp n v (zlet n v s 0 + 1) < zp n v (zlet n v s 0) := c2
    have b3 : (zpk n v (n - 1) r 0).2 < zTl n (zrn n (zlet n v r 0) v) := b3
    have c3 : (zpk n v (n - 1) s 0).2 < zTl n (zrn n (zlet n v s 0) v) := c3
    have b4 : r = (zpk n v (n - 1) r 0).2 + zsu (zdn n v) (zlet n v r 0) := b4
    have c4 : s = (zpk n v (n - 1) s 0).2 + zsu (zdn n v) (zlet n v s 0) := c4
    have b5 := zrn_inv hv b1 b2
    have c5 := zrn_inv hv c1 c2
    have cd : zdn n v (zlet n v s 0) = zTl n (zrn n (zlet n v s 0) v) := if_pos c2
    have L1 : ∀ q, q < zTl n v → ∀ j, j < m + 1 → zlet n v q j < 8 := fun q hq j hj => by
      have := (zlet_lt hv hq (show j < zinvs n v by omega)).1
      omega
    rw [zwf_sh, zwf_sh]
    by_cases lt : zlet n v r 0 < zlet n v s 0
    · have w := zwf_lt (f := fun j => zlet n v r (j + 1)) m fun j hj => L1 r hr (j + 1) (by omega)
      have p : (zlet n v r 0 + 1) * 8 ^ m ≤ zlet n v s 0 * 8 ^ m := Nat.mul_le_mul_right _ lt
      rw [Nat.add_mul] at p
      omega
    · have eq : zlet n v r 0 = zlet n v s 0 := by
        by_cases c : zlet n v r 0 = zlet n v s 0
        · exact c
        · have m1 : zsu (zdn n v) (zlet n v s 0 + 1) ≤ zsu (zdn n v) (zlet n v r 0) := zdn_mono (by omega)
          have m2 : zsu (zdn n v) (zlet n v s 0 + 1) = zsu (zdn n v) (zlet n v s 0) + zdn n v (zlet n v s 0) := rfl
          omega
      have e1 : zwf (fun j => zlet n v r (j + 1)) m = zwf (zlet n (zrn n (zlet n v r 0) v) (zpk n v (n - 1) r 0).2) m := zwf_congr m fun j _ => zlet_sh
      have e2 : zwf (fun j => zlet n v s (j + 1)) m = zwf (zlet n (zrn n (zlet n v s 0) v) (zpk n v (n - 1) s 0).2) m := zwf_congr m fun j _ => zlet_sh
      rw [e1, e2, eq]
      rw [eq] at b4
      have := ih (zrn n (zlet n v s 0) v) (zpk n v (n - 1) r 0).2 (zpk n v (n - 1) s 0).2 (zrn_lt hv c1) (by omega) (by omega) c3
      omega
theorem zx8 {x y d e : Nat} (hd : d < 8) (he : e < 8) : (x * 8 + d) ^^^ (y * 8 + e) = (x ^^^ y) * 8 + (d ^^^ e) := by
  apply Nat.eq_of_testBit_eq
  intro j
  have h : d ^^^ e < 2 ^ 3 := Nat.xor_lt_two_pow (n := 3) hd he
  have hd : d < 2 ^ 3 := hd
  have he : e < 2 ^ 3 := he
  rw [Nat.testBit_xor, show x * 8 + d = 2 ^ 3 * x + d by omega, show y * 8 + e = 2 ^ 3 * y + e by omega, show (x ^^^ y) * 8 + (d ^^^ e) = 2 ^ 3 * (x ^^^ y) + (d ^^^ e) by omega, Nat.testBit_two_pow_mul_add x hd, Nat.testBit_two_pow_mul_add y he, Nat.testBit_two_pow_mul_add (x ^^^ y) h]
  by_cases c : j < 3
  · rw [if_pos c, if_pos c, if_pos c, Nat.testBit_xor]
  · rw [if_neg c, if_neg c, if_neg c, Nat.testBit_xor]
theorem zwf_xor {f g : Nat → Nat} : ∀ m, (∀ j, j < m → f j < 8) → (∀ j, j < m → g j < 8) → zwf f m ^^^ zwf g m = zwf (fun j => f j ^^^ g j) m
  | 0, _, _ => Nat.xor_self 0
  | m + 1, hf, hg => by
    show (zwf f m * 8 + f m) ^^^ (zwf g m * 8 + g m) = zwf (fun j => f j ^^^ g j) m * 8 + (f m ^^^ g m)
    rw [zx8 (hf m (by omega)) (hg m (by omega)), zwf_xor m (fun j hj => hf j (by omega)) (fun j hj => hg j (by omega))]
