/-! EDGES OF THE GRAPH OF WORDS, AS NUMBERS -/
theorem zwf_tail {g : Nat → Nat} {b : Nat} (h : ∀ j, b ≤ j → g j = 0) : ∀ d, zwf g (b + d) = zwf g b * 8 ^ d
  | 0 => (Nat.mul_one _).symm
  | d + 1 => by
    show zwf g (b + d) * 8 + g (b + d) = _
    rw [zwf_tail h d, h (b + d) (by omega), Nat.pow_succ, ← Nat.mul_assoc, Nat.add_zero]
theorem zwf_zero {g : Nat → Nat} : ∀ b, (∀ j, j < b → g j = 0) → zwf g b = 0
  | 0, _ => rfl
  | b + 1, h => by
    show zwf g b * 8 + g b = 0
    rw [zwf_zero b (fun j hj => h j (by omega)), h b (by omega)]
theorem zxor8 {a b : Nat} (ha : a < 8) (hb : b < 8) : a ^^^ b < 8 := Nat.xor_lt_two_pow (n := 3) ha hb
theorem zxor_l (a b : Nat) : a ^^^ (a ^^^ b) = b := by rw [← Nat.xor_assoc, Nat.xor_self, Nat.zero_xor]
theorem zxor_r (a b : Nat) : b ^^^ (a ^^^ b) = a := by rw [Nat.xor_comm a b, zxor_l]
theorem zsl_x {f : Nat → Nat} {m a : Nat} (hf : ∀ j, j < m → f j < 8) (ha : a + 1 < m) : zwf f m ^^^ ((f a ^^^ f (a + 1)) * 9 * 8 ^ (m - 2 - a)) = zwf (zsw f a) m := by
  have c8 := zxor8 (hf a (by omega)) (hf (a + 1) ha)
  have e : zwf (fun j => if j = a ∨ j = a + 1 then f a ^^^ f (a + 1) else 0) m = (f a ^^^ f (a + 1)) * 9 * 8 ^ (m - 2 - a) := by
    have t := zwf_tail (g := fun j => if j = a ∨ j = a + 1 then f a ^^^ f (a + 1) else 0) (b := a + 2) (fun j hj => if_neg (by omega)) (m - 2 - a)
    rw [show a + 2 + (m - 2 - a) = m by omega] at t
    have z : zwf (fun j => if j = a ∨ j = a + 1 then f a ^^^ f (a + 1) else 0) (a + 2) = (f a ^^^ f (a + 1)) * 9 := by
      show (zwf _ a * 8 + (if a = a ∨ a = a + 1 then f a ^^^ f (a + 1) else 0)) * 8 + (if a + 1 = a ∨ a + 1 = a + 1 then f a ^^^ f (a + 1) else 0) = _
      rw [zwf_zero a (fun j hj => if_neg (by omega)), if_pos (Or.inl rfl), if_pos (Or.inr rfl)]
      omega
    rw [t, z]
  rw [← e, zwf_xor m hf (fun j _ => by show (if _ then _ else 0) < 8; split <;> omega)]
  refine zwf_congr m fun j _ => ?_
  show f j ^^^ (if j = a ∨ j = a + 1 then f a ^^^ f (a + 1) else 0) = zsw f a j
  unfold zsw
  by_cases c1 : j = a
  · rw [c1, if_pos (Or.inl rfl), if_pos rfl, zxor_l]
  · by_cases c2 : j = a + 1
    · rw [c2, if_pos (Or.inr rfl), if_neg (by omega), if_pos rfl, zxor_r]
    · rw [if_neg (by omega), if_neg c1, if_neg c2, Nat.xor_zero]
theorem ztn_x {f : Nat → Nat} {m a : Nat} (hf : ∀ j, j < m → f j < 8) (ha : a + 2 < m) (e2 : f (a + 2) = f a) : zwf f m ^^^ ((f a ^^^ f (a + 1)) * 73 * 8 ^ (m - 3 - a)) = zwf (ztw f a) m := by
  have c8 := zxor8 (hf a (by omega)) (hf (a + 1) (by omega))
  have e : zwf (fun j => if j = a ∨ j = a + 1 ∨ j = a + 2 then f a ^^^ f (a + 1) else 0) m = (f a ^^^ f (a + 1)) * 73 * 8 ^ (m - 3 - a) := by
    have t := zwf_tail (g := fun j => if j = a ∨ j = a + 1 ∨ j = a + 2 then f a ^^^ f (a + 1) else 0) (b := a + 3) (fun j hj => if_neg (by omega)) (m - 3 - a)
    rw [show a + 3 + (m - 3 - a) = m by omega] at t
    have z : zwf (fun j => if j = a ∨ j = a + 1 ∨ j = a + 2 then f a ^^^ f (a + 1) else 0) (a + 3) = (f a ^^^ f (a + 1)) * 73 := by
      show ((zwf _ a * 8 + (if a = a ∨ a = a + 1 ∨ a = a + 2 then f a ^^^ f (a + 1) else 0)) * 8 + (if a + 1 = a ∨ a + 1 = a + 1 ∨ a + 1 = a + 2 then f a ^^^ f (a + 1) else 0)) * 8 + (if a + 2 = a ∨ a + 2 = a + 1 ∨ a + 2 = a + 2 then f a ^^^ f (a + 1) else 0) = _
      rw [zwf_zero a (fun j hj => if_neg (by omega)), if_pos (Or.inl rfl), if_pos (Or.inr (Or.inl rfl)), if_pos (Or.inr (Or.inr rfl))]
      omega
    rw [t, z]
  rw [← e, zwf_xor m hf (fun j _ => by show (if _ then _ else 0) < 8; split <;> omega)]
  refine zwf_congr m fun j _ => ?_
  show f j ^^^ (if j = a ∨ j = a + 1 ∨ j = a + 2 then f a ^^^ f (a + 1) else 0) = ztw f a j
  unfold ztw
  by_cases c1 : j = a
  · rw [c1, if_pos (Or.inl rfl), if_pos rfl, zxor_l]
  · by_cases c2 : j = a + 1
    · rw [c2, if_pos (Or.inr (Or.inl rfl)), if_neg (by omega), if_pos rfl, zxor_r]
    · by_cases c3 : j = a + 2
      · rw [c3, if_pos (Or.inr (Or.inr rfl)), if_neg (by omega), if_neg (by omega), if_pos rfl, e2, zxor_l]
      · rw [if_neg (by omega), if_neg c1, if_neg c2, if_neg c3, Nat.xor_zero]
/-- the edges: slides, and turns, at a place of a rank's word -/
def zfarb (x y : Nat) : Prop := x + 1 < y ∨ y + 1 < x
def zslr (n v r a : Nat) : Nat := zrks n v (zsw (zlet n v r) a) (zinvs n v)
def ztnr (n v r a : Nat) : Nat := zrks n v (ztw (zlet n v r) a) (zinvs n v)
def zisS (n v r a : Nat) : Prop := a + 1 < zinvs n v ∧ zfarb (zlet n v r a) (zlet n v r (a + 1))
def zisT (n v r a : Nat) : Prop := a + 2 < zinvs n v ∧ zlet n v r (a + 2) = zlet n v r a ∧ (zlet n v r (a + 1) = zlet n v r a + 1 ∨ zlet n v r a = zlet n v r (a + 1) + 1)
theorem zslr_ok {n v r a : Nat} (hv : v < zfac n) (hr : r < zTl n v) (S : zisS n v r a) : zslr n v r a < zTl n v ∧ ∀ i, i < zinvs n v → zlet n v (zslr n v r a) i = zsw (zlet n v r) a i := zrks_lt _ _ _ hv (zsw_ok hv (zvw_let hv hr) S.1 S.2)
theorem ztnr_ok {n v r a : Nat} (hv : v < zfac n) (hr : r < zTl n v) (S : zisT n v r a) : ztnr n v r a < zTl n v ∧ ∀ i, i < zinvs n v → zlet n v (ztnr n v r a) i = ztw (zlet n v r) a i := zrks_lt _ _ _ hv (ztw_ok hv (zvw_let hv hr) S.1 S.2.1 S.2.2)
/-- slides and turns can be taken back -/
theorem zslr_back {n v r a : Nat} (hv : v < zfac n) (hr : r < zTl n v) (S : zisS n v r a) : zisS n v (zslr n v r a) a ∧ zslr n v (zslr n v r a) a = r := by
  obtain ⟨s1, s2⟩ := zslr_ok hv hr S
  obtain ⟨S1, S2⟩ := S
  have ea : zlet n v (zslr n v r a) a = zlet n v r (a + 1) := (s2 a (by omega)).trans (if_pos rfl)
  have eb : zlet n v (zslr n v r a) (a + 1) = zlet n v r a := (s2 (a + 1) S1).trans (by unfold zsw; rw [if_neg (by omega), if_pos rfl])
  refine ⟨⟨S1, by rw [ea, eb]; unfold zfarb at S2 ⊢; omega⟩, ?_⟩
  have e : zslr n v (zslr n v r a) a = zrks n v (zlet n v r) (zinvs n v) := zrks_congr fun j hj => by
    show (if j = a then zlet n v (zslr n v r a) (a + 1) else if j = a + 1 then zlet n v (zslr n v r a) a else zlet n v (zslr n v r a) j) = _
    by_cases c1 : j = a
    · rw [if_pos c1, eb, c1]
    · by_cases c2 : j = a + 1
      · rw [if_neg c1, if_pos c2, ea, c2]
      · rw [if_neg c1, if_neg c2, s2 j hj]
        unfold zsw
        rw [if_neg c1, if_neg c2]
  rw [e, zrks_let _ _ _ hv hr rfl]
