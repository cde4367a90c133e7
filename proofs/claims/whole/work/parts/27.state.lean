/-! LADDERS: elements as a function of their place: kind, leg, a, b -/
abbrev zel : Type := Nat → Nat × Nat × Nat × Nat
def zmb (e : zel) : Nat → Nat
  | 0 => 0
  | i + 1 => zmb e i + (if (e i).1 = 3 then 1 else 0)
def zenc (x : Nat × Nat × Nat × Nat) : Nat := x.1 + x.2.1 * 4 + (if x.1 = 3 then x.2.2.1 * 32 + x.2.2.2 * 256 else 0)
def zlok (n m : Nat) (e : zel) : Prop := (2 ≤ n ∧ n ≤ 7) ∧ m ≤ 200 ∧ zmb e m ≤ 20 ∧ ∀ i, i < m → (e i).1 < 4 ∧ (e i).2.1 + 2 ≤ n ∧ ((e i).1 = 3 → (e i).2.2.1 ≤ (e i).2.2.2 ∧ 1 ≤ (e i).2.2.2 ∧ (e i).2.2.2 ≤ 4)
def zLC (h : zHP) (o n m : Nat) (e : zel) : Prop := h o 2 = (n : Int) ∧ h o 3 = (m : Int) ∧ h o 4 = (zmb e m : Int) ∧ ∀ i, i < m → h (o + 1) i = (zenc (e i) : Int)
theorem zmb_mono (e : zel) : ∀ {i j : Nat}, i ≤ j → zmb e i ≤ zmb e j := by
  intro i j hij
  induction j with
  | zero => have : i = 0 := by omega
            subst this; exact Nat.le_refl _
  | succ j ih =>
    by_cases c : i = j + 1
    · subst c; exact Nat.le_refl _
    · have := ih (by omega)
      show zmb e i ≤ zmb e j + _
      omega
theorem zmb_le (e : zel) : ∀ i, zmb e i ≤ i
  | 0 => Nat.le_refl _
  | i + 1 => by
    have := zmb_le e i
    show zmb e i + _ ≤ i + 1
    split <;> omega
theorem zmb_ext {e f : zel} : ∀ {m : Nat}, (∀ i, i < m → (e i).1 = (f i).1) → zmb e m = zmb f m
  | 0, _ => rfl
  | m + 1, h => by
    show zmb e m + _ = zmb f m + _
    rw [zmb_ext (fun i hi => h i (by omega)), h m (by omega)]
theorem zenc_lt {n m : Nat} {e : zel} (hl : zlok n m e) {i : Nat} (hi : i < m) : zenc (e i) < 2048 := by
  have h := hl.2.2.2 i hi
  have := hl.1
  unfold zenc
  split <;> omega
section
variable {h : zHP} {o n m i : Nat} {e : zel}
theorem zLC.kd (L : zLC h o n m e) (hl : zlok n m e) (hi : i < m) : zKd h o (i : Int) = ((e i).1 : Int) := by
  have hm := hl.2.1
  have hx := hl.2.2.2 i hi
  have h5 := zenc_lt hl hi
  have hn := hl.1
  unfold zKd
  rw [if_pos (by have := L.2.1; omega), Int.toNat_natCast, L.2.2.2 i hi, ziand_3 (by omega)]
  congr 1
  unfold zenc
  split <;> omega
theorem zLC.lg (L : zLC h o n m e) (hl : zlok n m e) (hi : i < m) : zLg h o (i : Int) = ((e i).2.1 : Int) := by
  have hm := hl.2.1
  have hx := hl.2.2.2 i hi
  have h5 := zenc_lt hl hi
  have hn := hl.1
  unfold zLg
  rw [if_pos (by have := L.2.1; omega), Int.toNat_natCast, L.2.2.2 i hi, show (2 : Int) = ((2 : Nat) : Int) from rfl, zishr_n (by omega) (by omega), ziand_7 (by omega)]
  congr 1
  unfold zenc
  split <;> omega
theorem zLC.wa (L : zLC h o n m e) (hl : zlok n m e) (hi : i < m) : zWa h o (i : Int) = ((if (e i).1 = 3 then (e i).2.2.1 else 0 : Nat) : Int) := by
  have hm := hl.2.1
  have hx := hl.2.2.2 i hi
  have h5 := zenc_lt hl hi
  have hn := hl.1
  unfold zWa
  rw [if_pos (by have := L.2.1; omega), Int.toNat_natCast, L.2.2.2 i hi, show (5 : Int) = ((5 : Nat) : Int) from rfl, zishr_n (by omega) (by omega), ziand_7 (by omega)]
  congr 1
  unfold zenc
  split <;> omega
theorem zLC.wb (L : zLC h o n m e) (hl : zlok n m e) (hi : i < m) : zWb h o (i : Int) = ((if (e i).1 = 3 then (e i).2.2.2 else 0 : Nat) : Int) := by
  have hm := hl.2.1
  have hx := hl.2.2.2 i hi
  have h5 := zenc_lt hl hi
  have hn := hl.1
  unfold zWb
  rw [if_pos (by have := L.2.1; omega), Int.toNat_natCast, L.2.2.2 i hi, show (8 : Int) = ((8 : Nat) : Int) from rfl, zishr_n (by omega) (by omega), ziand_7 (by omega)]
  congr 1
  unfold zenc
  split <;> omega
end
/-! how an element passes an order -/
def zst (n : Nat) (x : Nat × Nat × Nat × Nat) (there : Bool) (o : Nat) : Nat :=
  if x.1 = 0 then zx n x.2.1 o else if x.1 = 1 then min o (zx n x.2.1 o) else if x.1 = 2 then max o (zx n x.2.1 o) else if there then zx n x.2.1 o else o
/-- past the first i elements, with the maybes that are there, one left out -/
def zru (n : Nat) (e : zel) (th sk : Nat) : Nat → Nat → Nat
  | 0, o => o
  | i + 1, o => if i = sk then zru n e th sk i o else zst n (e i) (th.testBit (zmb e i)) (zru n e th sk i o)
theorem zst_lt {n o : Nat} {x : Nat × Nat × Nat × Nat} {b : Bool} (hn : n ≤ 7) (ho : o < zfac n) (hx : x.2.1 + 2 ≤ n) : zst n x b o < zfac n := by
  have := zx_lt ho hx
  unfold zst
  repeat' split
  all_goals omega
theorem zru_lt {n m : Nat} {e : zel} (hl : zlok n m e) {th sk o : Nat} (ho : o < zfac n) : ∀ i, i ≤ m → zru n e th sk i o < zfac n
  | 0, _ => ho
  | i + 1, h => by
    have := zru_lt hl (th := th) (sk := sk) ho i (by omega)
    show (if i = sk then _ else _) < _
    split
    · exact this
    · exact zst_lt hl.1.2 this (hl.2.2.2 i (by omega)).2.1
/-! layers -/
def ztop (e : zel) : Nat → Nat → Nat
  | 0, _ => 0
  | i + 1, q => if q = (e i).2.1 ∨ q = (e i).2.1 + 1 then max (ztop e i (e i).2.1) (ztop e i ((e i).2.1 + 1)) + 1 else ztop e i q
def zlyr (e : zel) (i : Nat) : Nat := max (ztop e i (e i).2.1) (ztop e i ((e i).2.1 + 1)) + 1
def zdeep (e : zel) : Nat → Nat
  | 0 => 0
  | i + 1 => max (zdeep e i) (zlyr e i)
theorem ztop_le (e : zel) : ∀ i q, ztop e i q ≤ i
  | 0, _ => Nat.le_refl _
  | i + 1, q => by
    have h1 := ztop_le e i q
    have h2 := ztop_le e i (e i).2.1
    have h3 := ztop_le e i ((e i).2.1 + 1)
    have et : ztop e (i + 1) q = if q = (e i).2.1 ∨ q = (e i).2.1 + 1 then max (ztop e i (e i).2.1) (ztop e i ((e i).2.1 + 1)) + 1 else ztop e i q := rfl
    rw [et]
    split <;> omega
theorem ztop_deep (e : zel) : ∀ i q, ztop e i q ≤ zdeep e i
  | 0, _ => Nat.le_refl _
  | i + 1, q => by
    have h1 := ztop_deep e i q
    have et : ztop e (i + 1) q = if q = (e i).2.1 ∨ q = (e i).2.1 + 1 then max (ztop e i (e i).2.1) (ztop e i ((e i).2.1 + 1)) + 1 else ztop e i q := rfl
    have ed : zdeep e (i + 1) = max (zdeep e i) (max (ztop e i (e i).2.1) (ztop e i ((e i).2.1 + 1)) + 1) := rfl
    rw [et, ed]
    split <;> omega
theorem zdeep_top (e : zel) {n : Nat} : ∀ i, (∀ j, j < i → (e j).2.1 + 2 ≤ n) → zdeep e i = 0 ∨ ∃ q, q < n ∧ ztop e i q = zdeep e i
  | 0, _ => Or.inl rfl
  | i + 1, h => by
    have hd : zdeep e (i + 1) = max (zdeep e i) (max (ztop e i (e i).2.1) (ztop e i ((e i).2.1 + 1)) + 1) := rfl
    have hl := h i (by omega)
    by_cases c : zdeep e i ≤ max (ztop e i (e i).2.1) (ztop e i ((e i).2.1 + 1)) + 1
    · refine Or.inr ⟨(e i).2.1, by omega, ?_⟩
      show (if _ then _ else _) = _
      rw [if_pos (Or.inl rfl), hd]
      omega
    · rcases zdeep_top e (n := n) i (fun j hj => h j (by omega)) with g | ⟨q, g1, g2⟩
      · omega
      · refine Or.inr ⟨q, g1, ?_⟩
        have h2 := ztop_deep e i (e i).2.1
        have h3 := ztop_deep e i ((e i).2.1 + 1)
        show (if _ then _ else _) = _
        rw [hd]
        by_cases c2 : q = (e i).2.1 ∨ q = (e i).2.1 + 1
        · exfalso
          rcases c2 with c2 | c2 <;> subst c2 <;> omega
        · rw [if_neg c2]; omega
def zplain (e : zel) (m : Nat) : Prop := ∀ i, i < m → (e i).1 = 0
def zways (e : zel) : Nat → Nat
  | 0 => 1
  | i + 1 => if (e i).1 = 3 then zways e i * (e i).2.2.2 else zways e i
theorem zways_le {n m : Nat} {e : zel} (hl : zlok n m e) : ∀ i, i ≤ m → zways e i ≤ 4 ^ zmb e i ∧ 1 ≤ zways e i
  | 0, _ => ⟨Nat.le_refl _, Nat.le_refl _⟩
  | i + 1, h => by
    have h1 := zways_le hl i (by omega)
    have h2 := hl.2.2.2 i (by omega)
    show (if _ then _ else _) ≤ 4 ^ (zmb e i + _) ∧ 1 ≤ (if _ then _ else _)
    by_cases c : (e i).1 = 3
    · simp only [if_pos c]
      rw [Nat.pow_succ]
      have h3 := h2.2.2 c
      exact ⟨Nat.mul_le_mul h1.1 h3.2.2, Nat.mul_le_mul h1.2 h3.2.1⟩
    · simp only [if_neg c, Nat.add_zero]
      exact h1
theorem zways_b {n m : Nat} {e : zel} (hl : zlok n m e) {i : Nat} (h : i ≤ m) : zways e i ≤ 1099511627776 := by
  have h1 := (zways_le hl i h).1
  have h2 := Nat.le_trans (zmb_mono e h) hl.2.2.1
  have h3 : 4 ^ zmb e i ≤ 4 ^ 20 := Nat.pow_le_pow_right (by omega) h2
  have h4 : 4 ^ 20 = 1099511627776 := by decide
  omega
