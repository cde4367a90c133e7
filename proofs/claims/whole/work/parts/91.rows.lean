/-! BIT ROWS ON THEIR WAY DOWN; orders and their bit rows -/
def zbs (x : Nat × Nat × Nat × Nat) (f : Nat → Bool) : Nat → Bool := fun j =>
  if j = x.2.1 then (if x.1 = 1 then f x.2.1 && f (x.2.1 + 1) else if x.1 = 2 then f x.2.1 || f (x.2.1 + 1) else f (x.2.1 + 1))
  else if j = x.2.1 + 1 then (if x.1 = 1 then f x.2.1 || f (x.2.1 + 1) else if x.1 = 2 then f x.2.1 && f (x.2.1 + 1) else f x.2.1)
  else f j
def zbrw (e : zel) (sk : Nat) : Nat → (Nat → Bool) → Nat → Bool
  | 0, f => f
  | i + 1, f => if i = sk then zbrw e sk i f else zbs (e i) (zbrw e sk i f)
theorem zbrw_s {e : zel} {sk i : Nat} {f : Nat → Bool} : zbrw e sk (i + 1) f = if i = sk then zbrw e sk i f else zbs (e i) (zbrw e sk i f) := rfl
theorem zbs_congr {x : Nat × Nat × Nat × Nat} {n : Nat} {f g : Nat → Bool} (hx : x.2.1 + 2 ≤ n) (h : ∀ j, j < n → f j = g j) : ∀ j, j < n → zbs x f j = zbs x g j := by
  intro j hj
  unfold zbs
  rw [h x.2.1 (by omega), h (x.2.1 + 1) (by omega), h j hj]
theorem zbrw_congr {e : zel} {n sk : Nat} {f g : Nat → Bool} (h : ∀ j, j < n → f j = g j) : ∀ i, (∀ j, j < i → (e j).2.1 + 2 ≤ n) → ∀ j, j < n → zbrw e sk i f j = zbrw e sk i g j := by
  intro i
  induction i with
  | zero => intro _ j hj; exact h j hj
  | succ i ih =>
    intro hl j hj
    have ih := ih (fun q hq => hl q (by omega))
    rw [zbrw_s, zbrw_s]
    by_cases c : i = sk
    · rw [if_pos c, if_pos c]; exact ih j hj
    · rw [if_neg c, if_neg c]; exact zbs_congr (hl i (by omega)) ih j hj
/-- the bit row of an order: which numbers are c or greater -/
def zth (n o c : Nat) : Nat → Bool := fun j => decide (c ≤ zr n o j)
theorem zth_st {n o c j : Nat} {x : Nat × Nat × Nat × Nat} {b : Bool} (ho : o < zfac n) (hn : n ≤ 7) (hx : x.2.1 + 2 ≤ n) (h3 : x.1 < 3) (hj : j < n) : zth n (zst n x b o) c j = zbs x (zth n o c) j := by
  have r : ∀ i, zr n (zx n x.2.1 o) i = zr n o (if i = x.2.1 then x.2.1 + 1 else if i = x.2.1 + 1 then x.2.1 else i) := fun i => zx_r ho hx
  have d := zx_desc ho hn hx
  have ne : zr n o x.2.1 ≠ zr n o (x.2.1 + 1) := fun e => by
    have := zr_inj ho (show x.2.1 < n by omega) (show x.2.1 + 1 < n by omega) e
    omega
  have swp : zth n (zx n x.2.1 o) c j = (if j = x.2.1 then zth n o c (x.2.1 + 1) else if j = x.2.1 + 1 then zth n o c x.2.1 else zth n o c j) := by
    unfold zth
    rw [r]
    by_cases c1 : j = x.2.1
    · rw [if_pos c1, if_pos c1]
    · rw [if_neg c1, if_neg c1]
      by_cases c2 : j = x.2.1 + 1
      · rw [if_pos c2, if_pos c2]
      · rw [if_neg c2, if_neg c2]
  have k : x.1 = 0 ∨ x.1 = 1 ∨ x.1 = 2 := by omega
  rcases k with k | k | k
  · have e : zst n x b o = zx n x.2.1 o := by unfold zst; rw [if_pos k]
    rw [e, swp]
    unfold zbs
    rw [if_neg (show ¬ x.1 = 1 by omega), if_neg (show ¬ x.1 = 2 by omega), if_neg (show ¬ x.1 = 1 by omega), if_neg (show ¬ x.1 = 2 by omega)]
  · have e : zst n x b o = min o (zx n x.2.1 o) := zst_g k
    rw [e]
    unfold zbs
    rw [if_pos k, if_pos k]
    by_cases dd : zr n o (x.2.1 + 1) < zr n o x.2.1
    · have dlt := d.mpr dd
      rw [show min o (zx n x.2.1 o) = zx n x.2.1 o by omega, swp]
      have a1 : (zth n o c x.2.1 && zth n o c (x.2.1 + 1)) = zth n o c (x.2.1 + 1) := by
        unfold zth
        by_cases c1 : c ≤ zr n o (x.2.1 + 1)
        · rw [decide_eq_true c1, decide_eq_true (show c ≤ zr n o x.2.1 by omega)]; rfl
        · rw [decide_eq_false c1, Bool.and_false]
      have a2 : (zth n o c x.2.1 || zth n o c (x.2.1 + 1)) = zth n o c x.2.1 := by
        unfold zth
        by_cases c1 : c ≤ zr n o x.2.1
        · rw [decide_eq_true c1]; rfl
        · rw [decide_eq_false c1, decide_eq_false (show ¬ c ≤ zr n o (x.2.1 + 1) by omega)]; rfl
      rw [a1, a2]
    · have dge : ¬ zx n x.2.1 o < o := fun z => dd (d.mp z)
      rw [show min o (zx n x.2.1 o) = o by omega]
      have a1 : (zth n o c x.2.1 && zth n o c (x.2.1 + 1)) = zth n o c x.2.1 := by
        unfold zth
        by_cases c1 : c ≤ zr n o x.2.1
        · rw [decide_eq_true c1, decide_eq_true (show c ≤ zr n o (x.2.1 + 1) by omega)]; rfl
        · rw [decide_eq_false c1]; rfl
      have a2 : (zth n o c x.2.1 || zth n o c (x.2.1 + 1)) = zth n o c (x.2.1 + 1) := by
        unfold zth
        by_cases c1 : c ≤ zr n o (x.2.1 + 1)
        · rw [decide_eq_true c1, Bool.or_true]
        · rw [decide_eq_false c1, decide_eq_false (show ¬ c ≤ zr n o x.2.1 by omega)]; rfl
      rw [a1, a2]
      by_cases c1 : j = x.2.1
      · rw [if_pos c1, c1]
      · rw [if_neg c1]
        by_cases c2 : j = x.2.1 + 1
        · rw [if_pos c2, c2]
        · rw [if_neg c2]
  · have e : zst n x b o = max o (zx n x.2.1 o) := zst_b k
    rw [e]
    unfold zbs
    rw [if_neg (show ¬ x.1 = 1 by omega), if_pos k, if_neg (show ¬ x.1 = 1 by omega), if_pos k]
    by_cases dd : zr n o (x.2.1 + 1) < zr n o x.2.1
    · have dlt := d.mpr dd
      rw [show max o (zx n x.2.1 o) = o by omega]
      have a1 : (zth n o c x.2.1 && zth n o c (x.2.1 + 1)) = zth n o c (x.2.1 + 1) := by
        unfold zth
        by_cases c1 : c ≤ zr n o (x.2.1 + 1)
        · rw [decide_eq_true c1, decide_eq_true (show c ≤ zr n o x.2.1 by omega)]; rfl
        · rw [decide_eq_false c1, Bool.and_false]
      have a2 : (zth n o c x.2.1 || zth n o c (x.2.1 + 1)) = zth n o c x.2.1 := by
        unfold zth
        by_cases c1 : c ≤ zr n o x.2.1
        · rw [decide_eq_true c1]; rfl
        · rw [decide_eq_false c1, decide_eq_false (show ¬ c ≤ zr n o (x.2.1 + 1) by omega)]; rfl
      rw [a1, a2]
      by_cases c1 : j = x.2.1
      · rw [if_pos c1, c1]
      · rw [if_neg c1]
        by_cases c2 : j = x.2.1 + 1
        · rw [if_pos c2, c2]
        · rw [if_neg c2]
    · have dge : ¬ zx n x.2.1 o < o := fun z => dd (d.mp z)
      by_cases eq : zx n x.2.1 o = o
      · exfalso
        have s1 := zinvs_x ho hx
        rw [eq] at s1
        have := s1.2 (by omega)
        omega
      · rw [show max o (zx n x.2.1 o) = zx n x.2.1 o by omega, swp]
        have a1 : (zth n o c x.2.1 && zth n o c (x.2.1 + 1)) = zth n o c x.2.1 := by
          unfold zth
          by_cases c1 : c ≤ zr n o x.2.1
          · rw [decide_eq_true c1, decide_eq_true (show c ≤ zr n o (x.2.1 + 1) by omega)]; rfl
          · rw [decide_eq_false c1]; rfl
        have a2 : (zth n o c x.2.1 || zth n o c (x.2.1 + 1)) = zth n o c (x.2.1 + 1) := by
          unfold zth
          by_cases c1 : c ≤ zr n o (x.2.1 + 1)
          · rw [decide_eq_true c1, Bool.or_true]
          · rw [decide_eq_false c1, decide_eq_false (show ¬ c ≤ zr n o x.2.1 by omega)]; rfl
        rw [a1, a2]
theorem zth_ru {n o c sk th : Nat} {e : zel} (ho : o < zfac n) (hn : n ≤ 7) : ∀ i, (∀ j, j < i → (e j).2.1 + 2 ≤ n ∧ (e j).1 < 3) → zru n e th sk i o < zfac n ∧ ∀ j, j < n → zth n (zru n e th sk i o) c j = zbrw e sk i (zth n o c) j := by
  intro i
  induction i with
  | zero => intro _; exact ⟨ho, fun j _ => rfl⟩
  | succ i ih =>
    intro hl
    obtain ⟨i1, i2⟩ := ih (fun q hq => hl q (by omega))
    have hi := hl i (by omega)
    have es : zru n e th sk (i + 1) o = if i = sk then zru n e th sk i o else zst n (e i) (th.testBit (zmb e i)) (zru n e th sk i o) := rfl
    rw [es]
    by_cases c1 : i = sk
    · rw [if_pos c1]
      refine ⟨i1, fun j hj => ?_⟩
      rw [zbrw_s, if_pos c1]
      exact i2 j hj
    · rw [if_neg c1]
      refine ⟨zst_lt hn i1 hi.1, fun j hj => ?_⟩
      rw [zbrw_s, if_neg c1, zth_st i1 hn hi.1 hi.2 hj]
      exact zbs_congr hi.1 i2 j hj
/-- a bit row in order -/
def zsd (n : Nat) (f : Nat → Bool) : Prop := ∀ j, j + 2 ≤ n → f j = true → f (j + 1) = true
theorem zsd_0 {n o : Nat} (ho : o < zfac n) : o = 0 ↔ ∀ c, zsd n (zth n o c) := by
  constructor
  · intro h c j hj hf
    rw [h] at hf ⊢
    unfold zth at *
    rw [zr_0 (by omega)] at *
    have := of_decide_eq_true hf
    exact decide_eq_true (by omega)
  · intro h
    by_cases c : o = 0
    · exact c
    · obtain ⟨k, hk, hd⟩ := zdesc_ex ho c
      have := h (zr n o k) k hk (decide_eq_true (Nat.le_refl _))
      have := of_decide_eq_true this
      omega
theorem zth_ext {n o o2 : Nat} (ho : o < zfac n) (ho2 : o2 < zfac n) (h : ∀ c j, j < n → zth n o c j = zth n o2 c j) : o = o2 := by
  refine zrw_ext ho ho2 fun i hi => ?_
  have a1 := h (zr n o i) i hi
  have a2 := h (zr n o2 i) i hi
  unfold zth at a1 a2
  rw [decide_eq_true (Nat.le_refl _)] at a1
  have a1 := of_decide_eq_true a1.symm
  have a2 := of_decide_eq_true (a2.trans (decide_eq_true (Nat.le_refl _)))
  omega
def zones (f : Nat → Bool) : Nat → Nat := zsu (fun j => if f j then 1 else 0)
def zzers (f : Nat → Bool) : Nat → Nat := zsu (fun j => if f j then 0 else 1)
theorem zones_zers (f : Nat → Bool) : ∀ n, zones f n + zzers f n = n := by
  intro n
  induction n with
  | zero => rfl
  | succ n ih =>
    have a1 : zones f (n + 1) = zones f n + (if f n then 1 else 0) := rfl
    have a2 : zzers f (n + 1) = zzers f n + (if f n then 0 else 1) := rfl
    rw [a1, a2]
    cases f n with
    | true => rw [if_pos rfl, if_pos rfl]; omega
    | false => rw [if_neg (by decide), if_neg (by decide)]; omega
/-- each bit row is one of an order -/
theorem zth_onto (n : Nat) (f : Nat → Bool) : ∃ o c, o < zfac n ∧ c ≤ n ∧ ∀ j, j < n → zth n o c j = f j := by
  have m1 : ∀ a b, a ≤ b → zones f a ≤ zones f b := fun a b h => zsu_up h
  have m0 : ∀ a b, a ≤ b → zzers f a ≤ zzers f b := fun a b h => zsu_up h
  have s1 : ∀ j, f j = true → zones f (j + 1) = zones f j + 1 := fun j h => by
    show zones f j + (if f j then 1 else 0) = _
    rw [h, if_pos rfl]
  have s0 : ∀ j, f j = false → zzers f (j + 1) = zzers f j + 1 := fun j h => by
    show zzers f j + (if f j then 0 else 1) = _
    rw [h, if_neg (by decide)]
  have tot := zones_zers f n
  let g : Nat → Nat := fun i => if f i then zzers f n + zones f i else zzers f i
  have g1 : ∀ i, f i = true → g i = zzers f n + zones f i := fun i h => by show (if f i then _ else _) = _; rw [h, if_pos rfl]
  have g0 : ∀ i, f i = false → g i = zzers f i := fun i h => by show (if f i then _ else _) = _; rw [h, if_neg (by decide)]
  have hlt : ∀ i, i < n → (f i = true → zzers f n ≤ g i ∧ g i < n) ∧ (f i = false → g i < zzers f n) := fun i hi => by
    refine ⟨fun h => ?_, fun h => ?_⟩
    · rw [g1 i h]
      have a1 := s1 i h
      have a2 := m1 (i + 1) n (by omega)
      omega
    · rw [g0 i h]
      have a1 := s0 i h
      have a2 := m0 (i + 1) n (by omega)
      omega
  have inc : ∀ i j, i < j → f i = f j → g i < g j := fun i j hij e => by
    cases h : f j with
    | true =>
      rw [h] at e
      rw [g1 i e, g1 j h]
      have a1 := s1 i e
      have a2 := m1 (i + 1) j (by omega)
      omega
    | false =>
      rw [h] at e
      rw [g0 i e, g0 j h]
      have a1 := s0 i e
      have a2 := m0 (i + 1) j (by omega)
      omega
  have zn : zzers f n ≤ n := by omega
  obtain ⟨r1, r2⟩ := znm_row (f := g) (n := n) (fun i hi => by
    cases h : f i with
    | true => exact ((hlt i hi).1 h).2
    | false => have := (hlt i hi).2 h; omega) (fun i j hi hj e => by
    by_cases c : f i = f j
    · by_cases c1 : i < j
      · have := inc i j c1 c; omega
      · by_cases c2 : j < i
        · have := inc j i c2 c.symm; omega
        · omega
    · exfalso
      cases h : f i with
      | true =>
        have h2 : f j = false := by cases h3 : f j with
          | true => rw [h, h3] at c; exact absurd rfl c
          | false => rfl
        have a1 := (hlt i hi).1 h
        have a2 := (hlt j hj).2 h2
        omega
      | false =>
        have h2 : f j = true := by cases h3 : f j with
          | false => rw [h, h3] at c; exact absurd rfl c
          | true => rfl
        have a1 := (hlt j hj).1 h2
        have a2 := (hlt i hi).2 h
        omega)
  refine ⟨znm g n, zzers f n, r1, zn, fun j hj => ?_⟩
  unfold zth
  rw [r2 j hj]
  cases h : f j with
  | true => exact decide_eq_true ((hlt j hj).1 h).1
  | false => have := (hlt j hj).2 h; exact decide_eq_false (by omega)
/-- all bit rows come down in order just if all orders come to the first -/
theorem zsort_all {n m sk th : Nat} {e : zel} (hn : n ≤ 7) (hl : ∀ j, j < m → (e j).2.1 + 2 ≤ n ∧ (e j).1 < 3) : (∀ r, r < 2 ^ n → zsd n (zbrw e sk m r.testBit)) ↔ (∀ o, o < zfac n → zru n e th sk m o = 0) := by
  have hl1 : ∀ j, j < m → (e j).2.1 + 2 ≤ n := fun j hj => (hl j hj).1
  have tr : ∀ {f g : Nat → Bool}, (∀ j, j < n → f j = g j) → zsd n f → zsd n g := fun h s j hj hf => by
    rw [← h (j + 1) (by omega)]
    exact s j hj (by rw [h j (by omega)]; exact hf)
  constructor
  · intro H o ho
    obtain ⟨r1, -⟩ := zth_ru (c := 0) (sk := sk) (th := th) ho hn m hl
    refine (zsd_0 r1).mpr fun c => ?_
    obtain ⟨-, r2⟩ := zth_ru (c := c) (sk := sk) (th := th) ho hn m hl
    have a1 := H (zrb n (zth n o c)) (zrb_lt n)
    have a2 : ∀ j, j < n → (zrb n (zth n o c)).testBit j = zth n o c j := fun j hj => by rw [zrb_bit, decide_eq_true hj, Bool.true_and]
    exact tr (fun j hj => ((r2 j hj).trans (zbrw_congr (fun q hq => (a2 q hq).symm) m hl1 j hj)).symm) a1
  · intro H r hr
    obtain ⟨o, c, ho, -, hf⟩ := zth_onto n r.testBit
    have a1 := H o ho
    obtain ⟨r1, r2⟩ := zth_ru (c := c) (sk := sk) (th := th) ho hn m hl
    have a2 := (zsd_0 r1).mp a1 c
    exact tr (fun j hj => (r2 j hj).trans (zbrw_congr hf m hl1 j hj)) a2
/-- an element changes an order just if it changes a bit row -/
theorem zgate_ch {n o : Nat} {x : Nat × Nat × Nat × Nat} {b : Bool} (ho : o < zfac n) (hn : n ≤ 7) (hx : x.2.1 + 2 ≤ n) (h3 : x.1 < 3) : zst n x b o ≠ o ↔ ((x.1 = 0) ∨ (x.1 = 1 ∧ ∃ c, zth n o c x.2.1 = true ∧ zth n o c (x.2.1 + 1) = false) ∨ (x.1 = 2 ∧ ∃ c, zth n o c x.2.1 = false ∧ zth n o c (x.2.1 + 1) = true)) := by
  have d := zx_desc ho hn hx
  have ne : zx n x.2.1 o ≠ o := fun eq => by
    have s1 := zinvs_x ho hx
    rw [eq] at s1
    by_cases c : zr n o (x.2.1 + 1) < zr n o x.2.1
    · have := s1.1 c; omega
    · by_cases c2 : zr n o x.2.1 < zr n o (x.2.1 + 1)
      · have := s1.2 c2; omega
      · have := zr_inj ho (show x.2.1 < n by omega) (show x.2.1 + 1 < n by omega) (by omega)
        omega
  have ex1 : (∃ c, zth n o c x.2.1 = true ∧ zth n o c (x.2.1 + 1) = false) ↔ zr n o (x.2.1 + 1) < zr n o x.2.1 := by
    constructor
    · rintro ⟨c, h1, h2⟩
      have h1 := of_decide_eq_true h1
      have h2 := of_decide_eq_false h2
      omega
    · intro h
      exact ⟨zr n o x.2.1, decide_eq_true (Nat.le_refl _), decide_eq_false (by omega)⟩
  have ex2 : (∃ c, zth n o c x.2.1 = false ∧ zth n o c (x.2.1 + 1) = true) ↔ zr n o x.2.1 < zr n o (x.2.1 + 1) := by
    constructor
    · rintro ⟨c, h1, h2⟩
      have h1 := of_decide_eq_false h1
      have h2 := of_decide_eq_true h2
      omega
    · intro h
      exact ⟨zr n o (x.2.1 + 1), decide_eq_false (by omega), decide_eq_true (Nat.le_refl _)⟩
  have nq : zr n o x.2.1 ≠ zr n o (x.2.1 + 1) := fun e => by
    have := zr_inj ho (show x.2.1 < n by omega) (show x.2.1 + 1 < n by omega) e
    omega
  rw [ex1, ex2]
  have k : x.1 = 0 ∨ x.1 = 1 ∨ x.1 = 2 := by omega
  rcases k with k | k | k
  · have e : zst n x b o = zx n x.2.1 o := by unfold zst; rw [if_pos k]
    rw [e]
    exact ⟨fun _ => Or.inl k, fun _ => ne⟩
  · rw [zst_g k]
    by_cases c : zr n o (x.2.1 + 1) < zr n o x.2.1
    · have := d.mpr c
      exact ⟨fun _ => Or.inr (Or.inl ⟨k, c⟩), fun _ => by omega⟩
    · have : ¬ zx n x.2.1 o < o := fun z => c (d.mp z)
      exact ⟨fun z => by omega, fun z => by omega⟩
  · rw [zst_b k]
    by_cases c : zr n o (x.2.1 + 1) < zr n o x.2.1
    · have := d.mpr c
      exact ⟨fun z => by omega, fun z => by omega⟩
    · have : ¬ zx n x.2.1 o < o := fun z => c (d.mp z)
      exact ⟨fun _ => Or.inr (Or.inr ⟨k, by omega⟩), fun _ => by omega⟩
