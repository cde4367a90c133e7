/-! RUNGS THAT UNDO ONE ANOTHER: places of those that are left -/
def zhwo (e : zel) (f : Nat → Nat) : Nat → Nat → Nat
  | 0, a => a
  | j + 1, a => zhwo e f j (zbsd (e (f j)).2.1 a)
def zpx (e : zel) (f : Nat → Nat) (j : Nat) : Nat := min (zhwo e f j (e (f j)).2.1) (zhwo e f j ((e (f j)).2.1 + 1))
def zpy (e : zel) (f : Nat → Nat) (j : Nat) : Nat := max (zhwo e f j (e (f j)).2.1) (zhwo e f j ((e (f j)).2.1 + 1))
def zsp (e : zel) (f : Nat → Nat) (j k : Nat) : Prop := zpx e f j = zpx e f k ∧ zpy e f j = zpy e f k
/-- the first that undoes one above it, and that one -/
def zcol (e : zel) (f : Nat → Nat) (c j k : Nat) : Prop := j < c ∧ k < j ∧ zsp e f j k ∧ ∀ a b, a < b → b < j → ¬ zsp e f b a
theorem zcol_one {e : zel} {f : Nat → Nat} {c j k j2 k2 : Nat} (h : zcol e f c j k) (h2 : zcol e f c j2 k2) : j = j2 ∧ k = k2 := by
  obtain ⟨a1, a2, a3, a4⟩ := h
  obtain ⟨b1, b2, b3, b4⟩ := h2
  have ej : j = j2 := by
    by_cases c1 : j < j2
    · exact absurd a3 (b4 k j a2 c1)
    · by_cases c2 : j2 < j
      · exact absurd b3 (a4 k2 j2 b2 c2)
      · omega
  subst ej
  refine ⟨rfl, ?_⟩
  by_cases c1 : k < k2
  · exact absurd ⟨b3.1.symm.trans a3.1, b3.2.symm.trans a3.2⟩ (a4 k k2 c1 b2)
  · by_cases c2 : k2 < k
    · exact absurd ⟨a3.1.symm.trans b3.1, a3.2.symm.trans b3.2⟩ (a4 k2 k c2 a2)
    · omega
/-- the places without two of them -/
def zskp (k j i : Nat) : Nat := if i < k then i else if i + 1 < j then i + 1 else i + 2
noncomputable def znx (e : zel) (s : Nat × (Nat → Nat)) : Nat × (Nat → Nat) := @dite _ (∃ p : Nat × Nat, zcol e s.2 s.1 p.1 p.2) (Classical.propDecidable _) (fun h => (s.1 - 2, fun i => s.2 (zskp h.choose.2 h.choose.1 i))) (fun _ => s)
theorem znx_yes {e : zel} {f : Nat → Nat} {c j k : Nat} (h : zcol e f c j k) : znx e (c, f) = (c - 2, fun i => f (zskp k j i)) := by
  have hp : ∃ p : Nat × Nat, zcol e f c p.1 p.2 := ⟨(j, k), h⟩
  unfold znx
  rw [dif_pos hp]
  obtain ⟨e1, e2⟩ := zcol_one hp.choose_spec h
  show (c - 2, fun i => f (zskp hp.choose.2 hp.choose.1 i)) = _
  rw [e1, e2]
theorem znx_no {e : zel} {f : Nat → Nat} {c : Nat} (h : ∀ j k, ¬ zcol e f c j k) : znx e (c, f) = (c, f) := by
  unfold znx
  exact dif_neg (fun ⟨p, hp⟩ => h p.1 p.2 hp)
noncomputable def znxs (e : zel) : Nat → Nat × (Nat → Nat) → Nat × (Nat → Nat)
  | 0, s => s
  | q + 1, s => znxs e q (znx e s)
theorem znxs_stay {e : zel} {f : Nat → Nat} {c : Nat} (h : ∀ j k, ¬ zcol e f c j k) : ∀ q, znxs e q (c, f) = (c, f) := by
  intro q
  induction q with
  | zero => rfl
  | succ q ih =>
    show znxs e q (znx e (c, f)) = _
    rw [znx_no h, ih]
theorem znxs_long {e : zel} : ∀ (b c : Nat) (f : Nat → Nat) (q : Nat), c ≤ b → c ≤ q → znxs e q (c, f) = znxs e c (c, f) := by
  intro b
  induction b with
  | zero =>
    intro c f q hb hq
    have no : ∀ j k, ¬ zcol e f c j k := fun j k h => by have := h.1; omega
    rw [znxs_stay no, znxs_stay no]
  | succ b ih =>
    intro c f q hb hq
    by_cases hc : ∃ p : Nat × Nat, zcol e f c p.1 p.2
    · obtain ⟨p, hp⟩ := hc
      have h1 := hp.1
      have h2 := hp.2.1
      obtain ⟨q', eq⟩ : ∃ q', q = q' + 1 := ⟨q - 1, by omega⟩
      obtain ⟨c', ec⟩ : ∃ c', c = c' + 1 := ⟨c - 1, by omega⟩
      have y := znx_yes hp
      rw [eq]
      show znxs e q' (znx e (c, f)) = _
      have e2 : znxs e c (c, f) = znxs e c' (znx e (c, f)) := by rw [ec]; rfl
      rw [e2, y, ih (c - 2) _ q' (by omega) (by omega), ih (c - 2) _ c' (by omega) (by omega)]
    · have no : ∀ j k, ¬ zcol e f c j k := fun j k h => hc ⟨(j, k), h⟩
      rw [znxs_stay no, znxs_stay no]
noncomputable def zclrd (e : zel) (c : Nat) (f : Nat → Nat) : Nat × (Nat → Nat) := znxs e c (c, f)
theorem zclr_yes {e : zel} {f : Nat → Nat} {c j k : Nat} (h : zcol e f c j k) : zclrd e c f = zclrd e (c - 2) (fun i => f (zskp k j i)) := by
  have h1 := h.1
  have h2 := h.2.1
  obtain ⟨c', ec⟩ : ∃ c', c = c' + 1 := ⟨c - 1, by omega⟩
  have e2 : zclrd e c f = znxs e c' (znx e (c, f)) := by unfold zclrd; rw [ec]; rfl
  rw [e2, znx_yes h]
  exact znxs_long _ _ _ _ (Nat.le_refl _) (by omega)
theorem zclr_no {e : zel} {f : Nat → Nat} {c : Nat} (h : ∀ j k, ¬ zcol e f c j k) : zclrd e c f = (c, f) := znxs_stay h c
/-- places in their order -/
def zinc (m c : Nat) (f : Nat → Nat) : Prop := (∀ k, k < c → f k < m) ∧ ∀ a b, a < b → b < c → f a < f b
theorem zinc_le {m c : Nat} {f : Nat → Nat} (I : zinc m c f) : c ≤ m := by
  have : ∀ k, k < c → k ≤ f k := by
    intro k
    induction k with
    | zero => intro _; exact Nat.zero_le _
    | succ k ihk =>
      intro hk
      have a1 := I.2 k (k + 1) (by omega) hk
      have a2 := ihk (by omega)
      omega
  by_cases z : c = 0
  · omega
  · have a1 := this (c - 1) (by omega)
    have a2 := I.1 (c - 1) (by omega)
    omega
theorem zskp_inc {m c j k : Nat} {f : Nat → Nat} (I : zinc m c f) (hj : j < c) (hk : k < j) : zinc m (c - 2) (fun i => f (zskp k j i)) := by
  have u : ∀ i, zskp k j i = if i < k then i else if i + 1 < j then i + 1 else i + 2 := fun i => rfl
  refine ⟨fun i hi => I.1 _ ?_, fun a b hab hb => I.2 _ _ ?_ ?_⟩
  · rw [u]; split
    · omega
    · split <;> omega
  · rw [u, u]
    split
    · split
      · omega
      · split <;> omega
    · split
      · split
        · omega
        · split <;> omega
      · split
        · omega
        · split <;> omega
  · rw [u]; split
    · omega
    · split <;> omega
theorem zskp_mem {c j k : Nat} {f : Nat → Nat} (hj : j < c) (hk : k < j) (i : Nat) (hd : ∀ a b, a < c → b < c → f a = f b → a = b) : (∃ q, q < c - 2 ∧ f (zskp k j q) = i) ↔ (∃ q, q < c ∧ f q = i) ∧ i ≠ f j ∧ i ≠ f k := by
  have u : ∀ i, zskp k j i = if i < k then i else if i + 1 < j then i + 1 else i + 2 := fun i => rfl
  constructor
  · rintro ⟨q, hq, e⟩
    have b : zskp k j q < c ∧ zskp k j q ≠ j ∧ zskp k j q ≠ k := by
      rw [u]; split
      · omega
      · split <;> omega
    exact ⟨⟨_, b.1, e⟩, fun z => b.2.1 (hd _ _ b.1 hj (e.trans z)), fun z => b.2.2 (hd _ _ b.1 (by omega) (e.trans z))⟩
  · rintro ⟨⟨q, hq, e⟩, n1, n2⟩
    have q1 : q ≠ j := fun z => n1 (by rw [← e, z])
    have q2 : q ≠ k := fun z => n2 (by rw [← e, z])
    refine ⟨if q < k then q else if q < j then q - 1 else q - 2, ?_, ?_⟩
    · split
      · omega
      · split <;> omega
    · rw [← e]
      congr 1
      rw [u]
      by_cases c1 : q < k
      · rw [if_pos c1, if_pos c1]
      · rw [if_neg c1]
        by_cases c2 : q < j
        · rw [if_pos c2, if_neg (by omega), if_pos (by omega)]; omega
        · rw [if_neg c2, if_neg (by omega), if_neg (by omega)]; omega
theorem zhw_lt {e : zel} {n c : Nat} {f : Nat → Nat} (h2 : ∀ k, k < c → (e (f k)).2.1 + 2 ≤ n) : ∀ j a, j ≤ c → a < n → zhwo e f j a < n := by
  intro j
  induction j with
  | zero => intro a _ ha; exact ha
  | succ j ih =>
    intro a hj ha
    exact ih _ (by omega) (zbsd_lt (h2 j (by omega)) ha)
theorem zhw_8 {e : zel} {c : Nat} {f : Nat → Nat} (h2 : ∀ k, k < c → (e (f k)).2.1 + 2 ≤ 7) : ∀ j a, j ≤ c → a < 8 → zhwo e f j a < 8 := by
  intro j
  induction j with
  | zero => intro a _ ha; exact ha
  | succ j ih =>
    intro a hj ha
    refine ih _ (by omega) ?_
    have := h2 j (by omega)
    unfold zbsd
    split
    · omega
    · split <;> omega
