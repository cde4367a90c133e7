/-- logs of a ladder that count among the first k, of j that are known -/
def zrl (g : Nat → Int × Int × Int × Int) (t : Int) (j k : Nat) (v l : Nat) : Prop := l < k ∧ (g l).1 = t ∧ ¬ zvd g l j ∧ (g l).2.1 = (v : Int)
/-- what is wanted of a number -/
def zwn (g : Nat → Int × Int × Int × Int) (t : Int) (j k v : Nat) (w : Int) : Prop := (w = -1 → ∀ l, ¬ zrl g t j k v l) ∧ (w ≠ -1 → ∃ l, zrl g t j k v l) ∧ ∀ q : Int, 0 ≤ q → (w = -1 ∨ w = q ↔ ∀ l, zrl g t j k v l → (g l).2.2.1 = q)
theorem zrl_s {g : Nat → Int × Int × Int × Int} {t : Int} {j k v l : Nat} : zrl g t j (k + 1) v l ↔ zrl g t j k v l ∨ (l = k ∧ (g k).1 = t ∧ ¬ zvd g k j ∧ (g k).2.1 = (v : Int)) := by
  unfold zrl
  constructor
  · rintro ⟨a, b⟩
    by_cases c : l = k
    · subst c; exact Or.inr ⟨rfl, b⟩
    · exact Or.inl ⟨by omega, b⟩
  · rintro (⟨a, b⟩ | ⟨a, b⟩)
    · exact ⟨by omega, b⟩
    · subst a; exact ⟨by omega, b⟩
theorem zwn_skip {g : Nat → Int × Int × Int × Int} {t w : Int} {j k v : Nat} (Z : zwn g t j k v w) (c : ¬ ((g k).1 = t ∧ ¬ zvd g k j ∧ (g k).2.1 = (v : Int))) : zwn g t j (k + 1) v w := by
  have e : ∀ l, zrl g t j (k + 1) v l ↔ zrl g t j k v l := fun l => by
    rw [zrl_s]
    exact ⟨fun z => z.elim id fun z => absurd z.2 c, Or.inl⟩
  unfold zwn at *
  simp only [e]
  exact Z
theorem zwn_new {g : Nat → Int × Int × Int × Int} {t w : Int} {j k v : Nat} (Z : zwn g t j k v w) (c : (g k).1 = t ∧ ¬ zvd g k j ∧ (g k).2.1 = (v : Int)) (p0 : 0 ≤ (g k).2.2.1) : zwn g t j (k + 1) v (if w = -1 ∨ w = (g k).2.2.1 then (g k).2.2.1 else -2) := by
  obtain ⟨z1, z2, z3⟩ := Z
  have hk : zrl g t j (k + 1) v k := zrl_s.mpr (Or.inr ⟨rfl, c⟩)
  by_cases d : w = -1 ∨ w = (g k).2.2.1
  · rw [if_pos d]
    refine ⟨fun a => by omega, fun _ => ⟨k, hk⟩, fun q hq => ⟨fun a l hl => ?_, fun a => Or.inr (a k hk)⟩⟩
    have e : (g k).2.2.1 = q := by omega
    rcases zrl_s.mp hl with b | b
    · exact (z3 q hq).mp (by omega) l b
    · rw [b.1]; exact e
  · rw [if_neg d]
    refine ⟨fun a => by omega, fun _ => ⟨k, hk⟩, fun q hq => ⟨fun a => by omega, fun a => ?_⟩⟩
    exfalso
    have e := a k hk
    have b := (z3 q hq).mpr fun l hl => a l (zrl_s.mpr (Or.inl hl))
    omega
