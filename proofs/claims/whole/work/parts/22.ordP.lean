/-! WHAT A CALL LEAVES AS IT WAS; the table of exchanges -/
/-- all cells but those of W are as before -/
def zfr (W : List Nat) (h h' : zHP) : Prop := ∀ c, c ∉ W → h' c = h c
theorem zfr.rfl {W : List Nat} {h : zHP} : zfr W h h := fun _ _ => Eq.refl _
theorem zfr.trans {W : List Nat} {h h1 h2 : zHP} (a : zfr W h h1) (b : zfr W h1 h2) : zfr W h h2 := fun c hc => (b c hc).trans (a c hc)
theorem zfr.mono {W W2 : List Nat} {h h1 : zHP} (a : zfr W h h1) (hs : ∀ c ∈ W, c ∈ W2) : zfr W2 h h1 := fun c hc => a c (fun z => hc (hs c z))
theorem zfr.up {W : List Nat} {h h1 : zHP} {a k : Nat} {x : Int} (q : zfr W h h1) (ha : a ∈ W) : zfr W h (zup h1 a k x) := fun c hc => by
  have e : ¬ c = a := fun z => hc (z ▸ ha)
  funext j
  unfold zup
  rw [if_neg e]
  exact congrFun (q c hc) j
theorem zup_eq {h : zHP} {a k : Nat} {x : Int} : zup h a k x a k = x := by unfold zup; rw [if_pos rfl, if_pos rfl]
theorem zup_k {h : zHP} {a k j : Nat} {x : Int} (e : ¬ j = k) : zup h a k x a j = h a j := by unfold zup; rw [if_pos rfl, if_neg e]
theorem zup_c {h : zHP} {a k b j : Nat} {x : Int} (e : ¬ b = a) : zup h a k x b j = h b j := by unfold zup; rw [if_neg e]
/-- the table of exchanges, for orders of up to r -/
def zOTr (h : zHP) (r : Nat) : Prop := ∀ j o, j + 2 ≤ r → o < zfac r → h 2 ((5 - j) * 5040 + o) = (zsj j o : Int)
def zOT (h : zHP) : Prop := ∃ r : Nat, h 1 1 = (r : Int) ∧ (r = 0 ∨ 2 ≤ r) ∧ r ≤ 7 ∧ zOTr h r
theorem zfac_mono : ∀ {a b : Nat}, a ≤ b → zfac a ≤ zfac b := by
  intro a b hab
  induction b with
  | zero => have e : a = 0 := by omega
            subst e; exact Nat.le_refl _
  | succ b ih =>
    by_cases e : a = b + 1
    · subst e; exact Nat.le_refl _
    · have h1 := ih (by omega)
      have h2 : zfac b ≤ zfac (b + 1) := by
        show zfac b ≤ (b + 1) * zfac b
        exact Nat.le_mul_of_pos_left _ (Nat.succ_pos b)
      omega
theorem zckS_at {o : Nat} (ho : o < 5040) {j : Nat} (hj : j < 6) : zsj j o < 5040 ∧ zsj j (zsj j o) = o ∧ (zsj j o < o ↔ zD j o < zD (j + 1) o) ∧ zsj j o ≠ o := by
  have h1 := zbl_spec (zbl_spec zckS_all o ho) j hj
  simp only [Bool.and_eq_true, beq_iff_eq, Bool.not_eq_true'] at h1
  obtain ⟨⟨⟨a, b⟩, c⟩, d⟩ := h1
  refine ⟨Nat.blt_eq.mp a, Nat.eq_of_beq_eq_true b, ?_, fun z => ?_⟩
  · constructor
    · intro z; rw [Nat.blt_eq.mpr z] at c; exact Nat.blt_eq.mp c.symm
    · intro z; rw [Nat.blt_eq.mpr z] at c; exact Nat.blt_eq.mp c
  · rw [z, Nat.beq_refl] at d; cases d
