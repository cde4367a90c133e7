/-! WHAT A CALL LEAVES AS IT WAS; the table of exchanges -/
/-- all cells but those of W are as before -/
def zfr (W : List Nat) (h h' : zHP) : Prop := ∀ c, c ∉ W → h' c = h c
theorem zfr.rfl {W : List Nat} {h : zHP} : zfr W h h := fun _ _ => Eq.refl _
theorem zfr.trans {W : List Nat} {h h1 h2 : zHP} (a : zfr W h h1) (b : zfr W h1 h2) : zfr W h h2 := fun c hc => (b c hc).trans (a c hc)
theorem zfr.mono {W W2 : List Nat} {h h1 : zHP} (a : zfr W h h1) (hs : ∀ c ∈ W, c ∈ W2) : zfr W2 h h1 := fun c hc => a c (fun z => hc (hs c z))
theorem zfr.up {W : List Nat} {h h1 : zHP} {a k : Nat} {x : Int} (q : zfr W h h1) (ha : a ∈ W) : zfr W h (zup h1 a k x) := fun c hc => by
  have e : ¬ c = a := fun z => hc (z ▸ ha)
  funext j
  unfold zup
  rw [if_neg e]
  exact congrFun (q c hc) j
theorem zup_eq {h : zHP} {a k : Nat} {x : Int} : zup h a k x a k = x := by unfold zup; rw [if_pos rfl, if_pos rfl]
theorem zup_k {h : zHP} {a k j : Nat} {x : Int} (e : ¬ j = k) : zup h a k x a j = h a j := by unfold zup; rw [if_pos rfl, if_neg e]
theorem zup_c {h : zHP} {a k b j : Nat} {x : Int} (e : ¬ b = a) : zup h a k x b j = h b j := by unfold zup; rw [if_neg e]
/-- the table of exchanges, for orders of up to r -/
def zOTr (h : zHP) (r : Nat) : Prop := ∀ j o, j + 2 ≤ r → o < zfac r → h 2 ((5 - j) * 5040 + o) = (zsj j o : Int)
def zOT (h : zHP) : Prop := ∃ r : Nat, h 1 1 = (r : Int) ∧ (r = 0 ∨ 2 ≤ r) ∧ r ≤ 7 ∧ zOTr h r
theorem zfac_mono : ∀ {a b : Nat}, a ≤ b → zfac a ≤ zfac b := by
  intro a b hab
  induction b with
  | zero => have e : a = 0 := by omega
            subst e; exact Nat.le_refl _
  | succ b ih =>
    by_cases e : a = b + 1
    · subst e; exact Nat.le_refl _
    · have h1 := ih (by omega)
      have h2 : zfac b ≤ zfac (b + 1) := by
        show zfac b ≤ (b + 1) * zfac b
        exact Nat.le_mul_of_pos_left _ (Nat.succ_pos b)
      omega
theorem zckS_at {o : Nat} (ho : o < 5040) {j : Nat} (hj : j < 6) : zsj j o < 5040 ∧ zsj j (zsj j o) = o ∧ (zsj j o < o ↔ zD j o < zD (j + 1) o) ∧ zsj j o ≠ o := by
  have h1 := zbl_spec (zbl_spec zckS_all o ho) j hj
  simp only [Bool.and_eq_true, beq_iff_eq, Bool.not_eq_true'] at h1
  obtain ⟨⟨⟨a, b⟩, c⟩, d⟩ := h1
  refine ⟨Nat.blt_eq.mp a, Nat.eq_of_beq_eq_true b, ?_, fun z => ?_⟩
  · constructor
    · intro z; rw [Nat.blt_eq.mpr z] at c; exact Nat.blt_eq.mp c.symm
    · intro z; rw [Nat.blt_eq.mpr z] at c; exact Nat.blt_eq.mp c
  · rw [z, Nat.beq_refl] at d; cases d
theorem zD_mul_le (j o : Nat) : zD j o * zfac j ≤ o :=
  Nat.le_trans (Nat.mul_le_mul_right _ (Nat.mod_le _ _)) (Nat.div_mul_le_self o (zfac j))
theorem zsj_le {j o : Nat} (hh : zD (j + 1) o ≤ zD j o) : (zsj j o : Int) = ((o : Int) + ((zD j o : Int) + 1 - (zD (j + 1) o : Int)) * (zfac (j + 1) : Int)) + ((zD (j + 1) o : Int) - (zD j o : Int)) * (zfac j : Int) := by
  have e : Nat.blt (zD j o) (zD (j + 1) o) = false := by
    cases hb : Nat.blt (zD j o) (zD (j + 1) o) with
    | false => rfl
    | true => have := Nat.blt_eq.mp hb; omega
  unfold zsj
  rw [e, cond_false]
  obtain ⟨d, hd⟩ := Nat.le.dest hh
  rw [← hd]
  generalize zD (j + 1) o = L at *
  have e1 : L + d + 1 - L = d + 1 := by omega
  have e2 : L + d - L = d := by omega
  rw [e1, e2]
  have hm := zfac_mono (Nat.le_succ j)
  have h1 : d * zfac j ≤ (d + 1) * zfac (j + 1) := Nat.mul_le_mul (by omega) hm
  have h2 : ((L + d : Nat) : Int) + 1 - (L : Int) = ((d + 1 : Nat) : Int) := by omega
  have h3 : (L : Int) - ((L + d : Nat) : Int) = -(d : Int) := by omega
  rw [h2, h3, ← Int.natCast_mul, Int.neg_mul, ← Int.natCast_mul]
  omega
theorem zsj_gt {j o : Nat} (hh : zD j o < zD (j + 1) o) : (zsj j o : Int) = ((o : Int) + ((zD j o : Int) - (zD (j + 1) o : Int)) * (zfac (j + 1) : Int)) + (((zD (j + 1) o : Int) - 1) - (zD j o : Int)) * (zfac j : Int) := by
  have e : Nat.blt (zD j o) (zD (j + 1) o) = true := Nat.blt_eq.mpr hh
  have hm := zD_mul_le (j + 1) o
  unfold zsj
  rw [e, cond_true]
  obtain ⟨d, hd⟩ := Nat.le.dest hh
  have hL : zD (j + 1) o = zD j o + d + 1 := by omega
  rw [hL] at hm ⊢
  generalize zD j o = R at *
  have e1 : R + d + 1 - R = d + 1 := by omega
  have e2 : R + d + 1 - 1 - R = d := by omega
  rw [e1, e2]
  have h1 : (d + 1) * zfac (j + 1) ≤ o := Nat.le_trans (Nat.mul_le_mul_right _ (by omega)) hm
  have h2 : (R : Int) - ((R + d + 1 : Nat) : Int) = -((d + 1 : Nat) : Int) := by omega
  have h3 : ((R + d + 1 : Nat) : Int) - 1 - (R : Int) = (d : Int) := by omega
  rw [h2, h3, Int.neg_mul, ← Int.natCast_mul, ← Int.natCast_mul]
  omega
theorem zbm16 {x : Nat} (hx : x < 5040) : Int.bmod (Int.bmod (x : Int) 65536) 65536 = (x : Int) := by
  have e : Int.bmod (x : Int) 65536 = (x : Int) := by
    rw [Int.bmod_eq_of_le]
    · omega
    · omega
  rw [e, e]
theorem zfac7 {n : Nat} (hn : n ≤ 7) : zfac n ≤ 5040 := zfac_mono hn
/-- what holds of the table while it is filled for n: rows k' < k, and of row k the orders below q -/
def zOTp (h : zHP) (r n k q : Nat) : Prop := zOTr h r ∧ ∀ j o, j + 2 ≤ n → o < zfac n → (n - 2 - k < j ∨ (j = n - 2 - k ∧ o < q)) → h 2 ((5 - j) * 5040 + o) = (zsj j o : Int)
theorem zOTp.put {h : zHP} {r n k q : Nat} (t : zOTp h r n k q) (hr : r ≤ 7) (hn : n ≤ 7) (hk : k + 2 ≤ n) (hq : q < zfac n) : zOTp (zup h 2 ((5 - (n - 2 - k)) * 5040 + q) (zsj (n - 2 - k) q : Int)) r n k (q + 1) := by
  have h7 := zfac7 hn
  have key : ∀ j o, j ≤ 5 → o < 5040 → (h 2 ((5 - j) * 5040 + o) = (zsj j o : Int) ∨ (j = n - 2 - k ∧ o = q)) → zup h 2 ((5 - (n - 2 - k)) * 5040 + q) (zsj (n - 2 - k) q : Int) 2 ((5 - j) * 5040 + o) = (zsj j o : Int) := by
    intro j o hj ho hh
    by_cases e : (5 - j) * 5040 + o = (5 - (n - 2 - k)) * 5040 + q
    · have e1 : j = n - 2 - k := by omega
      have e2 : o = q := by omega
      subst e2
      rw [e1]
      exact zup_eq
    · rw [zup_k e]
      rcases hh with hh | ⟨e1, e2⟩
      · exact hh
      · exact absurd (by rw [e1, e2]) e
  refine ⟨fun j o hj ho => key j o (by omega) (by have := zfac7 hr; omega) (Or.inl (t.1 j o hj ho)), fun j o hj ho hh => key j o (by omega) (by omega) ?_⟩
  by_cases e : j = n - 2 - k ∧ o = q
  · exact Or.inr e
  · exact Or.inl (t.2 j o hj ho (by omega))
