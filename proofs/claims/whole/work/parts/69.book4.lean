/-- a row fits what is wanted just if its order fits the logs -/
theorem zwn_fit {n o j : Nat} {g : Nat → Int × Int × Int × Int} {t : Int} {w : Nat → Int} (hn : n ≤ 7) (ho : o < zfac n) (W : ∀ v, v < 7 → zwn g t j j v (w v)) (V : ∀ i, i < j → (g i).1 = t → 0 ≤ (g i).2.1 ∧ (g i).2.1 < (n : Int) ∧ 0 ≤ (g i).2.2.1 ∧ (g i).2.2.1 < (n : Int)) : (∀ i, i < n → w (zr n o i) = -1 ∨ w (zr n o i) = (i : Int)) ↔ zfit n g t o j := by
  constructor
  · intro H k hk ht hv
    obtain ⟨v1, v2, v3, v4⟩ := V k hk ht
    obtain ⟨x, hx⟩ : ∃ x : Nat, (g k).2.1 = (x : Int) := ⟨(g k).2.1.toNat, by omega⟩
    have hx7 : x < n := by omega
    have hp := zp_lt ho hx7
    have e := H _ hp
    rw [zr_p ho hx7] at e
    have e2 := ((W x (by omega)).2.2 (zp n o x : Int) (by omega)).mp e k ⟨hk, ht, hv, hx⟩
    rw [e2, Int.toNat_natCast, zr_p ho hx7, hx]
  · intro H i hi
    have r := zr_lt7 ho hi
    refine ((W (zr n o i) (by omega)).2.2 (i : Int) (by omega)).mpr fun l hl => ?_
    obtain ⟨l1, l2, l3, l4⟩ := hl
    obtain ⟨v1, v2, v3, v4⟩ := V l l1 l2
    have e := H l l1 l2 l3
    rw [l4] at e
    have e1 : zr n o (g l).2.2.1.toNat = zr n o i := by omega
    have e2 := zp_eq ho (show (g l).2.2.1.toNat < n by omega) e1
    have e3 := zp_eq ho hi (rfl : zr n o i = _)
    omega
