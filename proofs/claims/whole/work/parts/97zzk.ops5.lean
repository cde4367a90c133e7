/-! A CALL THAT CHANGES: READ -/
section
variable {X : List Int}
theorem zop_160 (k : Nat) (hk : k < 1000) : zOp_160 X (zInv k) (zInv (k + 1)) := by
  intro h J
  obtain ⟨N, s, A, G, g, T, tb, I, W, hs⟩ := J
  obtain ⟨f, ci, mi, pl⟩ := I
  obtain ⟨i1, i2, i3, i4, i5, i6, i7, i8, i9, i10, i11, i12⟩ := ci
  refine cx_160 f i1 i3 i10 i11 i12 (by omega) ?_ ?_
  · intro e
    exact ⟨_, rfl, cm_239 f mi.1 mi.2.2.2 (fun _ => ⟨rfl, N, s, A, G, g, T, tb, ⟨f, ⟨i1, i2, i3, i4, i5, i6, i7, i8, i9, i10, i11, i12⟩, mi, pl⟩, W, by omega⟩) (fun z => by omega)⟩
  · intro hN h1 F1 T1 fr1 r1 t1 e14 S0 S1
    have n : ∀ c, (3 ≤ c ∧ c ≤ 5) ∨ (24 ≤ c ∧ c ≤ 67) ∨ (69 ≤ c ∧ c ≤ 71) ∨ c = 79 ∨ 108 ≤ c → h1 c = h c := fun c hc => fr1 c (by simp; omega)
    have f2 : ∀ u, u < N → h1 (6 + 3 * u) 5 = h (6 + 3 * u) 5 := fun u hu => by rw [fr1 (6 + 3 * u) (by simp; omega)]
    have mi1 : zMI h1 N A G g T tb := mi.kp fun c a b => n c (by omega)
    refine ⟨_, rfl, cm_239 F1 mi1.1 mi1.2.2.2 (fun z => by omega) fun _ h2 y t2 p21 M0 M1 => ⟨rfl, ?_⟩⟩
    obtain ⟨F2, fr2, cs⟩ := y
    have pl2 : h2 0 14 = h2 108 21 := by rw [fr2 0 (by decide), e14, p21]
    have L2 : zML h2 := mi1.2.1.keep (cs 38 (by decide)) (cs 39 (by decide)) fun c a b => fr2 c (by simp; omega)
    have g2 : zGM h2 G g := mi1.2.2.1.k (cs 7 (by decide)) fun c a b => fr2 c (by simp; omega)
    by_cases w : (zRdF tb T).1 = 0
    · obtain ⟨S1, g5⟩ := S1 w
      have ci : zCI h N s A G g T tb := ⟨i1, i2, i3, i4, i5, i6, i7, i8, i9, i10, i11, i12⟩
      have ci1 := ci.push (T2 := 0) hN (fun c _ hc => n c (by omega)) f2 T1 S1 g5 t1
      exact ⟨N + 1, s + 1, _, G, g, 0, tb, ⟨F2, ci1.kp fr2 (by simp), ⟨M1 w, L2, g2, t2⟩, pl2⟩, W.push, by omega⟩
    · have ci : zCI h N s A G g T tb := ⟨i1, i2, i3, i4, i5, i6, i7, i8, i9, i10, i11, i12⟩
      have ci1 := ci.tx (T2 := 0) (tb2 := tb) (fun c hc => n c (by omega)) f2 T1 (S0 w) t1
      exact ⟨N, s, A, G, g, 0, tb, ⟨F2, ci1.kp fr2 (by simp), ⟨M0 w, L2, g2, t2⟩, pl2⟩, W, by omega⟩
end
