/-! THE REFERENCE: calls that make ladders; tape, logs -/
section
variable {X : List Int} {h : zHP} {K : Option zAV → zHP → Prop} {N : Nat} {A : Nat → Nat × Nat × zel}
theorem zpsh_N {A : Nat → Nat × Nat × zel} {N : Nat} {x : Nat × Nat × zel} : zpsh A N x N = x := if_pos rfl
theorem zpsh_l {A : Nat → Nat × Nat × zel} {N t : Nat} {x : Nat × Nat × zel} (ht : t < N) : zpsh A N x t = A t := if_neg (by omega)
theorem cm_241 {n : Nat} (F : zFin h) (M : zMS h N A) (hN : N < 6) (hn : 2 ≤ n ∧ n ≤ 7) (k : ∀ h', zFin h' → zfr [108, 109, 110] h h' → (∀ j, j ≠ 0 → h' 108 j = h 108 j) → (∀ e : zel, zMS h' (N + 1) (zpsh A N (n, 0, e))) → K none h') : zC X 241 [zR 108, zI n] h K := by
  obtain ⟨m1, m2, m3⟩ := M
  have e0 : (h 108 0).toNat = N := by omega
  apply sg_241_0 F <;> intros <;> (try omega)
  rw [e0]
  refine ⟨rfl, k _ (((F.upA zfa_109).upA zfa_110).up zfn_108_0) (((zfr.rfl.up (by simp)).up (by simp)).up (by simp)) (fun j hj => (zup_k hj).trans ((zup_c (by decide)).trans (zup_c (by decide)))) fun e => ⟨?_, by omega, fun t ht => ?_⟩⟩
  · rw [zup_eq]; omega
  · by_cases c : t = N
    · subst c
      rw [zpsh_N]
      refine ⟨⟨hn, by omega, by show 0 ≤ 20; omega, fun i hi => by omega⟩, ?_, ?_, fun i hi => by omega⟩
      · rw [zup_c (by decide), zup_c (by decide), zup_eq]
      · rw [zup_c (by decide), zup_eq]; rfl
    · rw [zpsh_l (by omega)]
      obtain ⟨a1, a2, a3, a4⟩ := m3 t (by omega)
      refine ⟨a1, ?_, ?_, fun i hi => ?_⟩
      · rw [zup_c (by decide), zup_c (by decide), zup_k c]; exact a2
      · rw [zup_c (by decide), zup_k c, zup_c (by decide)]; exact a3
      · have := a4 i hi
        simp only [zup_c (show ¬ 111 = 108 by decide), zup_c (show ¬ 111 = 109 by decide), zup_c (show ¬ 111 = 110 by decide), zup_c (show ¬ 112 = 108 by decide), zup_c (show ¬ 112 = 109 by decide), zup_c (show ¬ 112 = 110 by decide), zup_c (show ¬ 113 = 108 by decide), zup_c (show ¬ 113 = 109 by decide), zup_c (show ¬ 113 = 110 by decide), zup_c (show ¬ 114 = 108 by decide), zup_c (show ¬ 114 = 109 by decide), zup_c (show ¬ 114 = 110 by decide)]
        exact this
end
