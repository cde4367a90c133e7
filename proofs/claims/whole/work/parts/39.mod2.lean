/-! THE REFERENCE: calls that make ladders; tape, logs -/
section
variable {X : List Int} {h : zHP} {K : Option zAV → zHP → Prop} {N : Nat} {A : Nat → Nat × Nat × zel}
theorem zpsh_N {A : Nat → Nat × Nat × zel} {N : Nat} {x : Nat × Nat × zel} : zpsh A N x N = x := if_pos rfl
theorem zpsh_l {A : Nat → Nat × Nat × zel} {N t : Nat} {x : Nat × Nat × zel} (ht : t < N) : zpsh A N x t = A t := if_neg (by omega)
theorem cm_241 {n : Nat} (F : zFin h) (M : zMS h N A) (hN : N < 6) (hn : 2 ≤ n ∧ n ≤ 7) (k : ∀ h', zFin h' → zfr [108, 109, 110] h h' → (∀ j, j ≠ 0 → h' 108 j = h 108 j) → (∀ e : zel, zMS h' (N + 1) (zpsh A N (n, 0, e))) → K none h') : zC X 241 [zR 108, zI n] h K := by
  obtain ⟨m1, m2, m3⟩ := M
  have e0 : (h 108 0).toNat = N := by omega
  apply sg_241_0 F <;> intros <;> (try omega)
  rw [e0]
  refine ⟨rfl, k _ (((F.upA zfa_109).upA zfa_110).up zfn_108_0) (((zfr.rfl.up (by simp)).up (by simp)).up (by simp)) (fun j hj => (zup_k hj).trans ((zup_c (by decide)).trans (zup_c (by decide)))) fun e => ⟨?_, by omega, fun t ht => ?_⟩⟩
  · rw [zup_eq]; omega
  · by_cases c : t = N
    · subst c
      rw [zpsh_N]
      show zlok n 0 e ∧ zLM _ t n 0 e
      refine ⟨⟨hn, by omega, by show 0 ≤ 20; omega, fun i hi => by omega⟩, ?_, ?_, fun i hi => by omega⟩
      · rw [zup_c (by decide), zup_c (by decide), zup_eq]
      · rw [zup_c (by decide), zup_eq]; rfl
    · rw [zpsh_l (by omega)]
      obtain ⟨a1, a2, a3, a4⟩ := m3 t (by omega)
      refine ⟨a1, ?_, ?_, fun i hi => ?_⟩
      · rw [zup_c (by decide), zup_c (by decide), zup_k c]; exact a2
      · rw [zup_c (by decide), zup_k c, zup_c (by decide)]; exact a3
      · have := a4 i hi
        simp only [zup_c (show ¬ 111 = 108 by decide), zup_c (show ¬ 111 = 109 by decide), zup_c (show ¬ 111 = 110 by decide), zup_c (show ¬ 112 = 108 by decide), zup_c (show ¬ 112 = 109 by decide), zup_c (show ¬ 112 = 110 by decide), zup_c (show ¬ 113 = 108 by decide), zup_c (show ¬ 113 = 109 by decide), zup_c (show ¬ 113 = 110 by decide), zup_c (show ¬ 114 = 108 by decide), zup_c (show ¬ 114 = 109 by decide), zup_c (show ¬ 114 = 110 by decide)]
        exact this
theorem cm_242 {n i : Nat} {e : zel} {k l a b : Int} (F : zFin h) (M : zMS h (N + 1) (zpsh A N (n, i, e))) (hl : zlok n (i + 1) e) (hk : k = ((e i).1 : Int)) (hleg : l = ((e i).2.1 : Int)) (hab : (e i).1 = 3 → a = ((e i).2.2.1 : Int) ∧ b = ((e i).2.2.2 : Int)) (q : ∀ h', zFin h' → zfr [110, 111, 112, 113, 114] h h' → zMS h' (N + 1) (zpsh A N (n, i + 1, e)) → K none h') : zC X 242 [zR 108, zI k, zI l, zI a, zI b] h K := by
  obtain ⟨m1, m2, m3⟩ := M
  have mN := m3 N (by omega)
  rw [zpsh_N] at mN
  obtain ⟨-, mN1, mN2, mN3⟩ := mN
  have e0 : (h 108 0 - 1).toNat = N := by omega
  have e2 : h 110 (h 108 0 - 1).toNat = (i : Int) := by rw [e0]; exact mN2
  have e1 : (200 * (h 108 0 - 1) + h 110 (h 108 0 - 1).toNat).toNat = 200 * N + i := by omega
  have h200 := hl.2.1
  apply sg_242_0 F <;> intros <;> (try omega)
  rw [e1, e0, mN2]
  refine ⟨rfl, q _ (((((F.upA zfa_111).upA zfa_112).upA zfa_113).upA zfa_114).upA zfa_110) (((((zfr.rfl.up (by simp)).up (by simp)).up (by simp)).up (by simp)).up (by simp)) ⟨?_, m2, fun t ht => ?_⟩⟩
  · rw [zup_c (by decide), zup_c (by decide), zup_c (by decide), zup_c (by decide), zup_c (by decide)]; exact m1
  · have r111 : ∀ j, zup (zup (zup (zup (zup h 111 (200 * N + i) k) 112 (200 * N + i) l) 113 (200 * N + i) a) 114 (200 * N + i) b) 110 N ((i : Int) + 1) 111 j = zup h 111 (200 * N + i) k 111 j := fun j => by
      rw [zup_c (by decide), zup_c (by decide), zup_c (by decide), zup_c (by decide)]
    have r112 : ∀ j, zup (zup (zup (zup (zup h 111 (200 * N + i) k) 112 (200 * N + i) l) 113 (200 * N + i) a) 114 (200 * N + i) b) 110 N ((i : Int) + 1) 112 j = zup h 112 (200 * N + i) l 112 j := fun j => by
      rw [zup_c (by decide), zup_c (by decide), zup_c (by decide)]
      by_cases c : j = 200 * N + i
      · rw [c, zup_eq, zup_eq]
      · rw [zup_k c, zup_k c, zup_c (by decide)]
    have r113 : ∀ j, zup (zup (zup (zup (zup h 111 (200 * N + i) k) 112 (200 * N + i) l) 113 (200 * N + i) a) 114 (200 * N + i) b) 110 N ((i : Int) + 1) 113 j = zup h 113 (200 * N + i) a 113 j := fun j => by
      rw [zup_c (by decide), zup_c (by decide)]
      by_cases c : j = 200 * N + i
      · rw [c, zup_eq, zup_eq]
      · rw [zup_k c, zup_k c, zup_c (by decide), zup_c (by decide)]
    have r114 : ∀ j, zup (zup (zup (zup (zup h 111 (200 * N + i) k) 112 (200 * N + i) l) 113 (200 * N + i) a) 114 (200 * N + i) b) 110 N ((i : Int) + 1) 114 j = zup h 114 (200 * N + i) b 114 j := fun j => by
      rw [zup_c (by decide)]
      by_cases c : j = 200 * N + i
      · rw [c, zup_eq, zup_eq]
      · rw [zup_k c, zup_k c, zup_c (by decide), zup_c (by decide), zup_c (by decide)]
    have r109 : ∀ j, zup (zup (zup (zup (zup h 111 (200 * N + i) k) 112 (200 * N + i) l) 113 (200 * N + i) a) 114 (200 * N + i) b) 110 N ((i : Int) + 1) 109 j = h 109 j := fun j => by
      rw [zup_c (by decide), zup_c (by decide), zup_c (by decide), zup_c (by decide), zup_c (by decide)]
    have r110 : ∀ j, zup (zup (zup (zup (zup h 111 (200 * N + i) k) 112 (200 * N + i) l) 113 (200 * N + i) a) 114 (200 * N + i) b) 110 N ((i : Int) + 1) 110 j = zup h 110 N ((i : Int) + 1) 110 j := fun j => by
      by_cases c : j = N
      · rw [c, zup_eq, zup_eq]
      · rw [zup_k c, zup_k c, zup_c (by decide), zup_c (by decide), zup_c (by decide), zup_c (by decide)]
    unfold zLM
    simp only [r109, r110, r111, r112, r113, r114]
    by_cases c : t = N
    · subst c
      rw [zpsh_N]
      refine ⟨hl, mN1, by rw [zup_eq]; show (i : Int) + 1 = ((i + 1 : Nat) : Int); omega, fun j hj => ?_⟩
      by_cases cj : j = i
      · subst cj
        rw [zup_eq, zup_eq, zup_eq, zup_eq]
        exact ⟨hk, hleg, hab⟩
      · have ne : ¬ 200 * t + j = 200 * t + i := by omega
        rw [zup_k ne, zup_k ne, zup_k ne, zup_k ne]
        exact mN3 j (by have : j < i + 1 := hj; show j < i; omega)
    · have mt := m3 t ht
      rw [zpsh_l (by omega)] at mt ⊢
      obtain ⟨a1, a2, a3, a4⟩ := mt
      have b := a1.2.1
      refine ⟨a1, a2, by rw [zup_k c]; exact a3, fun j hj => ?_⟩
      have ne : ¬ 200 * t + j = 200 * N + i := by omega
      rw [zup_k ne, zup_k ne, zup_k ne, zup_k ne]
      exact a4 j hj
theorem zMS.up {n i : Nat} {e : zel} {u : Nat} {x y : Int} (M : zMS h (N + 1) (zpsh A N (n, i, e))) (hu : u < N) (hx : x = (u : Int)) : (h 109 x.toNat = ((A u).1 : Int) ∧ h 110 x.toNat = ((A u).2.1 : Int)) ∧ ∀ {j : Nat}, j < (A u).2.1 → y = (j : Int) → h 111 (200 * x + y).toNat = (((A u).2.2 j).1 : Int) ∧ h 112 (200 * x + y).toNat = (((A u).2.2 j).2.1 : Int) ∧ (((A u).2.2 j).1 = 3 → h 113 (200 * x + y).toNat = (((A u).2.2 j).2.2.1 : Int) ∧ h 114 (200 * x + y).toNat = (((A u).2.2 j).2.2.2 : Int)) := by
  have h1 := M.n (show u < N + 1 by omega) hx
  rw [zpsh_l hu] at h1
  refine ⟨h1, fun {j} hj hy => ?_⟩
  have h2 := M.rd (i := j) (y := y) (show u < N + 1 by omega) hx (by rw [zpsh_l hu]; exact hj) hy
  rw [zpsh_l hu] at h2
  exact h2
theorem zcopy_k {n : Nat} {x y : Nat × Nat × Nat × Nat} (h : x = ztn n y) : (y.1 = 1 ∧ x.1 = 2) ∨ (y.1 = 2 ∧ x.1 = 1) ∨ (¬ y.1 = 1 ∧ ¬ y.1 = 2 ∧ x.1 = y.1) := by
  subst h
  unfold ztn
  simp only
  split
  · exact Or.inl ⟨by assumption, rfl⟩
  · split
    · exact Or.inr (Or.inl ⟨by assumption, rfl⟩)
    · exact Or.inr (Or.inr ⟨by assumption, by assumption, rfl⟩)
/-- copy -/
theorem cm_247 {t up tu : Int} (F : zFin h) (M : zMS h N A) (k0 : (¬ (0 ≤ t ∧ t < (N : Int)) ∨ N = 6) → K (some (zI (-1))) h)
    (k1 : ∀ u : Nat, u < N → t = (u : Int) → N < 6 → ∀ h', zFin h' → zfr [108, 109, 110, 111, 112, 113, 114] h h' → (∀ j, j ≠ 0 → h' 108 j = h 108 j) → zMS h' (N + 1) (zpsh A N ((A u).1, (A u).2.1, ztr (A u).1 (A u).2.1 up tu (A u).2.2)) → K (some (zI (N : Int))) h') : zC X 247 [zR 108, zI t, zI up, zI tu] h K := by
  have m1 := M.1
  have m2 := M.2.1
  by_cases c : (¬ (0 ≤ t ∧ t < (N : Int)) ∨ N = 6)
  · have k0 := k0 c
    clear k1
    apply sg_247_0 F <;> intros <;> (try omega)
    · exact ⟨rfl, k0⟩
    · exact ⟨rfl, k0⟩
  obtain ⟨u, ht⟩ : ∃ u : Nat, t = (u : Int) := ⟨t.toNat, by omega⟩
  have hu : u < N := by omega
  have hN : N < 6 := by omega
  have hl := (M.2.2 u hu).1
  have hm := hl.2.1
  have hn := hl.1
  obtain ⟨n1, n2⟩ := M.n hu ht
  have k1 := k1 u hu ht hN
  clear k0 c
  generalize hE : ztr (A u).1 (A u).2.1 up tu (A u).2.2 = E at k1
  have hlE : zlok (A u).1 (A u).2.1 E := by rw [← hE]; exact ztr_ok hl
  have loop : ∀ (q i : Nat) (h1 : zHP) (y : Int), (A u).2.1 - i = q → i ≤ (A u).2.1 → y = (i : Int) → zFin h1 → zfr [108, 109, 110, 111, 112, 113, 114] h h1 → (∀ j, j ≠ 0 → h1 108 j = h 108 j) → zMS h1 (N + 1) (zpsh A N ((A u).1, i, E)) → zAt X 247 32 0 0 [some (zR 108), some (zI t), some (zI up), some (zI tu), some (zI y), none, none] [] zSHc h1 (fun v sh' h' => sh' = zSHc ∧ K v h') := by
    intro q
    induction q with
    | zero =>
      intro i h1 y hq hi hy F1 fr f0 M1
      have ei : i = (A u).2.1 := by omega
      subst ei
      obtain ⟨⟨p1, p2⟩, -⟩ := M1.up (y := 0) hu ht
      have p0 := M1.1
      apply sg_247_32 F1 <;> intros <;> (try omega)
      rw [show h1 108 0 - 1 = (N : Int) by omega]
      exact ⟨rfl, k1 h1 F1 fr f0 M1⟩
    | succ q ih =>
      intro i h1 y hq hi hy F1 fr f0 M1
      have p0 := M1.1
      have nx : ∀ (kd l a b : Int), kd = ((E i).1 : Int) → l = ((E i).2.1 : Int) → ((E i).1 = 3 → a = ((E i).2.2.1 : Int) ∧ b = ((E i).2.2.2 : Int)) → zC X 242 [zR 108, zI kd, zI l, zI a, zI b] h1 (fun v h9 => zAt X 247 152 0 0 [some (zR 108), some (zI t), some (zI up), some (zI tu), some (zI y), none, none] (zpush v []) zSHc h9 (fun v sh' h' => sh' = zSHc ∧ K v h')) := by
        intro kd l a b e1 e2 e3
        refine cm_242 F1 M1 (zlok_le hlE (by omega)) e1 e2 e3 fun h2 F2 fr2 M2 => sg_247_152c (by omega) ?_
        exact ih (i + 1) h2 _ (by omega) (by omega) (by omega) F2 (fr.trans (fr2.mono (by simp))) (fun j hj => by rw [fr2 108 (by simp)]; exact f0 j hj) M2
      generalize hsr : (if up = 0 then i else (A u).2.1 - 1 - i) = sr
      have hs : sr < (A u).2.1 := by rw [← hsr]; exact zsrc_lt (by omega)
      have eE : E i = if tu = 0 then (A u).2.2 sr else ztn (A u).1 ((A u).2.2 sr) := by rw [← hE, ← hsr]; rfl
      have hv := hl.2.2.2 sr hs
      have main : ∀ z : Int, z = (sr : Int) → (h1 109 t.toNat = ((A u).1 : Int) ∧ h1 110 t.toNat = ((A u).2.1 : Int)) ∧ h1 111 (200 * t + z).toNat = (((A u).2.2 sr).1 : Int) ∧ h1 112 (200 * t + z).toNat = (((A u).2.2 sr).2.1 : Int) ∧ (((A u).2.2 sr).1 = 3 → h1 113 (200 * t + z).toNat = (((A u).2.2 sr).2.2.1 : Int) ∧ h1 114 (200 * t + z).toNat = (((A u).2.2 sr).2.2.2 : Int)) := fun z hz => by
        obtain ⟨a, b⟩ := M1.up (y := z) hu ht
        exact ⟨a, b hs hz⟩
      clear hE ih k1
      by_cases cu : up = 0
      · rw [if_pos cu] at hsr
        obtain ⟨⟨p1, p2⟩, r1, r2, r3⟩ := main y (by omega)
        by_cases cx : tu = 0
        · rw [if_pos cx] at eE
          rw [eE] at nx
          apply sg_247_32 F1 <;> intros <;> (try omega)
          exact nx _ _ _ _ r1 r2 r3
        · rw [if_neg cx] at eE
          have e2 : (E i).2.1 = (A u).1 - 2 - ((A u).2.2 sr).2.1 := by rw [eE]; rfl
          have e3 : (E i).2.2 = ((A u).2.2 sr).2.2 := by rw [eE]; rfl
          rw [e3] at nx
          have hv2 := hv.2.1
          have nxt := zcopy_k eE
          clear eE e3 hv main M1 hlE hl M
          rcases nxt with ⟨e0, e1⟩ | ⟨e0, e1⟩ | ⟨e0, e00, e1⟩
          · clear r3
            apply sg_247_32 F1 <;> intros <;> (try omega)
            exact nx _ _ _ _ (by omega) (by omega) (fun z => by omega)
          · clear r3
            apply sg_247_32 F1 <;> intros <;> (try omega)
            exact nx _ _ _ _ (by omega) (by omega) (fun z => by omega)
          · apply sg_247_32 F1 <;> intros <;> (try omega)
            exact nx _ _ _ _ (by omega) (by omega) (fun z => r3 (by omega))
      · rw [if_neg cu] at hsr
        obtain ⟨⟨p1, p2⟩, r1, r2, r3⟩ := main (h1 110 t.toNat - 1 - y) (by have := (M1.up (y := 0) hu ht).1.2; omega)
        by_cases cx : tu = 0
        · rw [if_pos cx] at eE
          rw [eE] at nx
          apply sg_247_32 F1 <;> intros <;> (try omega)
          exact nx _ _ _ _ r1 r2 r3
        · rw [if_neg cx] at eE
          have e2 : (E i).2.1 = (A u).1 - 2 - ((A u).2.2 sr).2.1 := by rw [eE]; rfl
          have e3 : (E i).2.2 = ((A u).2.2 sr).2.2 := by rw [eE]; rfl
          rw [e3] at nx
          have hv2 := hv.2.1
          have nxt := zcopy_k eE
          clear eE e3 hv main M1 hlE hl M
          rcases nxt with ⟨e0, e1⟩ | ⟨e0, e1⟩ | ⟨e0, e00, e1⟩
          · clear r3
            apply sg_247_32 F1 <;> intros <;> (try omega)
            exact nx _ _ _ _ (by omega) (by omega) (fun z => by omega)
          · clear r3
            apply sg_247_32 F1 <;> intros <;> (try omega)
            exact nx _ _ _ _ (by omega) (by omega) (fun z => by omega)
          · apply sg_247_32 F1 <;> intros <;> (try omega)
            exact nx _ _ _ _ (by omega) (by omega) (fun z => r3 (by omega))
  apply sg_247_0 F <;> intros <;> (try omega)
  rw [n1]
  refine cm_241 F M hN hn fun h1 F1 fr1 f1 M1 => sg_247_29c ?_
  exact loop _ 0 h1 0 rfl (by omega) rfl F1 (fr1.mono (by simp)) f1 (M1 E)
end
