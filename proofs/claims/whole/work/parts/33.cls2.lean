/-! THE CLASS: calls that make ladders -/
def zpsh (A : Nat → Nat × Nat × zel) (N : Nat) (x : Nat × Nat × zel) : Nat → Nat × Nat × zel := fun t => if t = N then x else A t
theorem zCS.push {h h' : zHP} {N s n m : Nat} {A : Nat → Nat × Nat × zel} {e : zel} (S : zCS h N s A) (hN : N < 6) (g0 : h' 0 12 = ((N + 1 : Nat) : Int)) (g1 : h' 0 13 = ((s + 1 : Nat) : Int)) (fr : zfr [0, 1, 2, 6 + 3 * N, 6 + 3 * N + 1] h h') (hl : zlok n m e) (L : zLC h' (6 + 3 * N) n m e) (g5 : h' (6 + 3 * N) 5 = ((s + 1 : Nat) : Int)) (m1 : h 1 1 ≤ h' 1 1) (m2 : (n : Int) ≤ h' 1 1) : zCS h' (N + 1) (s + 1) (zpsh A N (n, m, e)) := by
  obtain ⟨s1, s2, s3, s4, s5, s6⟩ := S
  have f5 : h' 5 = h 5 := fr 5 (by simp; omega)
  have ft : ∀ t, t < N → h' (6 + 3 * t) = h (6 + 3 * t) := fun t ht => fr _ (by simp; omega)
  have ft1 : ∀ t, t < N → h' (6 + 3 * t + 1) = h (6 + 3 * t + 1) := fun t ht => fr _ (by simp; omega)
  refine ⟨g0, by omega, g1, fun t ht => by rw [f5]; exact s4 t ht, fun t ht => ?_, fun t u ht hu e => ?_⟩
  · by_cases c : t = N
    · subst c
      have ea : zpsh A t (n, m, e) t = (n, m, e) := if_pos rfl
      rw [ea]
      exact ⟨hl, L, m2, by rw [g5]; omega, by rw [g5]; omega⟩
    · have ea : zpsh A N (n, m, e) t = A t := if_neg c
      rw [ea]
      obtain ⟨a1, a2, a3, a4, a5⟩ := s5 t (by omega)
      refine ⟨a1, ?_, by omega, by rw [ft t (by omega)]; exact a4, by rw [ft t (by omega)]; omega⟩
      unfold zLC at a2 ⊢
      rw [ft t (by omega), ft1 t (by omega)]
      exact a2
  · by_cases ct : t = N
    · by_cases cu : u = N
      · omega
      · exfalso
        subst ct
        obtain ⟨-, -, -, -, a5⟩ := s5 u (by omega)
        rw [ft u (by omega), g5] at e
        omega
    · by_cases cu : u = N
      · exfalso
        subst cu
        obtain ⟨-, -, -, -, a5⟩ := s5 t (by omega)
        rw [ft t (by omega), g5] at e
        omega
      · rw [ft t (by omega), ft u (by omega)] at e
        exact s6 t u (by omega) (by omega) e
/-- lots -/
def zsti (x : Int) : Int := zixor (zw ((zw (x * 1103515245)) + 12345)) (ziushr (zw ((zw (x * 1103515245)) + 12345)) 15)
def zlotI (m seed w : Int) : Int := (ziushr (zsti (zixor (zsti (zixor seed 9)) w)) 1) % m
theorem zlotI_b {m seed w : Int} (hm : 1 ≤ m) : 0 ≤ zlotI m seed w ∧ zlotI m seed w < m := ⟨Int.emod_nonneg _ (by omega), Int.emod_lt_of_pos _ (by omega)⟩
def zlte (n : Nat) (seed g : Int) : zel := fun i => (if ¬ g = 0 ∧ zlotI 2 seed (2 * (i : Int) + 1) = 1 then 1 else 0, (zlotI ((n : Int) - 1) seed (2 * (i : Int))).toNat, 0, 0)
theorem zlte_mb {n : Nat} {seed g : Int} : ∀ m, zmb (zlte n seed g) m = 0
  | 0 => rfl
  | m + 1 => by
    show zmb _ m + (if (zlte n seed g m).1 = 3 then 1 else 0) = 0
    rw [zlte_mb m, if_neg]
    unfold zlte
    simp only
    split <;> decide
theorem zlte_ok {n m : Nat} {seed g : Int} (hn : 2 ≤ n ∧ n ≤ 7) (hm : m ≤ 200) : zlok n m (zlte n seed g) := by
  refine ⟨hn, hm, by rw [zlte_mb]; omega, fun i _ => ?_⟩
  have h1 := zlotI_b (m := (n : Int) - 1) (seed := seed) (w := 2 * (i : Int)) (by omega)
  unfold zlte
  simp only
  refine ⟨by split <;> decide, by omega, fun z => ?_⟩
  split at z <;> omega
section
variable {X : List Int} {h : zHP} {K : Option zAV → zHP → Prop} {N s : Nat} {A : Nat → Nat × Nat × zel}
theorem cx_207 {x : Int} (k : K (some (zI (zsti x))) h) : zC X 207 [zI x] h K := sg_207_0 ⟨rfl, k⟩
theorem cx_206 {m seed w : Int} (hm : 1 ≤ m) (k : K (some (zI (zlotI m seed w))) h) : zC X 206 [zI m, zI seed, zI w] h K := by
  have b := ziushr_1 (zsti (zixor (zsti (zixor seed 9)) w))
  refine sg_206_0 (fun _ => cx_207 (sg_206_14c (cx_207 (sg_206_19c ⟨b, by omega⟩ ⟨rfl, k⟩)))) (fun a => by omega)
/-- copy -/
theorem cx_163 {t up tu : Int} (F : zFin h) (T : zOT h) (S : zCS h N s A) (hs : s < 100000) (k0 : (¬ (0 ≤ t ∧ t < (N : Int)) ∨ N = 6) → K (some (zI (-1))) h)
    (k1 : ∀ u : Nat, u < N → t = (u : Int) → N < 6 → ∀ h', zFin h' → zOT h' → zCS h' (N + 1) (s + 1) (zpsh A N ((A u).1, (A u).2.1, ztr (A u).1 (A u).2.1 up tu (A u).2.2)) → zfr [0, 1, 2, 6 + 3 * N, 6 + 3 * N + 1] h h' → h' 0 14 = h 0 14 → K (some (zI (N : Int))) h') : zC X 163 [zR 0, zI t, zI up, zI tu] h K := by
  have S' := S
  obtain ⟨s1, s2, s3, s4, s5, s6⟩ := S
  refine sg_163_0 (cx_202 F S' (fun c => sg_163_5cz ⟨rfl, k0 (Or.inl c)⟩) (fun u hu htu => ?_))
  obtain ⟨hl, L, -, -, -⟩ := s5 u hu
  have hpu := zLadT (t := u) (by omega)
  refine sg_163_5c hpu (by omega) ?_
  by_cases hN : N = 6
  · exact cx_203n F S' hN (sg_163_23cz ⟨rfl, k0 (Or.inr hN)⟩)
  · have hN6 : N < 6 := by omega
    rw [L.1]
    refine cx_203 F T S' hN6 hs hl.1 fun h1 F1 T1 fr1 b1 b2 b3 b4 b5 b6 b7 b8 b9 => ?_
    have hpN := zLadT hN6
    have fu : h1 (6 + 3 * u) = h (6 + 3 * u) := fr1 _ (by simp; omega)
    have fu1 : h1 (6 + 3 * u + 1) = h (6 + 3 * u + 1) := fr1 _ (by simp; omega)
    have L1 : zLC h1 (6 + 3 * u) (A u).1 (A u).2.1 (A u).2.2 := by unfold zLC; rw [fu, fu1]; exact L
    have hm := hl.2.1
    refine sg_163_23c hpN (by omega) (cx_30 F1 hpN hpu (by omega) (n := (A u).1) (s := 0) (b := 0) (c := fun _ => 0) ⟨b4, b5, b6, fun i hi => by omega⟩ (L1.rw hl) (by omega) (by omega) (by omega) hl.1.2 fun h2 F2 fr2 c1 c2 c3 c4 c5 c6 => ?_)
    have g0 : h2 0 = h1 0 := fr2 0 (by simp; omega)
    have g1 : h2 1 = h1 1 := fr2 1 (by simp; omega)
    have g2 : h2 2 = h1 2 := fr2 2 (by simp; omega)
    have e1 : h2 0 12 = ((N + 1 : Nat) : Int) := by rw [g0]; exact b1
    have e2 : min (A u).2.1 200 = (A u).2.1 := by omega
    rw [e2] at c3 c4 c6
    refine sg_163_41c (by omega) ⟨rfl, ?_⟩
    rw [show h2 0 12 - 1 = (N : Int) by omega]
    have FR : zfr [0, 1, 2, 6 + 3 * N, 6 + 3 * N + 1] h h2 := (fr1.mono (by simp)).trans (fr2.mono (by simp))
    refine k1 u hu htu hN6 h2 F2 ?_ ?_ FR (by rw [g0]; exact b3)
    · obtain ⟨r, t1, t2, t3, t4⟩ := T1
      exact ⟨r, by rw [g1]; exact t1, t2, t3, fun j o a b => by rw [g2]; exact t4 j o a b⟩
    · refine S'.push hN6 e1 (by rw [g0]; exact b2) FR (ztr_ok hl) ?_ (c2.trans b7) (by rw [g1]; exact b8) (by rw [g1]; exact b9)
      refine ⟨c1.trans b4, by rw [c3]; omega, ?_, fun i hi => ?_⟩
      · have e3 : zc3 (zctr (A u).1 (A u).2.1 up tu fun i => zenc ((A u).2.2 i)) (A u).2.1 = zmb (ztr (A u).1 (A u).2.1 up tu (A u).2.2) (A u).2.1 := zc3_mb (n := (A u).1) fun i hi => ⟨zctr_enc hl hi, ((ztr_ok hl).2.2.2 i hi).1⟩
        have e4 := (ztr_ok (up := up) (tu := tu) hl).2.2.1
        rw [c4, e3]
        omega
      · have e5 := c6 i hi (by omega)
        rw [Nat.zero_add, zctr_enc hl hi] at e5
        exact e5
end
