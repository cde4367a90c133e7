/-! PUSHES, WITH THE STAMP TOLD -/
section
variable {X : List Int} {h : zHP} {K : Option zAV → zHP → Prop} {N s : Nat} {A : Nat → Nat × Nat × zel}
theorem cx_163b {t up tu : Int} (F : zFin h) (T : zOT h) (S : zCS h N s A) (hs : s < 100000) (k0 : (¬ (0 ≤ t ∧ t < (N : Int)) ∨ N = 6) → K (some (zI (-1))) h)
    (k1 : ∀ u : Nat, u < N → t = (u : Int) → N < 6 → ∀ h', zFin h' → zOT h' → zCS h' (N + 1) (s + 1) (zpsh A N ((A u).1, (A u).2.1, ztr (A u).1 (A u).2.1 up tu (A u).2.2)) → zfr [0, 1, 2, 6 + 3 * N, 6 + 3 * N + 1] h h' → h' 0 14 = h 0 14 → h' (6 + 3 * N) 5 = ((s + 1 : Nat) : Int) → K (some (zI (N : Int))) h') : zC X 163 [zR 0, zI t, zI up, zI tu] h K := by
  have S' := S
  obtain ⟨s1, s2, s3, s4, s5, s6⟩ := S
  refine sg_163_0 (cx_202 F S' (fun c => sg_163_5cz ⟨rfl, k0 (Or.inl c)⟩) (fun u hu htu => ?_))
  obtain ⟨hl, L, -, -, -⟩ := s5 u hu
  have hpu := zLadT (t := u) (by omega)
  refine sg_163_5c hpu (by omega) ?_
  by_cases hN : N = 6
  · exact cx_203n F S' hN (sg_163_23cz ⟨rfl, k0 (Or.inr hN)⟩)
  · have hN6 : N < 6 := by omega
    rw [L.1]
    refine cx_203 F T S' hN6 hs hl.1 fun h1 F1 T1 fr1 b1 b2 b3 b4 b5 b6 b7 b8 b9 => ?_
    have hpN := zLadT hN6
    have fu : h1 (6 + 3 * u) = h (6 + 3 * u) := fr1 _ (by simp; omega)
    have fu1 : h1 (6 + 3 * u + 1) = h (6 + 3 * u + 1) := fr1 _ (by simp; omega)
    have L1 : zLC h1 (6 + 3 * u) (A u).1 (A u).2.1 (A u).2.2 := by unfold zLC; rw [fu, fu1]; exact L
    have hm := hl.2.1
    refine sg_163_23c hpN (by omega) (cx_30 F1 hpN hpu (by omega) (n := (A u).1) (s := 0) (b := 0) (c := fun _ => 0) ⟨b4, b5, b6, fun i hi => by omega⟩ (L1.rw hl) (by omega) (by omega) (by omega) hl.1.2 fun h2 F2 fr2 c1 c2 c3 c4 c5 c6 => ?_)
    have g0 : h2 0 = h1 0 := fr2 0 (by simp; omega)
    have g1 : h2 1 = h1 1 := fr2 1 (by simp; omega)
    have g2 : h2 2 = h1 2 := fr2 2 (by simp; omega)
    have e1 : h2 0 12 = ((N + 1 : Nat) : Int) := by rw [g0]; exact b1
    have e2 : min (A u).2.1 200 = (A u).2.1 := by omega
    rw [e2] at c3 c4 c6
    refine sg_163_41c (by omega) ⟨rfl, ?_⟩
    rw [show h2 0 12 - 1 = (N : Int) by omega]
    have FR : zfr [0, 1, 2, 6 + 3 * N, 6 + 3 * N + 1] h h2 := (fr1.mono (by simp)).trans (fr2.mono (by simp))
    refine k1 u hu htu hN6 h2 F2 ?_ ?_ FR (by rw [g0]; exact b3) (c2.trans b7)
    · obtain ⟨r, t1, t2, t3, t4⟩ := T1
      exact ⟨r, by rw [g1]; exact t1, t2, t3, fun j o a b => by rw [g2]; exact t4 j o a b⟩
    · refine S'.push hN6 e1 (by rw [g0]; exact b2) FR (ztr_ok hl) ?_ (c2.trans b7) (by rw [g1]; exact b8) (by rw [g1]; exact b9)
      refine ⟨c1.trans b4, by rw [c3]; omega, ?_, fun i hi => ?_⟩
      · have e3 : zc3 (zctr (A u).1 (A u).2.1 up tu fun i => zenc ((A u).2.2 i)) (A u).2.1 = zmb (ztr (A u).1 (A u).2.1 up tu (A u).2.2) (A u).2.1 := zc3_mb (n := (A u).1) fun i hi => ⟨zctr_enc hl hi, ((ztr_ok hl).2.2.2 i hi).1⟩
        have e4 := (ztr_ok (up := up) (tu := tu) hl).2.2.1
        rw [c4, e3]
        omega
      · have e5 := c6 i hi (by omega)
        rw [Nat.zero_add, zctr_enc hl hi] at e5
        exact e5
theorem cx_164b {t w : Int} (F : zFin h) (T : zOT h) (S : zCS h N s A) (hs : s < 100000) (k0 : (∀ u v : Nat, u < N → v < N → t = (u : Int) → w = (v : Int) → (A u).1 = (A v).1 → (A u).2.1 + (A v).2.1 ≤ 200 → zmb (A u).2.2 (A u).2.1 + zmb (A v).2.2 (A v).2.1 ≤ 20 → N < 6 → False) → K (some (zI (-1))) h)
    (k1 : ∀ u v : Nat, u < N → v < N → t = (u : Int) → w = (v : Int) → (A u).1 = (A v).1 → (A u).2.1 + (A v).2.1 ≤ 200 → zmb (A u).2.2 (A u).2.1 + zmb (A v).2.2 (A v).2.1 ≤ 20 → N < 6 → ∀ h', zFin h' → zOT h' → zCS h' (N + 1) (s + 1) (zpsh A N ((A u).1, (A u).2.1 + (A v).2.1, zapp (A u).2.1 (A u).2.2 (A v).2.2)) → zfr [0, 1, 2, 6 + 3 * N, 6 + 3 * N + 1] h h' → h' 0 14 = h 0 14 → h' (6 + 3 * N) 5 = ((s + 1 : Nat) : Int) → K (some (zI (N : Int))) h') : zC X 164 [zR 0, zI t, zI w] h K := by
  have S' := S
  obtain ⟨s1, s2, s3, s4, s5, s6⟩ := S
  refine sg_164_0 (cx_202 F S' (fun c => sg_164_5cz (cx_202 F S' (fun c2 => sg_164_11cnz ⟨rfl, k0 fun u v hu hv h1 h2 => by omega⟩) (fun v hv hwv => sg_164_11cn ⟨rfl, k0 fun u v hu hv h1 h2 => by omega⟩))) (fun u hu htu => sg_164_5c (cx_202 F S' (fun c2 => sg_164_11cz (by omega) ⟨rfl, k0 fun u v hu hv h1 h2 => by omega⟩) (fun v hv hwv => ?_))))
  obtain ⟨hl, L, -, -, -⟩ := s5 u hu
  obtain ⟨hl2, L2, -, -, -⟩ := s5 v hv
  have hpu := zLadT (t := u) (by omega)
  have hpv := zLadT (t := v) (by omega)
  have one : ∀ u' v' : Nat, t = (u' : Int) → w = (v' : Int) → u' = u ∧ v' = v := fun u' v' a b => by omega
  have q1 := L.1
  have q2 := L.2.1
  have q3 := L.2.2.1
  have r1 := L2.1
  have r2 := L2.2.1
  have r3 := L2.2.2.1
  have bm := hl.2.1
  have bm2 := hl2.2.1
  have bb := hl.2.2.1
  have bb2 := hl2.2.2.1
  have no : ¬ ((A u).1 = (A v).1 ∧ (A u).2.1 + (A v).2.1 ≤ 200 ∧ zmb (A u).2.2 (A u).2.1 + zmb (A v).2.2 (A v).2.1 ≤ 20 ∧ N < 6) → K (some (zI (-1))) h := fun c => k0 fun u' v' hu' hv' a b c1 c2 c3 c4 => by
    obtain ⟨e1, e2⟩ := one u' v' a b
    subst e1; subst e2
    exact c ⟨c1, c2, c3, c4⟩
  apply sg_164_11c hpv hpu <;> intros <;> (try omega)
  · exact ⟨rfl, no (by omega)⟩
  · by_cases hN : N = 6
    · exact cx_203n F S' hN (sg_164_77cz ⟨rfl, no (by omega)⟩)
    · have hN6 : N < 6 := by omega
      rw [q1]
      refine cx_203 F T S' hN6 hs hl.1 fun h1 F1 T1 fr1 b1 b2 b3 b4 b5 b6 b7 b8 b9 => ?_
      have hpN := zLadT hN6
      have L1 : zLC h1 (6 + 3 * u) (A u).1 (A u).2.1 (A u).2.2 := by
        unfold zLC; rw [fr1 (6 + 3 * u) (by simp; omega), fr1 (6 + 3 * u + 1) (by simp; omega)]; exact L
      have L12 : zLC h1 (6 + 3 * v) (A v).1 (A v).2.1 (A v).2.2 := by
        unfold zLC; rw [fr1 (6 + 3 * v) (by simp; omega), fr1 (6 + 3 * v + 1) (by simp; omega)]; exact L2
      have en : (A u).1 = (A v).1 := by omega
      have L0 : zLC h1 (6 + 3 * N) (A u).1 0 (A u).2.2 := ⟨b4, b5, b6, fun i hi => by omega⟩
      have hl0 : zlok (A u).1 0 (A u).2.2 := ⟨hl.1, by omega, by show 0 ≤ 20; omega, fun i hi => by omega⟩
      refine sg_164_77c hpN (by omega) (cx_30e F1 hpN hpu (by omega) L0 hl0 L1 hl (by omega) (by show 0 + _ ≤ 20; omega) b7 fun h2 F2 fr2 L2' c5 => ?_)
      rw [Nat.zero_add, zapp_0] at L2'
      have L22 : zLC h2 (6 + 3 * v) (A u).1 (A v).2.1 (A v).2.2 := by
        unfold zLC; rw [fr2 (6 + 3 * v) (by simp; omega), fr2 (6 + 3 * v + 1) (by simp; omega), en]; exact L12
      refine sg_164_94c hpN (cx_30e F2 hpN hpv (by omega) L2' hl L22 (en ▸ hl2) (by omega) (by omega) c5 fun h3 F3 fr3 L3 d5 => ?_)
      have g0 : h3 0 = h1 0 := (fr3 0 (by simp; omega)).trans (fr2 0 (by simp; omega))
      have g1 : h3 1 = h1 1 := (fr3 1 (by simp; omega)).trans (fr2 1 (by simp; omega))
      have g2 : h3 2 = h1 2 := (fr3 2 (by simp; omega)).trans (fr2 2 (by simp; omega))
      have e1 : h3 0 12 = ((N + 1 : Nat) : Int) := by rw [g0]; exact b1
      refine sg_164_103c (by omega) ⟨rfl, ?_⟩
      rw [show h3 0 12 - 1 = (N : Int) by omega]
      have FR : zfr [0, 1, 2, 6 + 3 * N, 6 + 3 * N + 1] h h3 := ((fr1.mono (by simp)).trans (fr2.mono (by simp))).trans (fr3.mono (by simp))
      refine k1 u v hu hv htu hwv en (by omega) (by omega) hN6 h3 F3 ?_ ?_ FR (by rw [g0]; exact b3) d5
      · obtain ⟨r, t1, t2, t3, t4⟩ := T1
        exact ⟨r, by rw [g1]; exact t1, t2, t3, fun j o a b => by rw [g2]; exact t4 j o a b⟩
      · exact S'.push hN6 e1 (by rw [g0]; exact b2) FR (zapp_ok hl (en ▸ hl2) (by omega) (by omega)) L3 d5 (by rw [g1]; exact b8) (by rw [g1]; exact b9)
  · exact ⟨rfl, no (by omega)⟩
  · exact ⟨rfl, no (by omega)⟩
theorem cx_165b {seed g : Int} {n m : Int} (F : zFin h) (T : zOT h) (S : zCS h N s A) (hs : s < 100000) (k0 : (¬ ((2 ≤ n ∧ n ≤ 7) ∧ 0 ≤ m ∧ m ≤ 200) ∨ N = 6) → K (some (zI (-1))) h)
    (k1 : (2 ≤ n ∧ n ≤ 7) → 0 ≤ m → m ≤ 200 → N < 6 → ∀ h', zFin h' → zOT h' → zCS h' (N + 1) (s + 1) (zpsh A N (n.toNat, m.toNat, zlte n.toNat seed g)) → zfr [0, 1, 2, 6 + 3 * N, 6 + 3 * N + 1] h h' → h' 0 14 = h 0 14 → h' (6 + 3 * N) 5 = ((s + 1 : Nat) : Int) → K (some (zI (N : Int))) h') : zC X 165 [zR 0, zI seed, zI n, zI m, zI g] h K := by
  have S' := S
  obtain ⟨s1, s2, s3, s4, s5, s6⟩ := S
  apply sg_165_0 <;> intros <;> (try omega)
  · exact ⟨rfl, k0 (by omega)⟩
  · exact ⟨rfl, k0 (by omega)⟩
  · rename_i hn hm0 hm2
    by_cases hN : N = 6
    · exact cx_203n F S' hN (sg_165_25cz ⟨rfl, k0 (by omega)⟩)
    have hN6 : N < 6 := by omega
    have hpN := zLadT hN6
    have en : n = ((n.toNat : Nat) : Int) := by omega
    have em : m = ((m.toNat : Nat) : Int) := by omega
    have k1' := k1 hn hm0 hm2 hN6
    generalize n.toNat = nn at *
    generalize m.toNat = mm at *
    subst en
    subst em
    refine cx_203 F T S' hN6 hs (by omega) fun h1 F1 T1 fr1 b1 b2 b3 b4 b5 b6 b7 b8 b9 => sg_165_25c (by omega) ?_
    have loop : ∀ (q i : Nat) (h2 : zHP) (x : Int), mm - i = q → i ≤ mm → x = (i : Int) → zFin h2 → zfr [6 + 3 * N, 6 + 3 * N + 1] h1 h2 → zLC h2 (6 + 3 * N) nn i (zlte nn seed g) → h2 (6 + 3 * N) 5 = ((s + 1 : Nat) : Int) → zAt X 165 37 0 0 [some (zR 0), some (zI seed), some (zI (nn : Int)), some (zI (mm : Int)), some (zI g), some (zR (6 + 3 * N)), some (zI x), none, none] [] zSHc h2 (fun v sh' h' => sh' = zSHc ∧ K v h') := by
      intro q
      induction q with
      | zero =>
        intro i h2 x hq hi hx F2 fr2 L2 c5
        have ei : i = mm := by omega
        subst ei
        have g0 : h2 0 = h1 0 := fr2 0 (by simp; omega)
        have g1 : h2 1 = h1 1 := fr2 1 (by simp; omega)
        have g2 : h2 2 = h1 2 := fr2 2 (by simp; omega)
        have e1 : h2 0 12 = ((N + 1 : Nat) : Int) := by rw [g0]; exact b1
        apply sg_165_37 <;> intros <;> (try omega)
        rw [show h2 0 12 - 1 = (N : Int) by omega]
        have FR : zfr [0, 1, 2, 6 + 3 * N, 6 + 3 * N + 1] h h2 := (fr1.mono (by simp)).trans (fr2.mono (by simp))
        refine ⟨rfl, k1' h2 F2 ?_ ?_ FR (by rw [g0]; exact b3) c5⟩
        · obtain ⟨r, t1, t2, t3, t4⟩ := T1
          exact ⟨r, by rw [g1]; exact t1, t2, t3, fun j o a b => by rw [g2]; exact t4 j o a b⟩
        · exact S'.push hN6 e1 (by rw [g0]; exact b2) FR (zlte_ok (by omega) (by omega)) L2 c5 (by rw [g1]; exact b8) (by rw [g1]; exact b9)
      | succ q ih =>
        intro i h2 x hq hi hx F2 fr2 L2 c5
        have hb := zlotI_b (m := (nn : Int) - 1) (seed := seed) (w := 2 * (i : Int)) (by omega)
        have fin : ∀ kd : Nat, kd < 3 → (zlte nn seed g i).1 = kd → zC X 28 [zR (6 + 3 * N), zI kd, zI (zlotI ((nn : Int) - 1) seed (2 * x)), zI 0, zI 0] h2 (fun v h9 => zAt X 165 102 0 0 [some (zR 0), some (zI seed), some (zI (nn : Int)), some (zI (mm : Int)), some (zI g), some (zR (6 + 3 * N)), some (zI x), none, none] (zpush v []) zSHc h9 (fun v sh' h' => sh' = zSHc ∧ K v h')) := by
          intro kd hkd ekd
          rw [hx]
          refine cx_28s F2 hpN L2.2.1 L2.2.2.1 (by omega) (by rw [zlte_mb]; decide) (by omega) fun h3 F3 fr3 d1 d2 d3 d4 d5 d6 => sg_165_102c (by omega) ?_
          refine ih (i + 1) h3 _ (by omega) (by omega) (by omega) F3 (fr2.trans fr3) ⟨d1.trans L2.1, d3, ?_, fun j hj => ?_⟩ (d2.trans c5)
          · rw [d4, if_neg (by omega), zlte_mb, zlte_mb]
          · by_cases cj : j = i
            · subst cj
              rw [d6]
              have e2 : (zlte nn seed g j).2.1 = (zlotI ((nn : Int) - 1) seed (2 * (j : Int))).toNat := rfl
              unfold zenc
              rw [ekd, e2, if_neg (by omega)]
              omega
            · rw [d5 j cj]; exact L2.2.2.2 j (by omega)
        have ez : ∀ kd : Nat, (zlte nn seed g i).1 = kd ↔ (if ¬ g = 0 ∧ zlotI 2 seed (2 * (i : Int) + 1) = 1 then 1 else 0) = kd := fun kd => Iff.rfl
        apply sg_165_37 <;> intros <;> (try omega)
        refine cx_206 (by omega) ?_
        apply sg_165_54c hpN <;> intros <;> (try omega)
        · exact fin 0 (by omega) ((ez 0).mpr (if_neg (by omega)))
        · refine cx_206 (by omega) ?_
          apply sg_165_72c hpN <;> intros <;> (try omega)
          · rename_i hw
            rw [hx] at hw
            exact fin 0 (by omega) ((ez 0).mpr (if_neg (by omega)))
          · rename_i hw
            rw [hx] at hw
            exact fin 1 (by omega) ((ez 1).mpr (if_pos ⟨by omega, hw⟩))
    exact loop mm 0 h1 0 (by omega) (by omega) rfl F1 zfr.rfl ⟨b4, b5, b6, fun i hi => by omega⟩ b7
  · exact ⟨rfl, k0 (by omega)⟩
end
