/-! THE REFERENCE: join, lots, tape, logs, count -/
section
variable {X : List Int} {h : zHP} {K : Option zAV → zHP → Prop} {N : Nat} {A : Nat → Nat × Nat × zel}
theorem cm_248 {t w : Int} (F : zFin h) (M : zMS h N A) (k0 : (∀ u v : Nat, u < N → v < N → t = (u : Int) → w = (v : Int) → (A u).1 = (A v).1 → (A u).2.1 + (A v).2.1 ≤ 200 → zmb (A u).2.2 (A u).2.1 + zmb (A v).2.2 (A v).2.1 ≤ 20 → N < 6 → False) → K (some (zI (-1))) h)
    (k1 : ∀ u v : Nat, u < N → v < N → t = (u : Int) → w = (v : Int) → (A u).1 = (A v).1 → (A u).2.1 + (A v).2.1 ≤ 200 → zmb (A u).2.2 (A u).2.1 + zmb (A v).2.2 (A v).2.1 ≤ 20 → N < 6 → ∀ h', zFin h' → zfr [108, 109, 110, 111, 112, 113, 114] h h' → (∀ j, j ≠ 0 → h' 108 j = h 108 j) → zMS h' (N + 1) (zpsh A N ((A u).1, (A u).2.1 + (A v).2.1, zapp (A u).2.1 (A u).2.2 (A v).2.2)) → K (some (zI (N : Int))) h') : zC X 248 [zR 108, zI t, zI w] h K := by
  have m1 := M.1
  have m2 := M.2.1
  by_cases c : (0 ≤ t ∧ t < (N : Int)) ∧ 0 ≤ w ∧ w < (N : Int)
  · obtain ⟨u, ht⟩ : ∃ u : Nat, t = (u : Int) := ⟨t.toNat, by omega⟩
    obtain ⟨v, hw⟩ : ∃ v : Nat, w = (v : Int) := ⟨w.toNat, by omega⟩
    have hu : u < N := by omega
    have hv : v < N := by omega
    have hl := (M.2.2 u hu).1
    have hl2 := (M.2.2 v hv).1
    have hm := hl.2.1
    have hm2 := hl2.2.1
    have hb1 := hl.2.2.1
    have hb2 := hl2.2.2.1
    obtain ⟨n1, n2⟩ := M.n hu ht
    obtain ⟨p1, p2⟩ := M.n hv hw
    have no : ¬ ((A u).1 = (A v).1 ∧ (A u).2.1 + (A v).2.1 ≤ 200 ∧ zmb (A u).2.2 (A u).2.1 + zmb (A v).2.2 (A v).2.1 ≤ 20 ∧ N < 6) → K (some (zI (-1))) h := fun c => k0 fun u' v' hu' hv' a b c1 c2 c3 c4 => by
      have e1 : u' = u := by omega
      have e2 : v' = v := by omega
      subst e1; subst e2
      exact c ⟨c1, c2, c3, c4⟩
    have k1 := k1 u v hu hv ht hw
    clear k0
    have ok : ∀ hN : N < 6, (A u).1 = (A v).1 → (A u).2.1 + (A v).2.1 ≤ 200 → zmb (A u).2.2 (A u).2.1 + zmb (A v).2.2 (A v).2.1 ≤ 20 → zC X 241 [zR 108, zI (h 109 t.toNat)] h (fun v h9 => zAt X 248 87 0 0 [some (zR 108), some (zI t), some (zI w), none] (zpush v []) zSHc h9 (fun v sh' h' => sh' = zSHc ∧ K v h')) := by
      intro hN en ez eb
      have k1 := k1 en ez eb hN
      have hlE := zapp_ok hl (en ▸ hl2) ez eb
      have E1 : ∀ i, i < (A u).2.1 → zapp (A u).2.1 (A u).2.2 (A v).2.2 i = (A u).2.2 i := fun i hi => if_pos hi
      have E2 : ∀ i, zapp (A u).2.1 (A u).2.2 (A v).2.2 ((A u).2.1 + i) = (A v).2.2 i := fun i => by
        show (if (A u).2.1 + i < (A u).2.1 then _ else _) = _
        rw [if_neg (Nat.not_lt.mpr (Nat.le_add_right _ _)), Nat.add_sub_cancel_left]
      generalize zapp (A u).2.1 (A u).2.2 (A v).2.2 = E at *
      clear no
      have second : ∀ (q i : Nat) (h1 : zHP) (y : Int), (A v).2.1 - i = q → i ≤ (A v).2.1 → y = (i : Int) → zFin h1 → zfr [108, 109, 110, 111, 112, 113, 114] h h1 → (∀ j, j ≠ 0 → h1 108 j = h 108 j) → zMS h1 (N + 1) (zpsh A N ((A u).1, (A u).2.1 + i, E)) → zAt X 248 159 0 0 [some (zR 108), none, some (zI w), some (zI y)] [] zSHc h1 (fun v sh' h' => sh' = zSHc ∧ K v h') := by
        intro q
        induction q with
        | zero =>
          intro i h1 y hq hi hy F1 fr f0 M1
          have ei : i = (A v).2.1 := by omega
          subst ei
          obtain ⟨⟨a1, a2⟩, -⟩ := M1.up (y := 0) hv hw
          have a0 := M1.1
          have kk := k1 h1 F1 fr f0 M1
          clear k1 E1 E2 hlE hl hl2 M M1
          apply sg_248_159 F1 <;> intros <;> (try omega)
          rw [show h1 108 0 - 1 = (N : Int) by omega]
          exact ⟨rfl, kk⟩
        | succ q ih =>
          intro i h1 y hq hi hy F1 fr f0 M1
          have a0 := M1.1
          obtain ⟨⟨a1, a2⟩, r⟩ := M1.up (y := y) hv hw
          obtain ⟨r1, r2, r3⟩ := r (show i < (A v).2.1 by omega) hy
          have nx : zC X 242 [zR 108, zI (h1 111 (200 * w + y).toNat), zI (h1 112 (200 * w + y).toNat), zI (h1 113 (200 * w + y).toNat), zI (h1 114 (200 * w + y).toNat)] h1 (fun v h9 => zAt X 248 221 0 0 [some (zR 108), none, some (zI w), some (zI y)] (zpush v []) zSHc h9 (fun v sh' h' => sh' = zSHc ∧ K v h')) := by
            refine cm_242 F1 M1 (zlok_le hlE (by omega)) (by rw [E2]; exact r1) (by rw [E2]; exact r2) (by rw [E2]; exact r3) fun h2 F2 fr2 M2 => sg_248_221c (by omega) ?_
            exact ih (i + 1) h2 _ (by omega) (by omega) (by omega) F2 (fr.trans (fr2.mono (by simp))) (fun j hj => by rw [fr2 108 (by simp)]; exact f0 j hj) M2
          clear k1 E1 E2 hlE hl hl2 M M1 ih r3
          apply sg_248_159 F1 <;> intros <;> (try omega)
          all_goals exact nx
      have first : ∀ (q i : Nat) (h1 : zHP) (y : Int), (A u).2.1 - i = q → i ≤ (A u).2.1 → y = (i : Int) → zFin h1 → zfr [108, 109, 110, 111, 112, 113, 114] h h1 → (∀ j, j ≠ 0 → h1 108 j = h 108 j) → zMS h1 (N + 1) (zpsh A N ((A u).1, i, E)) → zAt X 248 89 0 0 [some (zR 108), some (zI t), some (zI w), some (zI y)] [] zSHc h1 (fun v sh' h' => sh' = zSHc ∧ K v h') := by
        intro q
        induction q with
        | zero =>
          intro i h1 y hq hi hy F1 fr f0 M1
          have ei : i = (A u).2.1 := by omega
          subst ei
          obtain ⟨⟨a1, a2⟩, -⟩ := M1.up (y := 0) hu ht
          have kk := second (A v).2.1 0 h1 0 rfl (by omega) rfl F1 fr f0 M1
          clear k1 E1 E2 hlE hl hl2 M M1 second
          apply sg_248_89 F1 <;> intros <;> (try omega)
          all_goals exact kk
        | succ q ih =>
          intro i h1 y hq hi hy F1 fr f0 M1
          have a0 := M1.1
          have hi' : i < (A u).2.1 := by omega
          obtain ⟨⟨a1, a2⟩, r⟩ := M1.up (y := y) hu ht
          obtain ⟨r1, r2, r3⟩ := r hi' hy
          have nx : zC X 242 [zR 108, zI (h1 111 (200 * t + y).toNat), zI (h1 112 (200 * t + y).toNat), zI (h1 113 (200 * t + y).toNat), zI (h1 114 (200 * t + y).toNat)] h1 (fun v h9 => zAt X 248 151 0 0 [some (zR 108), some (zI t), some (zI w), some (zI y)] (zpush v []) zSHc h9 (fun v sh' h' => sh' = zSHc ∧ K v h')) := by
            refine cm_242 F1 M1 (zlok_le hlE (by omega)) (by rw [E1 i hi']; exact r1) (by rw [E1 i hi']; exact r2) (by rw [E1 i hi']; exact r3) fun h2 F2 fr2 M2 => sg_248_151c (by omega) ?_
            exact ih (i + 1) h2 _ (by omega) (by omega) (by omega) F2 (fr.trans (fr2.mono (by simp))) (fun j hj => by rw [fr2 108 (by simp)]; exact f0 j hj) M2
          clear k1 E1 E2 hlE hl hl2 M M1 ih second r3
          apply sg_248_89 F1 <;> intros <;> (try omega)
          all_goals exact nx
      rw [n1]
      refine cm_241 F M hN hl.1 fun h1 F1 fr1 f1 M1 => sg_248_87c ?_
      exact first _ 0 h1 0 rfl (by omega) rfl F1 (fr1.mono (by simp)) f1 (M1 E)
    have mb : (h 109 t.toNat = h 109 w.toNat) → (h 110 t.toNat + h 110 w.toNat ≤ 200) → N < 6 → zC X 244 [zR 108, zI t] h (fun v h9 => zAt X 248 64 0 0 [some (zR 108), some (zI t), some (zI w), none] (zpush v []) zSHc h9 (fun v sh' h' => sh' = zSHc ∧ K v h')) := by
      intro q1 q2 hN
      refine cm_244 F M hu ht (sg_248_64c (cm_244 F M hv hw ?_))
      have ok := ok hN (by omega) (by omega)
      have no' : ¬ zmb (A u).2.2 (A u).2.1 + zmb (A v).2.2 (A v).2.1 ≤ 20 → K (some (zI (-1))) h := fun z => no fun y => z y.2.2.1
      clear no k1 hl hl2
      apply sg_248_69c F <;> intros <;> (try omega)
      · exact ok (by omega)
      · exact ⟨rfl, no' (by omega)⟩
    have no6 : N = 6 → K (some (zI (-1))) h := fun z => no fun y => by omega
    have non : ¬ (A u).1 = (A v).1 → K (some (zI (-1))) h := fun z => no fun y => z y.1
    have nos : ¬ (A u).2.1 + (A v).2.1 ≤ 200 → K (some (zI (-1))) h := fun z => no fun y => z y.2.1
    clear no k1 ok hl hl2
    apply sg_248_0 F <;> intros <;> (try omega)
    · exact ⟨rfl, no6 (by omega)⟩
    · exact ⟨rfl, non (by omega)⟩
    · exact ⟨rfl, nos (by omega)⟩
    · exact mb (by omega) (by omega) (by omega)
  · have k0 := k0 fun u v hu hv a b => by omega
    clear k1
    apply sg_248_0 F <;> intros <;> (try omega)
    · exact ⟨rfl, k0⟩
    · exact ⟨rfl, k0⟩
    · exact ⟨rfl, k0⟩
theorem cm_249 {x y : Int} (k : K (some (zI (zsti (zixor x y)))) h) : zC X 249 [zI x, zI y] h K := sg_249_0 ⟨rfl, k⟩
theorem cm_250 {m seed w : Int} (hm : 1 ≤ m) (k : K (some (zI (zlotI m seed w))) h) : zC X 250 [zI seed, zI w, zI m] h K := by
  have b := ziushr_1 (zsti (zixor (zsti (zixor seed 9)) w))
  exact sg_250_0 (cm_249 (sg_250_6c (cm_249 (sg_250_10c ⟨b, by omega⟩ ⟨rfl, k⟩))))
/-- lots -/
theorem cm_252 {seed g n m : Int} (F : zFin h) (M : zMS h N A) (k0 : (¬ ((2 ≤ n ∧ n ≤ 7) ∧ 0 ≤ m ∧ m ≤ 200) ∨ N = 6) → K (some (zI (-1))) h)
    (k1 : (2 ≤ n ∧ n ≤ 7) → 0 ≤ m → m ≤ 200 → N < 6 → ∀ h', zFin h' → zfr [108, 109, 110, 111, 112, 113, 114] h h' → (∀ j, j ≠ 0 → h' 108 j = h 108 j) → zMS h' (N + 1) (zpsh A N (n.toNat, m.toNat, zlte n.toNat seed g)) → K (some (zI (N : Int))) h') : zC X 252 [zR 108, zI seed, zI n, zI m, zI g] h K := by
  have m1 := M.1
  have m2 := M.2.1
  by_cases c : (¬ ((2 ≤ n ∧ n ≤ 7) ∧ 0 ≤ m ∧ m ≤ 200) ∨ N = 6)
  · have k0 := k0 c
    clear k1
    apply sg_252_0 <;> intros <;> (try omega)
    · exact ⟨rfl, k0⟩
    · exact ⟨rfl, k0⟩
    · exact ⟨rfl, k0⟩
    · exact ⟨rfl, k0⟩
  have hn : 2 ≤ n ∧ n ≤ 7 := by omega
  have hm0 : 0 ≤ m := by omega
  have hm2 : m ≤ 200 := by omega
  have hN : N < 6 := by omega
  have k1 := k1 hn hm0 hm2 hN
  clear k0 c
  obtain ⟨nn, en⟩ : ∃ u : Nat, n = (u : Int) := ⟨n.toNat, by omega⟩
  obtain ⟨mm, em⟩ : ∃ u : Nat, m = (u : Int) := ⟨m.toNat, by omega⟩
  have e1 : n.toNat = nn := by omega
  have e2 : m.toNat = mm := by omega
  rw [e1, e2] at k1
  have hlE := zlte_ok (n := nn) (m := mm) (seed := seed) (g := g) (by omega) (by omega)
  have loop : ∀ (q i : Nat) (h1 : zHP) (y : Int), mm - i = q → i ≤ mm → y = (i : Int) → zFin h1 → zfr [108, 109, 110, 111, 112, 113, 114] h h1 → (∀ j, j ≠ 0 → h1 108 j = h 108 j) → zMS h1 (N + 1) (zpsh A N (nn, i, zlte nn seed g)) → zAt X 252 37 0 0 [some (zR 108), some (zI seed), some (zI n), some (zI m), some (zI g), some (zI y)] [] zSHc h1 (fun v sh' h' => sh' = zSHc ∧ K v h') := by
    intro q
    induction q with
    | zero =>
      intro i h1 y hq hi hy F1 fr f0 M1
      have ei : i = mm := by omega
      subst ei
      have a0 := M1.1
      have kk := k1 h1 F1 fr f0 M1
      clear k1 M M1 hlE
      apply sg_252_37 <;> intros <;> (try omega)
      rw [show h1 108 0 - 1 = (N : Int) by omega]
      exact ⟨rfl, kk⟩
    | succ q ih =>
      intro i h1 y hq hi hy F1 fr f0 M1
      have a0 := M1.1
      have hb := zlotI_b (m := n - 1) (seed := seed) (w := 2 * y) (by omega)
      have e3 : (zlte nn seed g i).2.1 = (zlotI ((nn : Int) - 1) seed (2 * (i : Int))).toNat := rfl
      have e4 : (zlte nn seed g i).1 = if ¬ g = 0 ∧ zlotI 2 seed (2 * (i : Int) + 1) = 1 then 1 else 0 := rfl
      rw [← hy, ← en] at e3
      rw [← hy] at e4
      have add : ∀ kd : Int, kd = ((zlte nn seed g i).1 : Int) → zAt X 252 80 0 0 [some (zR 108), some (zI seed), some (zI n), some (zI m), some (zI g), some (zI y)] [zI (zlotI (n - 1) seed (2 * y)), zI kd, zR 108] zSHc h1 (fun v sh' h' => sh' = zSHc ∧ K v h') := by
        intro kd hkd
        refine sg_252_80c (cm_242 F1 M1 (zlok_le hlE (by omega)) hkd (by omega) (fun z => ?_) fun h2 F2 fr2 M2 => sg_252_85c (by omega) ?_)
        · exfalso
          rw [e4] at z
          split at z <;> omega
        · exact ih (i + 1) h2 _ (by omega) (by omega) (by omega) F2 (fr.trans (fr2.mono (by simp))) (fun j hj => by rw [fr2 108 (by simp)]; exact f0 j hj) M2
      have A0 : (g = 0 ∨ ¬ zlotI 2 seed (2 * y + 1) = 1) → zC X 250 [zI seed, zI (2 * y), zI (n - 1)] h1 (fun v h9 => zAt X 252 80 0 0 [some (zR 108), some (zI seed), some (zI n), some (zI m), some (zI g), some (zI y)] (zpush v [zI 0, zR 108]) zSHc h9 (fun v sh' h' => sh' = zSHc ∧ K v h')) := fun z => cm_250 (by omega) (add 0 (by rw [e4, if_neg (by omega)]; rfl))
      have A1 : ¬ g = 0 → zlotI 2 seed (2 * y + 1) = 1 → zC X 250 [zI seed, zI (2 * y), zI (n - 1)] h1 (fun v h9 => zAt X 252 80 0 0 [some (zR 108), some (zI seed), some (zI n), some (zI m), some (zI g), some (zI y)] (zpush v [zI 1, zR 108]) zSHc h9 (fun v sh' h' => sh' = zSHc ∧ K v h')) := fun z z2 => cm_250 (by omega) (add 1 (by rw [e4, if_pos ⟨z, z2⟩]; rfl))
      clear add ih k1 M M1 hlE e4 e3 hb
      apply sg_252_37 <;> intros <;> (try omega)
      · exact A0 (Or.inl (by omega))
      · refine cm_250 (by omega) ?_
        apply sg_252_60c <;> intros <;> (try omega)
        · exact A0 (Or.inr (by assumption))
        · exact A1 (by assumption) (by assumption)
  apply sg_252_0 <;> intros <;> (try omega)
  rw [en]
  refine cm_241 F M hN (by omega) fun h1 F1 fr1 f1 M1 => sg_252_34c ?_
  rw [← en]
  exact loop mm 0 h1 0 rfl (by omega) rfl F1 (fr1.mono (by simp)) f1 (M1 _)
/-- typed -/
theorem cm_210 {v : Int} {T : Nat} {tb : Nat → Nat} (F : zFin h) (t : zTM h T tb) (hT : T + 4 ≤ 2000) (k : ∀ h', zFin h' → zfr [108, 119] h h' → (∀ j, j ≠ 12 → h' 108 j = h 108 j) → zTM h' (T + 4) (ztpa T tb v) → K none h') : zC X 210 [zR 108, zI v] h K := by
  have loop : ∀ (q i : Nat) (h1 : zHP) (x : Int), 4 - i = q → i ≤ 4 → x = (i : Int) → zFin h1 → zfr [108, 119] h h1 → (∀ j, j ≠ 12 → h1 108 j = h 108 j) → h1 108 12 = ((T + i : Nat) : Int) → (∀ j, j < T + i → h1 119 j = (ztpa T tb v j : Int)) → zAt X 210 2 0 0 [some (zR 108), some (zI v), some (zI x)] [] zSHc h1 (fun v sh' h' => sh' = zSHc ∧ K v h') := by
    intro q
    induction q with
    | zero =>
      intro i h1 x hq hi hx F1 fr f0 a1 a2
      have ei : i = 4 := by omega
      subst ei
      apply sg_210_2 F1 <;> intros <;> (try omega)
      refine ⟨rfl, k h1 F1 fr f0 ⟨a1, hT, fun j hj => ⟨a2 j hj, ?_⟩⟩⟩
      unfold ztpa
      split
      · exact (t.2.2 j (by omega)).2
      · exact zbyt_lt _ _
    | succ q ih =>
      intro i h1 x hq hi hx F1 fr f0 a1 a2
      have en : (h1 108 12).toNat = T + i := by omega
      have ev : ziand (zishr v (24 - 8 * x)) 255 = (ztpa T tb v (T + i) : Int) := by
        have ez : ztpa T tb v (T + i) = zbyt v i := by unfold ztpa; rw [if_neg (by omega), show T + i - T = i by omega]
        rw [ez, show (24 - 8 * x) = ((24 - 8 * i : Nat) : Int) by omega, show (255 : Int) = ((2 ^ 8 - 1 : Nat) : Int) from rfl, zcod _ 8 (by decide)]
        unfold zbyt
        omega
      apply sg_210_2 F1 <;> intros <;> (try omega)
      rw [ev, en]
      refine ih (i + 1) _ _ (by omega) (by omega) (by omega) ((F1.upA zfa_119).up zfn_108_12) ((fr.up (by simp)).up (by simp)) (fun j hj => ?_) ?_ (fun j hj => ?_)
      · rw [zup_k hj, zup_c (by decide)]; exact f0 j hj
      · rw [zup_eq]; omega
      · rw [zup_c (by decide)]
        by_cases c : j = T + i
        · rw [c, zup_eq]
        · rw [zup_k c]; exact a2 j (by omega)
  exact sg_210_0 (loop 4 0 h 0 (by omega) (by omega) rfl F zfr.rfl (fun _ _ => rfl) t.1 (fun j hj => by rw [(t.2.2 j hj).1]; unfold ztpa; rw [if_pos (show j < T by omega)]))
/-- feed -/
theorem cm_209 {a b c d e : Int} {T : Nat} {tb : Nat → Nat} (F : zFin h) (t : zTM h T tb) (k0 : 2000 < T + 20 → K (some (zI (-1))) h) (k1 : T + 20 ≤ 2000 → ∀ h', zFin h' → zfr [108, 119] h h' → (∀ j, j ≠ 12 → h' 108 j = h 108 j) → zTM h' (T + 20) (zfed T tb a b c d e) → K (some (zI ((T + 20 : Nat) : Int))) h') : zC X 209 [zR 108, zI a, zI b, zI c, zI d, zI e] h K := by
  have e1 := t.1
  have e2 := t.2.1
  apply sg_209_0 <;> intros <;> (try omega)
  · refine cm_210 F t (by omega) fun h1 F1 f1 g1 t1 => sg_209_20c (cm_210 F1 t1 (by omega) fun h2 F2 f2 g2 t2 => sg_209_25c (cm_210 F2 t2 (by omega) fun h3 F3 f3 g3 t3 => sg_209_30c (cm_210 F3 t3 (by omega) fun h4 F4 f4 g4 t4 => sg_209_36c (cm_210 F4 t4 (by omega) fun h5 F5 f5 g5 t5 => sg_209_42c ⟨rfl, ?_⟩))))
    have := k1 (by omega) h5 F5 ((((f1.trans f2).trans f3).trans f4).trans f5) (fun j hj => (g5 j hj).trans ((g4 j hj).trans ((g3 j hj).trans ((g2 j hj).trans (g1 j hj))))) t5
    rw [t5.1]
    exact this
  · exact ⟨rfl, k0 (by omega)⟩
/-- back -/
theorem cm_211 {n : Int} {T : Nat} {tb : Nat → Nat} (F : zFin h) (t : zTM h T tb) (k0 : ¬ (0 ≤ n ∧ n ≤ (T : Int)) → K (some (zI (-1))) h) (k1 : 0 ≤ n → n ≤ (T : Int) → ∀ h', zFin h' → zfr [108] h h' → (∀ j, j ≠ 12 → h' 108 j = h 108 j) → zTM h' (T - n.toNat) tb → K (some (zI ((T - n.toNat : Nat) : Int))) h') : zC X 211 [zR 108, zI n] h K := by
  have e1 := t.1
  have e2 := t.2.1
  apply sg_211_0 <;> intros <;> (try omega)
  · exact ⟨rfl, k0 (by omega)⟩
  · rw [show h 108 12 - n = ((T - n.toNat : Nat) : Int) by omega]
    refine ⟨rfl, k1 (by omega) (by omega) _ (F.up zfn_108_12) (zfr.rfl.up (by simp)) (fun j hj => zup_k hj) ⟨zup_eq, by omega, fun i hi => ?_⟩⟩
    rw [zup_c (by decide)]; exact t.2.2 i (by omega)
  · exact ⟨rfl, k0 (by omega)⟩
/-- clear -/
theorem cm_246 (F : zFin h) (M : zMS h N A) {G : Nat} {g : Nat → Int × Int × Int × Int} (k : ∀ h', zFin h' → zfr [108] h h' → (∀ j, j ≠ 0 → j ≠ 7 → h' 108 j = h 108 j) → zMS h' 0 A → zGM h' 0 g → K (some (zI (N : Int))) h') : zC X 246 [zR 108] h K := by
  obtain ⟨m1, m2, m3⟩ := M
  refine sg_246_0 ?_
  rw [m1]
  refine ⟨rfl, k _ ((F.up zfn_108_0).up zfn_108_7) ((zfr.rfl.up (by simp)).up (by simp)) (fun j a b => (zup_k b).trans (zup_k a)) ⟨?_, by omega, fun t ht => by omega⟩ ⟨zup_eq, by omega, fun i hi => by omega⟩⟩
  rw [zup_k (by decide), zup_eq]; rfl
/-- log -/
theorem cm_294 {t v q : Int} {G : Nat} {g : Nat → Int × Int × Int × Int} (F : zFin h) (M : zMS h N A) (g0 : zGM h G g) (k0 : (∀ u : Nat, u < N → t = (u : Int) → 0 ≤ v → v < ((A u).1 : Int) → 0 ≤ q → q < ((A u).1 : Int) → G < 40 → False) → K (some (zI (-1))) h) (k1 : ∀ u : Nat, u < N → t = (u : Int) → 0 ≤ v → v < ((A u).1 : Int) → 0 ≤ q → q < ((A u).1 : Int) → G < 40 → ∀ h', zFin h' → zfr [108, 115, 116, 117, 118] h h' → (∀ j, j ≠ 7 → h' 108 j = h 108 j) → zGM h' (G + 1) (zgps g G (t, v, q, -1)) → K (some (zI (G : Int))) h') : zC X 294 [zR 108, zI t, zI v, zI q] h K := by
  have m1 := M.1
  have m2 := M.2.1
  obtain ⟨g1, g2, g3⟩ := g0
  have eg : (h 108 7).toNat = G := by omega
  by_cases c : 0 ≤ t ∧ t < (N : Int)
  · obtain ⟨u, ht⟩ : ∃ u : Nat, t = (u : Int) := ⟨t.toNat, by omega⟩
    have hu : u < N := by omega
    obtain ⟨n1, n2⟩ := M.n hu ht
    have no : ¬ (0 ≤ v ∧ v < ((A u).1 : Int) ∧ 0 ≤ q ∧ q < ((A u).1 : Int) ∧ G < 40) → K (some (zI (-1))) h := fun c => k0 fun u' hu' a b1 b2 b3 b4 b5 => by
      have : u' = u := by omega
      subst this
      exact c ⟨b1, b2, b3, b4, b5⟩
    have k1 := k1 u hu ht
    clear k0
    apply sg_294_0 F <;> intros <;> (try omega)
    · exact ⟨rfl, no (by omega)⟩
    · exact ⟨rfl, no (by omega)⟩
    · rw [eg, show h 108 7 + 1 - 1 = (G : Int) by omega]
      refine ⟨rfl, k1 (by omega) (by omega) (by omega) (by omega) (by omega) _ (((((F.upA zfa_115).upA zfa_116).upA zfa_117).upA zfa_118).up zfn_108_7) (((((zfr.rfl.up (by simp)).up (by simp)).up (by simp)).up (by simp)).up (by simp)) (fun j hj => (zup_k hj).trans ((zup_c (by decide)).trans ((zup_c (by decide)).trans ((zup_c (by decide)).trans (zup_c (by decide)))))) ⟨?_, by omega, fun i hi => ?_⟩⟩
      · rw [zup_eq]; omega
      · unfold zgps
        by_cases ci : i = G
        · subst ci
          rw [if_pos rfl]
          refine ⟨?_, ?_, fun _ => ⟨?_, ?_⟩⟩
          · rw [zup_c (by decide), zup_c (by decide), zup_c (by decide), zup_c (by decide), zup_eq]
          · rw [zup_c (by decide), zup_eq]
          · rw [zup_c (by decide), zup_c (by decide), zup_c (by decide), zup_eq]
          · rw [zup_c (by decide), zup_c (by decide), zup_eq]
        · rw [if_neg ci]
          obtain ⟨q1, q2, q3⟩ := g3 i (by omega)
          refine ⟨?_, ?_, fun z => ⟨?_, ?_⟩⟩
          · rw [zup_c (by decide), zup_c (by decide), zup_c (by decide), zup_c (by decide), zup_k ci]; exact q1
          · rw [zup_c (by decide), zup_k ci, zup_c (by decide), zup_c (by decide), zup_c (by decide)]; exact q2
          · rw [zup_c (by decide), zup_c (by decide), zup_c (by decide), zup_k ci, zup_c (by decide)]; exact (q3 z).1
          · rw [zup_c (by decide), zup_c (by decide), zup_k ci, zup_c (by decide), zup_c (by decide)]; exact (q3 z).2
    · exact ⟨rfl, no (by omega)⟩
  · have k0 := k0 fun u hu a => by omega
    clear k1
    apply sg_294_0 F <;> intros <;> (try omega)
    · exact ⟨rfl, k0⟩
    · exact ⟨rfl, k0⟩
/-- annul -/
theorem cm_295 {l : Int} {G : Nat} {g : Nat → Int × Int × Int × Int} (F : zFin h) (g0 : zGM h G g) (hv : ∀ i, i < G → (g i).2.2.2 = -1 ∨ 0 ≤ (g i).2.2.2) (k0 : (∀ i : Nat, l = (i : Int) → i < G → (g i).2.2.2 = -1 → G < 40 → False) → K (some (zI (-1))) h) (k1 : ∀ i : Nat, l = (i : Int) → i < G → (g i).2.2.2 = -1 → G < 40 → ∀ h', zFin h' → zfr [108, 115, 118] h h' → (∀ j, j ≠ 7 → h' 108 j = h 108 j) → zGM h' (G + 1) (zgps g G (-1, -1, -1, l)) → K (some (zI (G : Int))) h') : zC X 295 [zR 108, zI l] h K := by
  obtain ⟨g1, g2, g3⟩ := g0
  have eg : (h 108 7).toNat = G := by omega
  by_cases c : 0 ≤ l ∧ l < (G : Int)
  · obtain ⟨i, hl⟩ : ∃ u : Nat, l = (u : Int) := ⟨l.toNat, by omega⟩
    have hi : i < G := by omega
    have q2 := (g3 i hi).2.1
    have v2 := hv i hi
    have el : h 118 l.toNat = (g i).2.2.2 := by rw [show l.toNat = i by omega]; exact q2
    have no : ¬ ((g i).2.2.2 = -1 ∧ G < 40) → K (some (zI (-1))) h := fun c => k0 fun i' a b1 b2 b3 => by
      have : i' = i := by omega
      subst this
      exact c ⟨b2, b3⟩
    have k1 := k1 i hl hi
    clear k0
    apply sg_295_0 F <;> intros <;> (try omega)
    · exact ⟨rfl, no (by omega)⟩
    · rw [eg, show h 108 7 + 1 - 1 = (G : Int) by omega]
      refine ⟨rfl, k1 (by omega) (by omega) _ (((F.upA zfa_115).upA zfa_118).up zfn_108_7) (((zfr.rfl.up (by simp)).up (by simp)).up (by simp)) (fun j hj => (zup_k hj).trans ((zup_c (by decide)).trans (zup_c (by decide)))) ⟨?_, by omega, fun j hj => ?_⟩⟩
      · rw [zup_eq]; omega
      · unfold zgps
        by_cases ci : j = G
        · subst ci
          rw [if_pos rfl]
          refine ⟨?_, ?_, fun z => absurd rfl z⟩
          · rw [zup_c (by decide), zup_c (by decide), zup_eq]
          · rw [zup_c (by decide), zup_eq]
        · rw [if_neg ci]
          obtain ⟨q1, q2, q3⟩ := g3 j (by omega)
          refine ⟨?_, ?_, fun z => ⟨?_, ?_⟩⟩
          · rw [zup_c (by decide), zup_c (by decide), zup_k ci]; exact q1
          · rw [zup_c (by decide), zup_k ci, zup_c (by decide)]; exact q2
          · rw [zup_c (by decide), zup_c (by decide), zup_c (by decide)]; exact (q3 z).1
          · rw [zup_c (by decide), zup_c (by decide), zup_c (by decide)]; exact (q3 z).2
    · exact ⟨rfl, no (by omega)⟩
  · have k0 := k0 fun i a b => by omega
    clear k1
    apply sg_295_0 F <;> intros <;> (try omega)
    · exact ⟨rfl, k0⟩
    · exact ⟨rfl, k0⟩
    · exact ⟨rfl, k0⟩
/-- count -/
theorem cm_327 {w : Int} (k : K (some (zI (if w = 0 then h 108 0 else if w = 1 then h 108 7 else if w = 2 then h 108 12 else -1))) h) : zC X 327 [zR 108, zI w] h K := by
  apply sg_327_0 <;> intros
  · rw [if_neg (by omega), if_neg (by omega), if_neg (by omega)] at k
    exact ⟨rfl, k⟩
  · rw [if_neg (by omega), if_neg (by omega), if_pos (by omega)] at k
    exact ⟨rfl, k⟩
  · rw [if_neg (by omega), if_pos (by omega)] at k
    exact ⟨rfl, k⟩
  · rw [if_pos (by omega)] at k
    exact ⟨rfl, k⟩
end
