/-! THE REFERENCE: MEND, GATE -/
theorem zmd_eq {n m r w : Nat} {e : zel} (hn : n ≤ 7) (hl : ∀ q, q < m → (e q).2.1 + 2 ≤ n) (hr : r < 2 ^ n) (hw : w < 128) (B : ∀ j, j < 7 → w.testBit j = zbrw e 9999 m r.testBit j) : w = zrb n (zim e m [] r) := by
  apply Nat.eq_of_testBit_eq
  intro j
  rw [zrb_bit]
  show _ = (decide (j < n) && zbrw e 9999 m r.testBit j)
  by_cases c : j < n
  · rw [decide_eq_true c, Bool.true_and]
    exact B j (by omega)
  · rw [decide_eq_false c, Bool.false_and]
    by_cases d : j < 7
    · rw [B j d, zbrw_out m j hl (by omega)]
      exact Nat.testBit_lt_two_pow (Nat.lt_of_lt_of_le hr (Nat.pow_le_pow_right (by decide) (by omega)))
    · exact Nat.testBit_lt_two_pow (Nat.lt_of_lt_of_le hw (Nat.pow_le_pow_right (show 0 < 2 by decide) (show 7 ≤ j by omega)))
theorem zbest_of {n m : Nat} {e : zel} {l : List Nat} (hn : n ≤ 7) (hv : zval n l) (ok : zwok n e m l) (best : ∀ v, zval n v → v.length = l.length → zwok n e m v → zcd l ≤ zcd v) (D : ∀ v, zval n v → v.length < l.length → ¬ zwok n e m v) : zbest n e m l := by
  refine ⟨hv, ok, fun u hu oku => ?_⟩
  by_cases c : u.length < l.length
  · exact absurd oku (D u hu c)
  · by_cases d : u.length = l.length
    · exact best u hu d oku
    · have a := (zcd_b l (zval_8 hn hv)).2
      have b := (zcd_b u (zval_8 hn hu)).1
      have p : 8 ^ (l.length + 1) ≤ 8 ^ u.length := Nat.pow_le_pow_right (by decide) (by omega)
      rw [Nat.pow_succ] at p
      omega
section
variable {X : List Int} {h : zHP} {K : Option zAV → zHP → Prop} {N : Nat} {A : Nat → Nat × Nat × zel}
/-- mending -/
theorem cm_323 {t : Int} (F : zFin h) (M : zMS h N A) (k0 : ¬ (0 ≤ t ∧ t < (N : Int)) → K (some (zI (-1))) h) (k2 : ∀ u : Nat, u < N → t = (u : Int) → ¬ zmb (A u).2.2 (A u).2.1 = 0 → K (some (zI (-2))) h) (k3 : ∀ u : Nat, u < N → t = (u : Int) → zmb (A u).2.2 (A u).2.1 = 0 → 5 < (A u).1 → K (some (zI (-3))) h) (k1 : ∀ (u : Nat) (l : List Nat), u < N → t = (u : Int) → zmb (A u).2.2 (A u).2.1 = 0 → (A u).1 ≤ 5 → zbest (A u).1 (A u).2.2 (A u).2.1 l → l.length ≤ 10 → ∀ h', zFin h' → zfr [153, 154] h h' → (∀ i, i < l.length → h' 153 i = (l.getD (l.length - 1 - i) 0 : Nat)) → K (some (zI (l.length : Int))) h') : zC X 323 [zR 108, zI t] h K := by
  have hN := M.2.1
  have h0 := M.1
  refine sg_323_0 (fun c => ?_) (fun c => ⟨rfl, k0 (by omega)⟩)
  obtain ⟨u, hu⟩ : ∃ u : Nat, t = (u : Int) := ⟨t.toNat, by omega⟩
  have hu' : u < N := by omega
  obtain ⟨n1, n2⟩ := M.n hu' hu
  have hl := (M.2.2 u hu').1
  have hn := hl.1
  refine cm_244 F M hu' hu (sg_323_15c F (fun a => by omega) (fun a b => ?_) (fun a b => ⟨rfl, k3 u hu' hu (by omega) (by omega)⟩) (fun a => ⟨rfl, k2 u hu' hu (by omega)⟩))
  have mb0 : zmb (A u).2.2 (A u).2.1 = 0 := by omega
  have n5 : (A u).1 ≤ 5 := by omega
  have hll := zmb0_k hl mb0
  have p5 : 2 ^ (A u).1 ≤ 2 ^ 5 := Nat.pow_le_pow_right (by decide) n5
  have e2 : zishl 1 (h 109 t.toNat) = ((2 ^ (A u).1 : Nat) : Int) := by rw [n1]; exact zpow2 (by omega)
  -- the lengths
  have lens : ∀ (r len : Nat) (h1 : zHP) (x2 : Int), 11 - len = r → len ≤ 10 → x2 = (len : Int) → zFin h1 → zfr [153, 154] h h1 → h1 154 0 = zV3 (zSt (A u).1 (A u).2.2 (A u).2.1 []) → (∀ v, zval (A u).1 v → v.length < len → ¬ zwok (A u).1 (A u).2.2 (A u).2.1 v) → zAt X 323 80 0 0 [some (zR 108), some (zI t), some (zI x2)] [] zSHc h1 (fun v sh' h' => sh' = zSHc ∧ K v h') := by
    intro r
    induction r with
    | zero => intro len h1 x2 hr; omega
    | succ r ih =>
      intro len h1 x2 hr hlen h2 F1 fr e154 D
      have n1' : h1 109 t.toNat = ((A u).1 : Int) := by rw [fr 109 (by decide)]; exact n1
      refine sg_323_80 F1 (fun z => by omega) (fun _ => by omega) (fun _ => ?_)
      rw [n1']
      refine cm_322 (n := (A u).1) (len := len) F1 ⟨hn.1, n5⟩ hlen rfl h2 e154 (fun l h' hv hl2 ok best F2 fr2 G => sg_323_97c (fun z => absurd z (by decide)) (fun z => absurd z (by decide)) (fun _ => ⟨rfl, ?_⟩)) (fun h' none F2 fr2 e0 => sg_323_97c (fun _ => by omega) (fun _ => ?_) (fun z => absurd rfl z))
      · have bb : zbest (A u).1 (A u).2.2 (A u).2.1 l := zbest_of hn.2 hv ok (fun v hv2 hl3 ok2 => best v hv2 (by omega) ok2) (fun v hv2 hl3 => D v hv2 (by omega))
        have kk := k1 u l hu' hu mb0 n5 bb (by omega) h' F2 (fr.trans fr2) (fun i hi => by rw [G i (by omega), hl2])
        rw [h2, ← hl2]
        exact kk
      · have D2 : ∀ v, zval (A u).1 v → v.length < len + 1 → ¬ zwok (A u).1 (A u).2.2 (A u).2.1 v := fun v hv hl2 => by
          by_cases c : v.length = len
          · exact none v hv c
          · exact D v hv (by omega)
        have l9 : len + 1 ≤ 10 := by
          obtain ⟨z1, z2, z3⟩ := zbub_w (e := (A u).2.2) (m := (A u).2.1) ⟨hn.1, n5⟩
          by_cases c : len = 10
          · exact absurd z3 (D2 _ z2 (by omega))
          · omega
        exact ih (len + 1) h' _ (by omega) l9 (by omega) F2 (fr.trans fr2) (e0.trans e154) D2
  -- the set of the ladder
  have rows : ∀ (p r : Nat) (h1 : zHP) (x2 : Int), 2 ^ (A u).1 - r = p → r ≤ 2 ^ (A u).1 → x2 = (r : Int) → zFin h1 → zfr [153, 154] h h1 → h1 154 0 = zV3 (zrb 32 (zmmb (fun r => zrb (A u).1 (zim (A u).2.2 (A u).2.1 [] r)) r)) → zAt X 323 43 0 0 [some (zR 108), some (zI t), some (zI x2)] [] zSHc h1 (fun v sh' h' => sh' = zSHc ∧ K v h') := by
    intro p
    induction p with
    | zero =>
      intro r h1 x2 hp hr h2 F1 fr e154
      have er : r = 2 ^ (A u).1 := by omega
      have e2' : zishl 1 (h1 109 t.toNat) = ((2 ^ (A u).1 : Nat) : Int) := by rw [fr 109 (by decide)]; exact e2
      rw [er] at e154
      exact sg_323_43 F1 (by omega) (fun _ => lens 11 0 h1 0 rfl (by omega) rfl F1 fr e154 fun v _ hv => by omega) (fun z => by omega)
    | succ p ih =>
      intro r h1 x2 hp hr h2 F1 fr e154
      have hr' : r < 2 ^ (A u).1 := by omega
      have e2' : zishl 1 (h1 109 t.toNat) = ((2 ^ (A u).1 : Nat) : Int) := by rw [fr 109 (by decide)]; exact e2
      have M1 : zMS h1 N A := M.fr (by rw [fr 108 (by decide)]) fun c c1 c2 => fr c (by simp; omega)
      refine sg_323_43 F1 (by omega) (fun z => by omega) (fun _ => ?_)
      refine cm_314 F1 M1 hu' hu mb0 (r := r) (by omega) h2 fun w hw B => sg_323_69c (by decide) (by omega) ?_
      have ew := zmd_eq hn.2 (fun q hq => (hll q hq).1) hr' hw B
      have w32 : w < 32 := by
        have : zrb (A u).1 (zim (A u).2.2 (A u).2.1 [] r) < 2 ^ (A u).1 := zrb_lt _
        omega
      refine ih (r + 1) _ _ (by omega) (by omega) (by omega) (F1.upA zfa_154) (fr.up (by simp)) ?_
      show zup h1 154 0 _ 154 0 = _
      rw [zup_eq, e154, zV3_or1 w32, zrb_or1 w32]
      refine congrArg zV3 (zrb_ext fun a _ => ?_)
      rw [ew]
      rfl
  refine rows _ 0 _ 0 rfl (Nat.zero_le _) rfl (F.upA zfa_154) ((zfr.rfl).up (by simp)) ?_
  rw [zup_eq]
  show (0 : Int) = zV3 (zrb 32 fun _ => false)
  decide
/-- mend -/
theorem cm_324 {t : Int} (F : zFin h) (M : zMS h N A) (k0 : ¬ (0 ≤ t ∧ t < (N : Int)) → K (some (zI (-1))) h) (k2 : ∀ u : Nat, u < N → t = (u : Int) → ¬ zmb (A u).2.2 (A u).2.1 = 0 → K (some (zI (-2))) h) (k3 : ∀ u : Nat, u < N → t = (u : Int) → zmb (A u).2.2 (A u).2.1 = 0 → 5 < (A u).1 → K (some (zI (-3))) h) (k1 : ∀ (u : Nat) (l : List Nat), u < N → t = (u : Int) → zmb (A u).2.2 (A u).2.1 = 0 → (A u).1 ≤ 5 → zbest (A u).1 (A u).2.2 (A u).2.1 l → l.length ≤ 10 → ∀ h', zFin h' → zfr [153, 154] h h' → K (some (zI (l.length : Int))) h') : zC X 324 [zR 108, zI t] h K :=
  sg_324_0 (cm_323 F M (fun c => sg_324_5c ⟨rfl, k0 c⟩) (fun u a b c => sg_324_5c ⟨rfl, k2 u a b c⟩) (fun u a b c d => sg_324_5c ⟨rfl, k3 u a b c d⟩) (fun u l a b c d best l10 h' F2 fr2 _ => sg_324_5c ⟨rfl, k1 u l a b c d best l10 h' F2 fr2⟩))
/-- mendAt -/
theorem cm_325 {t i : Int} (F : zFin h) (M : zMS h N A) (k0 : ¬ (0 ≤ t ∧ t < (N : Int)) → K (some (zI (-1))) h) (k2 : ∀ u : Nat, u < N → t = (u : Int) → ¬ zmb (A u).2.2 (A u).2.1 = 0 → K (some (zI (-1))) h) (k3 : ∀ u : Nat, u < N → t = (u : Int) → zmb (A u).2.2 (A u).2.1 = 0 → 5 < (A u).1 → K (some (zI (-1))) h) (k4 : ∀ (u : Nat) (l : List Nat), u < N → t = (u : Int) → zmb (A u).2.2 (A u).2.1 = 0 → (A u).1 ≤ 5 → zbest (A u).1 (A u).2.2 (A u).2.1 l → ¬ (0 ≤ i ∧ i < (l.length : Int)) → ∀ h', zFin h' → zfr [153, 154] h h' → K (some (zI (-1))) h') (k1 : ∀ (u : Nat) (l : List Nat) (j : Nat), u < N → t = (u : Int) → zmb (A u).2.2 (A u).2.1 = 0 → (A u).1 ≤ 5 → zbest (A u).1 (A u).2.2 (A u).2.1 l → j < l.length → i = (j : Int) → ∀ h', zFin h' → zfr [153, 154] h h' → K (some (zI ((l.getD (l.length - 1 - j) 0 : Nat) : Int))) h') : zC X 325 [zR 108, zI t, zI i] h K := by
  refine sg_325_0 (cm_323 F M (fun c => ?_) (fun u a b c => ?_) (fun u a b c d => ?_) (fun u l a b c d best l10 h' F2 fr2 G => ?_))
  · exact sg_325_5c F (fun z => ⟨rfl, k0 c⟩) (fun z y => ⟨rfl, k0 c⟩) (fun z y => by omega) (fun z y => by omega)
  · exact sg_325_5c F (fun z => ⟨rfl, k2 u a b c⟩) (fun z y => ⟨rfl, k2 u a b c⟩) (fun z y => by omega) (fun z y => by omega)
  · exact sg_325_5c F (fun z => ⟨rfl, k3 u a b c d⟩) (fun z y => ⟨rfl, k3 u a b c d⟩) (fun z y => by omega) (fun z y => by omega)
  · refine sg_325_5c F2 (fun z => ⟨rfl, k4 u l a b c d best (by omega) h' F2 fr2⟩) (fun z y => ⟨rfl, k4 u l a b c d best (by omega) h' F2 fr2⟩) (fun z y => by omega) (fun z y => ⟨rfl, ?_⟩)
    rw [G i.toNat (by omega)]
    exact k1 u l i.toNat a b c d best (by omega) (by omega) h' F2 fr2
end
