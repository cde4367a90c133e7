/-! THE REFERENCE: sorts, unsorted, idle, needed, unlike -/
section
variable {X : List Int} {h : zHP} {K : Option zAV → zHP → Prop} {N : Nat} {A : Nat → Nat × Nat × zel}
/-- unsortedBut -/
theorem cm_310 {u sk : Nat} {t but : Int} (F : zFin h) (M : zMS h N A) (L : zML h) (hu : u < N) (ht : t = (u : Int)) (hb : ∀ i, i < (A u).2.1 → ((i : Int) = but ↔ i = sk)) (k : ∀ h', zLy h h' → K (some (zI (zuns (A u).1 (A u).2.2 sk (A u).2.1 : Int))) h') : zC X 310 [zR 108, zI t, zI but] h K := by
  have hN := M.2.1
  obtain ⟨n1, n2⟩ := M.n hu ht
  have hl := (M.2.2 u hu).1
  have hn := hl.1
  have h5 := zfac7 hn.2
  refine sg_310_0 F (by omega) ?_
  rw [n1]
  refine cm_lay F L hn rfl fun h2 y MO => sg_310_10c ?_
  have kk := k h2 y
  have e39 := MO.1
  have bd : ∀ r, zsu (fun o => if zru (A u).1 (A u).2.2 0 sk (A u).2.1 o = 0 then 0 else 1) r ≤ r * 1 := fun r => zsu_bd r fun i _ => by show (if _ then 0 else 1) ≤ 1; split <;> omega
  have loop : ∀ (p v : Nat) (x3 x4 : Int), zfac (A u).1 - v = p → v ≤ zfac (A u).1 → x4 = (v : Int) → x3 = (zsu (fun o => if zru (A u).1 (A u).2.2 0 sk (A u).2.1 o = 0 then 0 else 1) v : Nat) → zAt X 310 15 0 0 [some (zR 108), some (zI t), some (zI but), some (zI x3), some (zI x4)] [] zSHc h2 (fun v sh' h' => sh' = zSHc ∧ K v h') := by
    intro p
    induction p with
    | zero =>
      intro v x3 x4 hp hv h4 h3
      have ev : v = zfac (A u).1 := by omega
      rw [ev] at h3
      exact sg_310_15 (fun _ => ⟨rfl, by rw [h3]; exact kk⟩) (fun z => by omega)
    | succ p ih =>
      intro v x3 x4 hp hv h4 h3
      have hv' : v < zfac (A u).1 := by omega
      have es : zsu (fun o => if zru (A u).1 (A u).2.2 0 sk (A u).2.1 o = 0 then 0 else 1) (v + 1) = zsu (fun o => if zru (A u).1 (A u).2.2 0 sk (A u).2.1 o = 0 then 0 else 1) v + (if zru (A u).1 (A u).2.2 0 sk (A u).2.1 v = 0 then 0 else 1) := rfl
      have b := bd v
      refine sg_310_15 (fun z => by omega) (fun _ => ?_)
      refine cm_267 (th := 0) (sk := sk) y.1 (M.ly y) hu ht MO hv' h4 (by decide) hb (sg_310_34c (fun _ => by omega) (fun _ => by omega) (fun c => ?_) (fun _ => by omega) (fun _ => by omega) (fun c => ?_))
      · rw [if_neg (by omega)] at es
        exact ih (v + 1) _ _ (by omega) (by omega) (by omega) (by rw [es]; omega)
      · rw [if_pos (by omega)] at es
        exact ih (v + 1) _ _ (by omega) (by omega) (by omega) (by rw [es]; omega)
  exact loop _ 0 0 0 rfl (by omega) rfl rfl
/-- sorts -/
theorem cm_311 {t : Int} (F : zFin h) (M : zMS h N A) (L : zML h) (k0 : ¬ (0 ≤ t ∧ t < (N : Int)) → K (some (zI (-1))) h) (k2 : ∀ u : Nat, u < N → t = (u : Int) → ¬ zmb (A u).2.2 (A u).2.1 = 0 → K (some (zI (-2))) h) (k1 : ∀ u : Nat, u < N → t = (u : Int) → zmb (A u).2.2 (A u).2.1 = 0 → ∀ h', zLy h h' → K (some (zI (if zuns (A u).1 (A u).2.2 9999 (A u).2.1 = 0 then 1 else 0))) h') : zC X 311 [zR 108, zI t] h K := by
  have hN := M.2.1
  have h0 := M.1
  refine sg_311_0 (fun c => ?_) (fun c => ⟨rfl, k0 (by omega)⟩)
  obtain ⟨u, hu⟩ : ∃ u : Nat, t = (u : Int) := ⟨t.toNat, by omega⟩
  have hu' : u < N := by omega
  have hl := (M.2.2 u hu').1
  refine cm_244 F M hu' hu (sg_311_15c (fun a => ?_) (fun a => ⟨rfl, k2 u hu' hu (by omega)⟩))
  refine cm_310 F M L hu' hu (zno9 hl.2.1) fun h' y => ?_
  have kk := k1 u hu' hu (by omega) h' y
  refine sg_311_27c (fun c => ⟨rfl, ?_⟩) (fun c => ⟨rfl, ?_⟩)
  · rw [if_neg (by omega)] at kk; exact kk
  · rw [if_pos (by omega)] at kk; exact kk
/-- unsorted -/
theorem cm_312 {t : Int} (F : zFin h) (M : zMS h N A) (L : zML h) (k0 : ¬ (0 ≤ t ∧ t < (N : Int)) → K (some (zI (-1))) h) (k2 : ∀ u : Nat, u < N → t = (u : Int) → ¬ zmb (A u).2.2 (A u).2.1 = 0 → K (some (zI (-2))) h) (k1 : ∀ u : Nat, u < N → t = (u : Int) → zmb (A u).2.2 (A u).2.1 = 0 → ∀ h', zLy h h' → K (some (zI (zuns (A u).1 (A u).2.2 9999 (A u).2.1 : Int))) h') : zC X 312 [zR 108, zI t] h K := by
  have hN := M.2.1
  have h0 := M.1
  refine sg_312_0 (fun c => ?_) (fun c => ⟨rfl, k0 (by omega)⟩)
  obtain ⟨u, hu⟩ : ∃ u : Nat, t = (u : Int) := ⟨t.toNat, by omega⟩
  have hu' : u < N := by omega
  have hl := (M.2.2 u hu').1
  refine cm_244 F M hu' hu (sg_312_15c (fun a => ?_) (fun a => ⟨rfl, k2 u hu' hu (by omega)⟩))
  exact cm_310 F M L hu' hu (zno9 hl.2.1) fun h' y => sg_312_29c ⟨rfl, k1 u hu' hu (by omega) h' y⟩
/-- needed -/
theorem cm_319 {t i : Int} (F : zFin h) (M : zMS h N A) (L : zML h) (k0 : (∀ u j : Nat, u < N → t = (u : Int) → i = (j : Int) → j < (A u).2.1 → False) → K (some (zI (-1))) h) (k2 : ∀ u j : Nat, u < N → t = (u : Int) → i = (j : Int) → j < (A u).2.1 → ¬ zmb (A u).2.2 (A u).2.1 = 0 → K (some (zI (-2))) h) (k1 : ∀ u j : Nat, u < N → t = (u : Int) → i = (j : Int) → j < (A u).2.1 → zmb (A u).2.2 (A u).2.1 = 0 → ∀ h', zLy h h' → K (some (zI (if zuns (A u).1 (A u).2.2 j (A u).2.1 = 0 then 0 else 1))) h') : zC X 319 [zR 108, zI t, zI i] h K := by
  have hN := M.2.1
  have h0 := M.1
  by_cases ct : 0 ≤ t ∧ t < (N : Int)
  · obtain ⟨u, hu⟩ : ∃ u : Nat, t = (u : Int) := ⟨t.toNat, by omega⟩
    have hu' : u < N := by omega
    obtain ⟨n1, n2⟩ := M.n hu' hu
    have hl := (M.2.2 u hu').1
    have un : ∀ v : Nat, t = (v : Int) → v = u := fun v hv => by omega
    have no : ¬ (0 ≤ i ∧ i < ((A u).2.1 : Int)) → zSHc = zSHc ∧ K (some (zI (-1))) h := fun c => ⟨rfl, k0 fun u2 j _ a b1 b2 => by
      rw [un u2 a] at b2
      exact c (by omega)⟩
    refine sg_319_0 F (fun c => by omega) (fun _ c => no (by omega)) (fun _ _ => by omega) (fun _ c d => ?_) (fun _ _ c => no (by omega))
    refine cm_244 F M hu' hu (sg_319_29c (fun a => ?_) (fun a => ⟨rfl, k2 u i.toNat hu' hu (by omega) (by omega) (by omega)⟩))
    refine cm_310 (sk := i.toNat) F M L hu' hu (fun j hj => ⟨fun z => by omega, fun z => by omega⟩) fun h' y => ?_
    have kk := k1 u i.toNat hu' hu (by omega) (by omega) (by omega) h' y
    refine sg_319_41c (fun c => ⟨rfl, ?_⟩) (fun c => ⟨rfl, ?_⟩)
    · rw [if_pos (by omega)] at kk; exact kk
    · rw [if_neg (by omega)] at kk; exact kk
  · exact sg_319_0 F (fun _ => ⟨rfl, k0 fun u j a1 a2 => by omega⟩) (fun c => by omega) (fun c => by omega) (fun c => by omega) (fun c => by omega)
/-- idle -/
theorem cm_318 {t i : Int} (F : zFin h) (M : zMS h N A) (L : zML h) (k0 : (∀ u j : Nat, u < N → t = (u : Int) → i = (j : Int) → j < (A u).2.1 → False) → K (some (zI (-1))) h) (k2 : ∀ u j : Nat, u < N → t = (u : Int) → i = (j : Int) → j < (A u).2.1 → ¬ zmb (A u).2.2 (A u).2.1 = 0 → K (some (zI (-2))) h) (k3 : ∀ u j : Nat, u < N → t = (u : Int) → i = (j : Int) → j < (A u).2.1 → zmb (A u).2.2 (A u).2.1 = 0 → (∀ o, o < zfac (A u).1 → zst (A u).1 ((A u).2.2 j) false (zru (A u).1 (A u).2.2 0 9999 j o) = zru (A u).1 (A u).2.2 0 9999 j o) → ∀ h', zLy h h' → K (some (zI 1)) h') (k1 : ∀ u j : Nat, u < N → t = (u : Int) → i = (j : Int) → j < (A u).2.1 → zmb (A u).2.2 (A u).2.1 = 0 → ¬ (∀ o, o < zfac (A u).1 → zst (A u).1 ((A u).2.2 j) false (zru (A u).1 (A u).2.2 0 9999 j o) = zru (A u).1 (A u).2.2 0 9999 j o) → ∀ h', zLy h h' → K (some (zI 0)) h') : zC X 318 [zR 108, zI t, zI i] h K := by
  have hN := M.2.1
  have h0 := M.1
  by_cases ct : 0 ≤ t ∧ t < (N : Int)
  · obtain ⟨u, hu⟩ : ∃ u : Nat, t = (u : Int) := ⟨t.toNat, by omega⟩
    have hu' : u < N := by omega
    obtain ⟨n1, n2⟩ := M.n hu' hu
    have hl := (M.2.2 u hu').1
    have hn := hl.1
    have hm := hl.2.1
    have un : ∀ v : Nat, t = (v : Int) → v = u := fun v hv => by omega
    have no : ¬ (0 ≤ i ∧ i < ((A u).2.1 : Int)) → zSHc = zSHc ∧ K (some (zI (-1))) h := fun c => ⟨rfl, k0 fun u2 j _ a b1 b2 => by
      rw [un u2 a] at b2
      exact c (by omega)⟩
    refine sg_318_0 F (fun c => by omega) (fun _ c => no (by omega)) (fun _ _ => by omega) (fun _ c d => ?_) (fun _ _ c => no (by omega))
    refine cm_244 F M hu' hu (sg_318_29c F (fun _ => by omega) (fun a => ?_) (fun a => ⟨rfl, k2 u i.toNat hu' hu (by omega) (by omega) (by omega)⟩))
    have mb0 : zmb (A u).2.2 (A u).2.1 = 0 := by omega
    obtain ⟨j, hj⟩ : ∃ j : Nat, i = (j : Int) := ⟨i.toNat, by omega⟩
    have hjm : j < (A u).2.1 := by omega
    have hll := zmb0_k hl mb0
    rw [n1]
    refine cm_lay F L hn rfl fun h2 y MO => sg_318_45c ?_
    have kY := k3 u j hu' hu hj hjm mb0
    have kN := k1 u j hu' hu hj hjm mb0
    have e39 := MO.1
    have M2 := M.ly y
    have h5 := zfac7 hn.2
    have tb : ∀ q, Nat.testBit 0 q = false := fun q => Nat.zero_testBit q
    have outer : ∀ (p v : Nat) (x3 : Int), zfac (A u).1 - v = p → v ≤ zfac (A u).1 → x3 = (v : Int) → (∀ o, o < v → zst (A u).1 ((A u).2.2 j) false (zru (A u).1 (A u).2.2 0 9999 j o) = zru (A u).1 (A u).2.2 0 9999 j o) → zAt X 318 47 0 0 [some (zR 108), some (zI t), some (zI i), some (zI x3), none, none] [] zSHc h2 (fun v sh' h' => sh' = zSHc ∧ K v h') := by
      intro p
      induction p with
      | zero =>
        intro v x3 hp hv h3 B
        have kk := kY (fun o ho => B o (by omega)) h2 y
        exact sg_318_47 (fun _ => ⟨rfl, kk⟩) (fun z => by omega)
      | succ p ih =>
        intro v x3 hp hv h3 B
        have hv' : v < zfac (A u).1 := by omega
        have inner : ∀ (r q : Nat) (x4 x5 : Int), j - q = r → q ≤ j → x5 = (q : Int) → x4 = (zru (A u).1 (A u).2.2 0 9999 q v : Int) → zAt X 318 61 0 0 [some (zR 108), some (zI t), some (zI i), some (zI x3), some (zI x4), some (zI x5)] [] zSHc h2 (fun v sh' h' => sh' = zSHc ∧ K v h') := by
          intro r
          induction r with
          | zero =>
            intro q x4 x5 hr hq h5' h4
            have eq : q = j := by omega
            rw [eq] at h4
            obtain ⟨g1, g2, -⟩ := M2.rd hu' hu hjm hj
            obtain ⟨q1, q2⟩ := hll j hjm
            have lt := zru_lt (th := 0) (sk := 9999) hl hv' j (by omega)
            refine sg_318_61 y.1 (fun _ => by omega) (fun _ => by omega) (fun _ => by omega) (fun _ => ?_) (fun z => by omega) (fun z => by omega) (fun z => by omega) (fun z => by omega)
            refine cm_266 (b := false) y.1 MO hn.2 lt q1 (by omega) h4 g1 g2 (fun z => by omega) (sg_318_139c (fun _ => by omega) (fun c => ?_) (fun c => ⟨rfl, ?_⟩))
            · refine ih (v + 1) _ (by omega) (by omega) (by omega) fun o ho => ?_
              by_cases d : o = v
              · rw [d]; omega
              · exact B o (by omega)
            · exact kN (fun z => c (by rw [h4, z v hv'])) h2 y
          | succ r ih2 =>
            intro q x4 x5 hr hq h5' h4
            have hqm : q < (A u).2.1 := by omega
            obtain ⟨g1, g2, -⟩ := M2.rd hu' hu hqm h5'
            obtain ⟨q1, q2⟩ := hll q hqm
            have lt := zru_lt (th := 0) (sk := 9999) hl hv' q (by omega)
            refine sg_318_61 y.1 (fun z => by omega) (fun z => by omega) (fun z => by omega) (fun z => by omega) (fun _ => by omega) (fun _ => by omega) (fun _ => by omega) (fun _ => ?_)
            refine cm_266 (b := false) y.1 MO hn.2 lt q1 (by omega) h4 g1 g2 (fun z => by omega) (sg_318_100c (by omega) ?_)
            refine ih2 (q + 1) _ _ (by omega) (by omega) (by omega) ?_
            have es : zru (A u).1 (A u).2.2 0 9999 (q + 1) v = if q = 9999 then zru (A u).1 (A u).2.2 0 9999 q v else zst (A u).1 ((A u).2.2 q) (Nat.testBit 0 (zmb (A u).2.2 q)) (zru (A u).1 (A u).2.2 0 9999 q v) := rfl
            rw [es, if_neg (by omega), tb]
        exact sg_318_47 (fun z => by omega) (fun _ => inner _ 0 _ 0 rfl (by omega) rfl h3)
    exact outer _ 0 0 rfl (by omega) rfl (fun o ho => by omega)
  · exact sg_318_0 F (fun _ => ⟨rfl, k0 fun u j a1 a2 => by omega⟩) (fun c => by omega) (fun c => by omega) (fun c => by omega) (fun c => by omega)
/-- unlike -/
theorem cm_326 {t w : Int} (F : zFin h) (M : zMS h N A) (L : zML h) (k0 : (∀ u v : Nat, u < N → v < N → t = (u : Int) → w = (v : Int) → False) → K (some (zI (-1))) h) (k2 : ∀ u v : Nat, u < N → v < N → t = (u : Int) → w = (v : Int) → ¬ (zmb (A u).2.2 (A u).2.1 = 0 ∧ zmb (A v).2.2 (A v).2.1 = 0 ∧ (A u).1 = (A v).1) → K (some (zI (-2))) h) (k1 : ∀ u v : Nat, u < N → v < N → t = (u : Int) → w = (v : Int) → zmb (A u).2.2 (A u).2.1 = 0 → zmb (A v).2.2 (A v).2.1 = 0 → (A u).1 = (A v).1 → ∀ h', zLy h h' → K (some (zI (zsu (fun o => if zru (A u).1 (A u).2.2 0 9999 (A u).2.1 o = zru (A u).1 (A v).2.2 0 9999 (A v).2.1 o then 0 else 1) (zfac (A u).1) : Nat))) h') : zC X 326 [zR 108, zI t, zI w] h K := by
  have hN := M.2.1
  have h0 := M.1
  by_cases ct : (0 ≤ t ∧ t < (N : Int)) ∧ 0 ≤ w ∧ w < (N : Int)
  · obtain ⟨u, hu⟩ : ∃ u : Nat, t = (u : Int) := ⟨t.toNat, by omega⟩
    have hu' : u < N := by omega
    obtain ⟨v, hv⟩ : ∃ v : Nat, w = (v : Int) := ⟨w.toNat, by omega⟩
    have hv' : v < N := by omega
    obtain ⟨n1, n2⟩ := M.n hu' hu
    obtain ⟨p1, p2⟩ := M.n hv' hv
    have hl := (M.2.2 u hu').1
    have hl2 := (M.2.2 v hv').1
    have hn := hl.1
    have h5 := zfac7 hn.2
    refine sg_326_0 (fun c => by omega) (fun _ _ => ?_) (fun _ c => by omega)
    refine cm_244 F M hu' hu (sg_326_23c (fun a => ⟨rfl, k2 u v hu' hv' hu hv (by omega)⟩) (fun a => ?_))
    refine cm_244 F M hv' hv (sg_326_31c F (fun b => ⟨rfl, k2 u v hu' hv' hu hv (by omega)⟩) (fun _ => by omega) (fun _ => by omega) (fun b c => ?_) (fun b c => ⟨rfl, k2 u v hu' hv' hu hv (by omega)⟩))
    have mb0 : zmb (A u).2.2 (A u).2.1 = 0 := by omega
    have mb1 : zmb (A v).2.2 (A v).2.1 = 0 := by omega
    have en : (A u).1 = (A v).1 := by omega
    rw [n1]
    refine cm_lay F L hn rfl fun h2 y MO => sg_326_62c ?_
    have kk := k1 u v hu' hv' hu hv mb0 mb1 en h2 y
    have e39 := MO.1
    have M2 := M.ly y
    have MO2 : zMO h2 (A v).1 := by rw [← en]; exact MO
    have bd : ∀ r, zsu (fun o => if zru (A u).1 (A u).2.2 0 9999 (A u).2.1 o = zru (A u).1 (A v).2.2 0 9999 (A v).2.1 o then 0 else 1) r ≤ r * 1 := fun r => zsu_bd r fun i _ => by show (if _ then 0 else 1) ≤ 1; split <;> omega
    have loop : ∀ (p o : Nat) (x3 x4 : Int), zfac (A u).1 - o = p → o ≤ zfac (A u).1 → x4 = (o : Int) → x3 = (zsu (fun o => if zru (A u).1 (A u).2.2 0 9999 (A u).2.1 o = zru (A u).1 (A v).2.2 0 9999 (A v).2.1 o then 0 else 1) o : Nat) → zAt X 326 67 0 0 [some (zR 108), some (zI t), some (zI w), some (zI x3), some (zI x4)] [] zSHc h2 (fun v sh' h' => sh' = zSHc ∧ K v h') := by
      intro p
      induction p with
      | zero =>
        intro o x3 x4 hp ho h4 h3
        have eo : o = zfac (A u).1 := by omega
        rw [eo] at h3
        exact sg_326_67 (fun _ => ⟨rfl, by rw [h3]; exact kk⟩) (fun z => by omega)
      | succ p ih =>
        intro o x3 x4 hp ho h4 h3
        have ho' : o < zfac (A u).1 := by omega
        have es : zsu (fun o => if zru (A u).1 (A u).2.2 0 9999 (A u).2.1 o = zru (A u).1 (A v).2.2 0 9999 (A v).2.1 o then 0 else 1) (o + 1) = zsu (fun o => if zru (A u).1 (A u).2.2 0 9999 (A u).2.1 o = zru (A u).1 (A v).2.2 0 9999 (A v).2.1 o then 0 else 1) o + (if zru (A u).1 (A u).2.2 0 9999 (A u).2.1 o = zru (A u).1 (A v).2.2 0 9999 (A v).2.1 o then 0 else 1) := rfl
        have b := bd o
        refine sg_326_67 (fun z => by omega) (fun _ => ?_)
        refine cm_267 (th := 0) (sk := 9999) y.1 M2 hu' hu MO ho' h4 (by decide) (zno9 hl.2.1) (sg_326_86c ?_)
        refine cm_267 (th := 0) (sk := 9999) y.1 M2 hv' hv MO2 (by rw [← en]; exact ho') h4 (by decide) (zno9 hl2.2.1) ?_
        rw [← en]
        refine sg_326_95c (fun _ => by omega) (fun _ => by omega) (fun c => ?_) (fun _ => by omega) (fun _ => by omega) (fun c => ?_)
        · rw [if_pos (by omega)] at es
          exact ih (o + 1) _ _ (by omega) (by omega) (by omega) (by rw [es]; omega)
        · rw [if_neg (by omega)] at es
          exact ih (o + 1) _ _ (by omega) (by omega) (by omega) (by rw [es]; omega)
    exact loop _ 0 0 0 rfl (by omega) rfl rfl
  · have kk : zSHc = zSHc ∧ K (some (zI (-1))) h := ⟨rfl, k0 fun u v a1 a2 a3 a4 => by omega⟩
    exact sg_326_0 (fun _ => kk) (fun c d => by omega) (fun _ _ => kk)
end
