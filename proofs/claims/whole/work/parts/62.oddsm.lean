theorem zww_lt {n m o : Nat} {e : zel} (hl : zlok n m e) (ho : o < zfac n) {P : Nat → Prop} [DecidablePred P] {v : Nat} (hv : v ≤ zfac n) : zsu (fun u => if P u then zww n e o m u else 0) v ≤ 1099511627776 := by
  have h1 := zww_sum hl ho m (Nat.le_refl _)
  have h2 := (zways_le hl m (Nat.le_refl _)).1
  have h4 := hl.2.2.1
  have h5 : 4 ^ zmb e m ≤ 4 ^ 20 := Nat.pow_le_pow_right (by decide) h4
  have h6 : 4 ^ 20 = 1099511627776 := by decide
  have h7 := zsu_mono (f := fun u => if P u then zww n e o m u else 0) (g := zww n e o m) (n := v) (fun i _ => by
    show (if P i then _ else 0) ≤ _
    split
    · exact Nat.le_refl _
    · exact Nat.zero_le _)
  have h8 := zsu_up (f := zww n e o m) hv
  omega
/-- the ways by which a number comes to a leg -/
def zod (n : Nat) (e : zel) (o m v q : Nat) : Nat := zsu (fun u => if zp n u v = q then zww n e o m u else 0) (zfac n)
section
variable {X : List Int} {h : zHP} {K : Option zAV → zHP → Prop} {N : Nat} {A : Nat → Nat × Nat × zel}
/-- spread -/
theorem cm_288 {u o : Nat} {t x : Int} (F : zFin h) (M : zMS h N A) (L : zML h) (hu : u < N) (ht : t = (u : Int)) (ho : o < zfac (A u).1) (hx : x = (o : Int)) (k : ∀ h', zLz h h' → zMO h' (A u).1 → (∀ v, v < zfac (A u).1 → h' 148 v = (zww (A u).1 (A u).2.2 o (A u).2.1 v : Int)) → K none h') : zC X 288 [zR 108, zI t, zI x] h K := by
  have hN := M.2.1
  have hl := (M.2.2 u hu).1
  have hm := hl.2.1
  have h5 := zfac7 hl.1.2
  obtain ⟨n1, n2⟩ := M.n hu ht
  refine sg_288_0 F (by omega) (cm_lay F L hl.1 n1 fun ha ya MO => sg_288_10c ?_)
  have Ma := M.ly ya
  have za := ya.lz
  have outer : ∀ (q i : Nat) (h1 : zHP) (y : Int), (A u).2.1 - i = q → i ≤ (A u).2.1 → y = (i : Int) → zFin h1 → zfr [148, 149] ha h1 → (∀ v, v < zfac (A u).1 → h1 148 v = (zww (A u).1 (A u).2.2 o i v : Int)) → zAt X 288 44 0 0 [some (zR 108), some (zI t), none, some (zI y), none, none] [] zSHc h1 (fun v sh' h' => sh' = zSHc ∧ K v h') := by
    intro q
    induction q with
    | zero =>
      intro i h1 y hq hi hy F1 fr W
      have e2 := ((Ma.z fr).n hu ht).2
      have ei : i = (A u).2.1 := by omega
      rw [ei] at W
      exact sg_288_44 F1 (by omega) (fun _ => ⟨rfl, k h1 (za.w F1 fr) (MO.z fr) W⟩) (fun a => by omega) (fun a => by omega) (fun a => by omega)
    | succ q ih =>
      intro i h1 y hq hi hy F1 fr W
      have M1 := Ma.z fr
      have e2 := (M1.n hu ht).2
      refine sg_288_44 F1 (by omega) (fun a => by omega) (fun _ => by omega) (fun _ => by omega) (fun _ => ?_)
      refine cm_288b F1 M1 (MO.z fr) hu ht (show i < (A u).2.1 by omega) hy rfl (fun v hv => ⟨zww_le hl ho hi hv, zww_le hl ho (show i + 1 ≤ (A u).2.1 by omega) hv⟩) W fun h2 F2 fr2 W2 => ?_
      exact ih (i + 1) h2 _ (by omega) (by omega) (by omega) F2 (fr.trans fr2) W2
  have init : ∀ (q v : Nat) (h1 : zHP) (y : Int), zfac (A u).1 - v = q → v ≤ zfac (A u).1 → y = (v : Int) → zFin h1 → zfr [148, 149] ha h1 → (∀ j, j < v → h1 148 j = (zww (A u).1 (A u).2.2 o 0 j : Int)) → zAt X 288 12 0 0 [some (zR 108), some (zI t), some (zI x), some (zI y), none, none] [] zSHc h1 (fun v sh' h' => sh' = zSHc ∧ K v h') := by
    intro q
    induction q with
    | zero =>
      intro v h1 y hq hv hy F1 fr W
      have e := (MO.z fr).1
      exact sg_288_12 F1 (fun _ => outer _ 0 h1 0 rfl (by omega) rfl F1 fr fun j hj => W j (by omega)) (fun a => by omega) (fun a => by omega) (fun a => by omega) (fun a => by omega) (fun a => by omega) (fun a => by omega)
    | succ q ih =>
      intro v h1 y hq hv hy F1 fr W
      have e := (MO.z fr).1
      have ey : y.toNat = v := by omega
      have nx : ∀ w : Int, w = (zww (A u).1 (A u).2.2 o 0 v : Int) → zAt X 288 12 0 0 [some (zR 108), some (zI t), some (zI x), some (zI (y + 1)), none, none] [] zSHc (zup h1 148 y.toNat w) (fun v sh' h' => sh' = zSHc ∧ K v h') := fun w hw => by
        rw [ey]
        refine ih (v + 1) _ _ (by omega) (by omega) (by omega) (F1.upA zfa_148) (fr.up (by simp)) fun j hj => ?_
        by_cases c : j = v
        · rw [c, zup_eq]; exact hw
        · rw [zup_k c]; exact W j (by omega)
      have e0 : zww (A u).1 (A u).2.2 o 0 v = if v = o then 1 else 0 := rfl
      refine sg_288_12 F1 (fun a => by omega) (fun _ _ => by omega) (fun _ _ => by omega) (fun _ c => nx 0 ?_) (fun _ _ => by omega) (fun _ _ => by omega) (fun _ c => nx 1 ?_)
      · rw [e0, if_neg (by omega)]; rfl
      · rw [e0, if_pos (by omega)]; rfl
  exact init _ 0 ha 0 rfl (by omega) rfl ya.1 zfr.rfl fun j hj => by omega
/-- oddsOf -/
theorem cm_292 {t o w : Int} (F : zFin h) (M : zMS h N A) (L : zML h) (k0 : (∀ u : Nat, u < N → t = (u : Int) → 0 ≤ o → o < zFc (A u).1 → 0 ≤ w → w < zFc (A u).1 → False) → K (some (zL (-1))) h) (k1 : ∀ u : Nat, u < N → t = (u : Int) → 0 ≤ o → o < zFc (A u).1 → 0 ≤ w → w < zFc (A u).1 → ∀ h', zLz h h' → K (some (zL (zww (A u).1 (A u).2.2 o.toNat (A u).2.1 w.toNat : Int))) h') : zC X 292 [zR 108, zI t, zI o, zI w] h K := by
  have hN := M.2.1
  have h0 := M.1
  refine sg_292_0 F (fun c => ⟨rfl, k0 fun u hu a _ _ _ _ => by omega⟩) (fun _ => by omega) fun c => ?_
  obtain ⟨u, hu⟩ : ∃ u : Nat, t = (u : Int) := ⟨t.toNat, by omega⟩
  have hu' : u < N := by omega
  obtain ⟨n1, n2⟩ := M.n hu' hu
  have hl := (M.2.2 u hu').1
  have un : ∀ v : Nat, t = (v : Int) → v = u := fun v hv => by omega
  rw [n1]
  refine cm_or (fun c => ?_) fun a b ha hb en eo => ?_
  · exact sg_292_19c F (fun _ => ⟨rfl, k0 fun v _ hv z1 z2 _ _ => c (by rw [un v hv] at z2; exact ⟨by have := hl.1; omega, z1, z2⟩)⟩) (fun a => absurd rfl a) (fun a => absurd rfl a)
  have ea : a = (A u).1 := by omega
  subst ea
  refine sg_292_19c F (fun z => absurd z (by decide)) (fun _ => by omega) fun _ => ?_
  rw [n1]
  refine cm_or (fun c => ?_) fun a c ha2 hc en2 ew => ?_
  · exact sg_292_33c (fun a => absurd rfl a) (fun _ => ⟨rfl, k0 fun v _ hv _ _ z1 z2 => c (by rw [un v hv] at z2; exact ⟨by have := hl.1; omega, z1, z2⟩)⟩)
  have ea : a = (A u).1 := by omega
  subst ea
  have h5 := zfac7 hl.1.2
  refine sg_292_33c (fun _ => cm_288 F M L hu' hu hb eo fun h' y MO W => ?_) (fun z => absurd z (by decide))
  have kk := k1 u hu' hu (by omega) (by rw [eo]; exact zFc_c hb) (by omega) (by rw [ew]; exact zFc_c hc) h' y
  rw [eo, Int.toNat_natCast] at kk
  rw [← W w.toNat (by omega)] at kk
  exact sg_292_46c y.1 (by omega) ⟨rfl, kk⟩
/-- odds -/
theorem cm_291 {t o v q : Int} (F : zFin h) (M : zMS h N A) (L : zML h) (k0 : (∀ u : Nat, u < N → t = (u : Int) → 0 ≤ o → o < zFc (A u).1 → 0 ≤ v → v < ((A u).1 : Int) → 0 ≤ q → q < ((A u).1 : Int) → False) → K (some (zL (-1))) h) (k1 : ∀ u : Nat, u < N → t = (u : Int) → 0 ≤ o → o < zFc (A u).1 → 0 ≤ v → v < ((A u).1 : Int) → 0 ≤ q → q < ((A u).1 : Int) → ∀ h', zLz h h' → K (some (zL (zod (A u).1 (A u).2.2 o.toNat (A u).2.1 v.toNat q.toNat : Int))) h') : zC X 291 [zR 108, zI t, zI o, zI v, zI q] h K := by
  have hN := M.2.1
  have h0 := M.1
  refine sg_291_0 F (fun c => ⟨rfl, k0 fun u hu a _ _ _ _ _ _ => by omega⟩) (fun _ => by omega) fun c => ?_
  obtain ⟨u, hu⟩ : ∃ u : Nat, t = (u : Int) := ⟨t.toNat, by omega⟩
  have hu' : u < N := by omega
  obtain ⟨n1, n2⟩ := M.n hu' hu
  have hl := (M.2.2 u hu').1
  have un : ∀ v : Nat, t = (v : Int) → v = u := fun v hv => by omega
  rw [n1]
  refine cm_or (fun c => ?_) fun a b ha hb en eo => ?_
  · exact sg_291_19c F (fun _ => ⟨rfl, k0 fun v _ hv z1 z2 _ _ _ _ => c (by rw [un v hv] at z2; exact ⟨by have := hl.1; omega, z1, z2⟩)⟩) (fun a => absurd rfl a) (fun a => absurd rfl a) (fun a => absurd rfl a) (fun a => absurd rfl a)
  have ea : a = (A u).1 := by omega
  subst ea
  refine sg_291_19c F (fun z => absurd z (by decide)) (fun _ => by omega) (fun _ z => ⟨rfl, k0 fun u2 _ hv _ _ z1 z2 _ _ => ?_⟩) (fun _ z1 z2 => ?_) (fun _ _ z => ⟨rfl, k0 fun u2 _ hv _ _ _ _ z1 z2 => ?_⟩)
  · rw [un u2 hv] at z2; omega
  · have h5 := zfac7 hl.1.2
    refine cm_288 F M L hu' hu hb eo fun h' y MO W => sg_291_51c ?_
    have kk := k1 u hu' hu (by omega) (by rw [eo]; exact zFc_c hb) z1.1 (by omega) z2.1 (by omega) h' y
    rw [eo, Int.toNat_natCast] at kk
    have e39 := MO.1
    have loop : ∀ (p i : Nat) (x z : Int), zfac (A u).1 - i = p → i ≤ zfac (A u).1 → z = (i : Int) → x = (zsu (fun w => if zp (A u).1 w v.toNat = q.toNat then zww (A u).1 (A u).2.2 b (A u).2.1 w else 0) i : Int) → zAt X 291 57 0 0 [some (zR 108), none, none, some (zI v), some (zI q), some (zL x), none, some (zI z)] [] zSHc h' (fun v sh' h' => sh' = zSHc ∧ K v h') := by
      intro p
      induction p with
      | zero =>
        intro i x z hp hi hz hx
        have ei : i = zfac (A u).1 := by omega
        rw [ei] at hx
        have kx : K (some (zL x)) h' := by rw [hx]; exact kk
        clear kk W k0 k1 hx
        apply sg_291_57 y.1 <;> intros <;> (try omega)
        exact ⟨rfl, kx⟩
      | succ p ih =>
        intro i x z hp hi hz hx
        have hi' : i < zfac (A u).1 := by omega
        have r1 : h' 136 (7 * z + q).toNat = (zr (A u).1 i q.toNat : Int) := by
          rw [show (7 * z + q).toNat = 7 * i + q.toNat by omega]; exact MO.2.1 i hi' _ (by omega)
        have iff1 : zr (A u).1 i q.toNat = v.toNat ↔ zp (A u).1 i v.toNat = q.toNat := ⟨fun e => zp_eq hi' (by omega) e, fun e => by rw [← e]; exact zr_p hi' (by omega)⟩
        have es : zsu (fun w => if zp (A u).1 w v.toNat = q.toNat then zww (A u).1 (A u).2.2 b (A u).2.1 w else 0) (i + 1) = zsu (fun w => if zp (A u).1 w v.toNat = q.toNat then zww (A u).1 (A u).2.2 b (A u).2.1 w else 0) i + (if zp (A u).1 i v.toNat = q.toNat then zww (A u).1 (A u).2.2 b (A u).2.1 i else 0) := rfl
        have b1 := zww_lt hl hb (P := fun w => zp (A u).1 w v.toNat = q.toNat) (v := i) hi
        have w1 : h' 148 z.toNat = (zww (A u).1 (A u).2.2 b (A u).2.1 i : Int) := by rw [show z.toNat = i by omega]; exact W i hi'
        have b2 := zww_le hl hb (Nat.le_refl _) hi'
        have nx := ih (i + 1)
        by_cases c : zp (A u).1 i v.toNat = q.toNat
        · have r2 := iff1.mpr c
          rw [if_pos c] at es
          have nx1 := nx (x + h' 148 z.toNat) (z + 1) (by omega) (by omega) (by omega) (by rw [es, w1, hx]; omega)
          clear nx ih kk W k0 k1 es iff1 MO
          apply sg_291_57 y.1 <;> intros <;> (try omega)
          all_goals exact nx1
        · have r2 : ¬ zr (A u).1 i q.toNat = v.toNat := fun z => c (iff1.mp z)
          rw [if_neg c] at es
          have nx1 := nx x (z + 1) (by omega) (by omega) (by omega) (by rw [es, hx]; omega)
          clear nx ih kk W k0 k1 es iff1 MO
          apply sg_291_57 y.1 <;> intros <;> (try omega)
          all_goals exact nx1
    exact loop _ 0 0 0 rfl (by omega) rfl rfl
  · rw [un u2 hv] at z2; omega
/-- possible -/
theorem cm_293 {t o : Int} (F : zFin h) (M : zMS h N A) (L : zML h) (k0 : (∀ u : Nat, u < N → t = (u : Int) → 0 ≤ o → o < zFc (A u).1 → False) → K (some (zI (-1))) h) (k1 : ∀ u : Nat, u < N → t = (u : Int) → 0 ≤ o → o < zFc (A u).1 → ∀ h', zLz h h' → K (some (zI (zsu (fun v => if 0 < zww (A u).1 (A u).2.2 o.toNat (A u).2.1 v then 1 else 0) (zfac (A u).1) : Nat))) h') : zC X 293 [zR 108, zI t, zI o] h K := by
  have hN := M.2.1
  have h0 := M.1
  refine sg_293_0 F (fun c => ⟨rfl, k0 fun u hu a _ _ => by omega⟩) (fun _ => by omega) fun c => ?_
  obtain ⟨u, hu⟩ : ∃ u : Nat, t = (u : Int) := ⟨t.toNat, by omega⟩
  have hu' : u < N := by omega
  obtain ⟨n1, n2⟩ := M.n hu' hu
  have hl := (M.2.2 u hu').1
  have un : ∀ v : Nat, t = (v : Int) → v = u := fun v hv => by omega
  rw [n1]
  refine cm_or (fun c => ?_) fun a b ha hb en eo => ?_
  · exact sg_293_19c (fun a => absurd rfl a) (fun _ => ⟨rfl, k0 fun v _ hv z1 z2 => c (by rw [un v hv] at z2; exact ⟨by have := hl.1; omega, z1, z2⟩)⟩)
  have ea : a = (A u).1 := by omega
  subst ea
  have h5 := zfac7 hl.1.2
  refine sg_293_19c (fun _ => cm_288 F M L hu' hu hb eo fun h' y MO W => sg_293_30c ?_) (fun z => absurd z (by decide))
  have kk := k1 u hu' hu (by omega) (by rw [eo]; exact zFc_c hb) h' y
  rw [eo, Int.toNat_natCast] at kk
  have e39 := MO.1
  have loop : ∀ (p i : Nat) (x z : Int), zfac (A u).1 - i = p → i ≤ zfac (A u).1 → z = (i : Int) → x = (zsu (fun v => if 0 < zww (A u).1 (A u).2.2 b (A u).2.1 v then 1 else 0) i : Nat) → zAt X 293 35 0 0 [some (zR 108), none, none, some (zI x), some (zI z)] [] zSHc h' (fun v sh' h' => sh' = zSHc ∧ K v h') := by
    intro p
    induction p with
    | zero =>
      intro i x z hp hi hz hx
      have ei : i = zfac (A u).1 := by omega
      rw [ei] at hx
      have kx : K (some (zI x)) h' := by rw [hx]; exact kk
      clear kk W k0 k1 hx
      apply sg_293_35 y.1 <;> intros <;> (try omega)
      exact ⟨rfl, kx⟩
    | succ p ih =>
      intro i x z hp hi hz hx
      have hi' : i < zfac (A u).1 := by omega
      have es : zsu (fun v => if 0 < zww (A u).1 (A u).2.2 b (A u).2.1 v then 1 else 0) (i + 1) = zsu (fun v => if 0 < zww (A u).1 (A u).2.2 b (A u).2.1 v then 1 else 0) i + (if 0 < zww (A u).1 (A u).2.2 b (A u).2.1 i then 1 else 0) := rfl
      have b1 := zsu_le (f := fun v => if 0 < zww (A u).1 (A u).2.2 b (A u).2.1 v then 1 else 0) (b := 1) (fun j => by split <;> omega) i
      have w1 : h' 148 z.toNat = (zww (A u).1 (A u).2.2 b (A u).2.1 i : Int) := by rw [show z.toNat = i by omega]; exact W i hi'
      have nx := ih (i + 1)
      by_cases c : 0 < zww (A u).1 (A u).2.2 b (A u).2.1 i
      · rw [if_pos c] at es
        have nx1 := nx (x + 1) (z + 1) (by omega) (by omega) (by omega) (by rw [es, hx]; omega)
        clear nx ih kk W k0 k1 es MO
        apply sg_293_35 y.1 <;> intros <;> (try omega)
        all_goals exact nx1
      · rw [if_neg c] at es
        have nx1 := nx (x + 0) (z + 1) (by omega) (by omega) (by omega) (by rw [es, hx]; omega)
        clear nx ih kk W k0 k1 es MO
        apply sg_293_35 y.1 <;> intros <;> (try omega)
        all_goals exact nx1
  exact loop _ 0 0 0 rfl (by omega) rfl rfl
end
