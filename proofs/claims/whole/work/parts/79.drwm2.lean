/-! THE RUNGS DRAWN IN, ONE BY ONE -/
def zwk (e : zel) (n q m : Nat) : Nat → Nat → Nat → Nat → Int
  | 0, _, _, _ => -1
  | f + 1, d, p, i =>
    if 0 < p ∧ zdc e n q m d (p - 1) < zdc e n q m d p then (if i = 0 then 10 * ((m : Int) - d) + p - 1 else zwk e n q m f d (p - 1) (i - 1))
    else if p + 1 < n ∧ zdc e n q m d (p + 1) < zdc e n q m d p then (if i = 0 then 10 * ((m : Int) - d) + p else zwk e n q m f d (p + 1) (i - 1))
    else zwk e n q m f (d - 1) (zbsd (e (m - d)).2.1 p) i
theorem zwk_s {e : zel} {n q m f d p i : Nat} : zwk e n q m (f + 1) d p i = if 0 < p ∧ zdc e n q m d (p - 1) < zdc e n q m d p then (if i = 0 then 10 * ((m : Int) - d) + p - 1 else zwk e n q m f d (p - 1) (i - 1)) else if p + 1 < n ∧ zdc e n q m d (p + 1) < zdc e n q m d p then (if i = 0 then 10 * ((m : Int) - d) + p else zwk e n q m f d (p + 1) (i - 1)) else zwk e n q m f (d - 1) (zbsd (e (m - d)).2.1 p) i := rfl
def zdw (e : zel) (n q m v i : Nat) : Int := zwk e n q m (zdc e n q m m v + m) m v i
/-- where no neighbour is cheaper, the walk goes on down -/
theorem zdc_none {e : zel} {n q m d p : Nat} (hp : p < n) (hq : q < n) (h1 : ¬ (0 < p ∧ zdc e n q m d (p - 1) < zdc e n q m d p)) (h2 : ¬ (p + 1 < n ∧ zdc e n q m d (p + 1) < zdc e n q m d p)) : (d = 0 → zdc e n q m d p = 0) ∧ (∀ d', d = d' + 1 → zdc e n q m d p = zdc e n q m d' (zbsd (e (m - 1 - d')).2.1 p)) := by
  refine ⟨fun hd => ?_, fun d' hd => ?_⟩
  · subst hd
    have a1 : zdc e n q m 0 (p - 1) = zap (p - 1) q := rfl
    have a2 : zdc e n q m 0 p = zap p q := rfl
    have a3 : zdc e n q m 0 (p + 1) = zap (p + 1) q := rfl
    rw [a1, a2] at h1
    rw [a3, a2] at h2
    rw [a2]
    unfold zap at *
    omega
  · subst hd
    obtain ⟨a, ha, ea⟩ := zmi_ex (f := fun a => zdc e n q m d' (zbsd (e (m - 1 - d')).2.1 a)) (p := p) (n := n) (by omega)
    have b1 := zmi_le (f := fun a => zdc e n q m d' (zbsd (e (m - 1 - d')).2.1 a)) (p := p - 1) ha
    have b2 := zmi_le (f := fun a => zdc e n q m d' (zbsd (e (m - 1 - d')).2.1 a)) (p := p + 1) ha
    rw [← zdc_s] at ea b1 b2
    by_cases c : a = p
    · subst c
      have : zap a a = 0 := by unfold zap; omega
      rw [ea, this]
      rfl
    · exfalso
      generalize zdc e n q m d' (zbsd (e (m - 1 - d')).2.1 a) = x at *
      unfold zap at *
      omega
section
variable {X : List Int} {h : zHP} {K : Option zAV → zHP → Prop} {N : Nat} {A : Nat → Nat × Nat × zel}
/-- drawnAt -/
theorem cm_307 {t v q i : Int} (F : zFin h) (M : zMS h N A) (k0 : (∀ u : Nat, u < N → t = (u : Int) → 0 ≤ v → v < ((A u).1 : Int) → 0 ≤ q → q < ((A u).1 : Int) → zplb (A u).2.2 (A u).2.1 = true → 0 ≤ i → i < (zdc (A u).2.2 (A u).1 q.toNat (A u).2.1 (A u).2.1 v.toNat : Int) → False) → ∀ h', zFin h' → zfr [150] h h' → K (some (zI (-1))) h') (k1 : ∀ u : Nat, u < N → t = (u : Int) → 0 ≤ v → v < ((A u).1 : Int) → 0 ≤ q → q < ((A u).1 : Int) → zplb (A u).2.2 (A u).2.1 = true → 0 ≤ i → i < (zdc (A u).2.2 (A u).1 q.toNat (A u).2.1 (A u).2.1 v.toNat : Int) → ∀ h', zFin h' → zfr [150] h h' → K (some (zI (zdw (A u).2.2 (A u).1 q.toNat (A u).2.1 v.toNat i.toNat))) h') : zC X 307 [zR 108, zI t, zI v, zI q, zI i] h K := by
  have hN := M.2.1
  refine sg_307_0 (cm_306 F M (fun c => ?_) (fun u hu htu a1 a2 a3 a4 pl => ?_) (fun u hu htu a1 a2 a3 a4 pl h' F' fr D => ?_))
  · exact sg_307_7c (fun _ => ⟨rfl, k0 (fun u hu a b1 b2 b3 b4 _ _ _ => c u hu a b1 b2 b3 b4) h F zfr.rfl⟩) (fun a => absurd a (by decide)) (fun a => absurd a (by decide)) (fun a => absurd a (by decide))
  · refine sg_307_7c (fun _ => ⟨rfl, k0 (fun u2 hu2 a b1 b2 b3 b4 b5 _ _ => ?_) h F zfr.rfl⟩) (fun a => absurd a (by decide)) (fun a => absurd a (by decide)) (fun a => absurd a (by decide))
    have : u2 = u := by omega
    subst this
    exact pl b5
  · have no : ¬ (0 ≤ i ∧ i < (zdc (A u).2.2 (A u).1 q.toNat (A u).2.1 (A u).2.1 v.toNat : Int)) → zSHc = zSHc ∧ K (some (zI (-1))) h' := fun c => ⟨rfl, k0 (fun u2 hu2 a b1 b2 b3 b4 b5 b6 b7 => by
      have : u2 = u := by omega
      subst this
      exact c ⟨b6, b7⟩) h' F' fr⟩
    refine sg_307_7c (fun a => by omega) (fun _ c => no (by omega)) (fun _ c1 c2 => ?_) (fun _ _ c => no (by omega))
    have kk := k1 u hu htu a1 a2 a3 a4 pl c1 c2 h' F' fr
    have hl := (M.2.2 u hu).1
    obtain ⟨n1, n2⟩ := M.n hu htu
    have n1 : h' 109 t.toNat = ((A u).1 : Int) := by rw [fr 109 (by decide)]; exact n1
    have rdl : ∀ i, i < (A u).2.1 → ∀ z : Int, z = (i : Int) → h' 112 ((200 * t) + z).toNat = (((A u).2.2 i).2.1 : Int) := fun i hi z hz => by rw [fr 112 (by decide)]; exact (M.rd hu htu hi hz).2.1
    have hn := hl.1
    have hm := hl.2.1
    have h2 : ∀ i, i < (A u).2.1 → ((A u).2.2 i).2.1 + 2 ≤ (A u).1 := fun i hi => (hl.2.2.2 i hi).2.1
    obtain ⟨q', eq⟩ : ∃ q' : Nat, q = (q' : Int) := ⟨q.toNat, by omega⟩
    obtain ⟨v', ev⟩ : ∃ v' : Nat, v = (v' : Int) := ⟨v.toNat, by omega⟩
    obtain ⟨i', ei⟩ : ∃ i' : Nat, i = (i' : Int) := ⟨i.toNat, by omega⟩
    subst eq; subst ev; subst ei
    rw [Int.toNat_natCast, Int.toNat_natCast, Int.toNat_natCast] at kk
    rw [Int.toNat_natCast] at D
    rw [Int.toNat_natCast, Int.toNat_natCast] at c2 ⊢
    clear k0 k1 no M F
    unfold zdw at kk
    generalize (A u).2.2 = e at *
    generalize (A u).2.1 = m at *
    generalize (A u).1 = n at *
    have many := zdc_lt h2 (show q' < n by omega) m v' (Nat.le_refl _) (by omega)
    generalize hM : zdc e n q' m m v' = M at *
    have D2 : ∀ d p, d ≤ m → p < n → ∀ z : Int, z = 7 * ((m : Int) - d) + p → h' 150 z.toNat = (zdc e n q' m d p : Int) := fun d p a b z hz => by
      rw [← D d p a b]
      congr 1
      omega
    have walk : ∀ (f d p j : Nat) (x6 x7 x8 x9 : Int), f = zdc e n q' m d p + d → d ≤ m → p < n → x6 = (m : Int) - d → x7 = (p : Int) → x9 = (j : Int) → j ≤ i' → zdc e n q' m d p + j = M → zwk e n q' m f d p (i' - j) = zwk e n q' m (M + m) m v' i' → zAt X 307 59 0 0 [some (zR 108), some (zI t), none, none, some (zI (i' : Int)), some (zI (M : Int)), some (zI x6), some (zI x7), some (zI x8), some (zI x9), some (zI (((M : Int) - x9) - 1)), some (zI 0)] [] zSHc h' (fun v sh' h' => sh' = zSHc ∧ K v h') := by
      intro f
      induction f with
      | zero => intro d p j x6 x7 x8 x9 hf hd hp e6 e7 e9 hj hC hk; omega
      | succ f ih =>
        intro d p j x6 x7 x8 x9 hf hd hp e6 e7 e9 hj hC hk
        have l1 := zdc_lip (e := e) (n := n) (q := q') (m := m) (d := d) (p := p) (p2 := p - 1) (by omega)
        have l2 := zdc_lip (e := e) (n := n) (q := q') (m := m) (d := d) (p := p) (p2 := p + 1) (by omega)
        have l3 : zap p (p - 1) ≤ 1 := by unfold zap; omega
        have l4 : zap p (p + 1) ≤ 1 := by unfold zap; omega
        have g1 : 0 < p → h' 150 ((((7 * x6) + x7) - 1).toNat) = (zdc e n q' m d (p - 1) : Int) := fun a => D2 d (p - 1) hd (by omega) _ (by omega)
        have g2 : p + 1 < n → h' 150 ((((7 * x6) + x7) + 1).toNat) = (zdc e n q' m d (p + 1) : Int) := fun a => D2 d (p + 1) hd a _ (by omega)
        -- a rung is told
        have told : ∀ (p2 : Nat) (x7 x8 : Int), x7 = (p2 : Int) → p2 < n → zdc e n q' m d p2 + 1 = zdc e n q' m d p → (if i' - j = 0 then x8 else zwk e n q' m f d p2 (i' - j - 1)) = zwk e n q' m (M + m) m v' i' → zAt X 307 59 0 0 [some (zR 108), some (zI t), none, none, some (zI (i' : Int)), some (zI (M : Int)), some (zI x6), some (zI x7), some (zI x8), some (zI x9), some (zI (((M : Int) - x9) - 1)), some (zI 1)] [] zSHc h' (fun v sh' h' => sh' = zSHc ∧ K v h') := fun p2 x7 x8 e7 hp2 hC2 hk2 => by
          have nx : zAt X 307 40 0 0 [some (zR 108), some (zI t), none, none, some (zI (i' : Int)), some (zI (M : Int)), some (zI x6), some (zI x7), some (zI x8), some (zI (x9 + 1)), none, none] [] zSHc h' (fun v sh' h' => sh' = zSHc ∧ K v h') := by
            by_cases c : j = i'
            · rw [if_pos (by omega)] at hk2
              exact sg_307_40 (fun _ => ⟨rfl, by rw [hk2]; exact kk⟩) (fun a => by omega) (fun a => by omega) (fun a => by omega)
            · rw [if_neg (by omega)] at hk2
              exact sg_307_40 (fun a => by omega) (fun a => by omega) (fun a => by omega) (fun _ => ih d p2 (j + 1) x6 x7 x8 (x9 + 1) (by omega) hd hp2 e6 e7 (by omega) (by omega) (by omega) (by rw [← hk2]; congr 1))
          clear ih kk D D2 g1 g2 rdl h2 hk hk2
          apply sg_307_59 F' <;> intros <;> (try omega)
          all_goals exact nx
        rw [zwk_s] at hk
        by_cases cA : 0 < p ∧ zdc e n q' m d (p - 1) < zdc e n q' m d p
        · rw [if_pos cA] at hk
          have nx := told (p - 1) (x7 - 1) (((10 * x6) + x7) - 1) (by omega) (by omega) (by omega) (by rw [← hk, e6, e7])
          have g1 := g1 cA.1
          clear ih kk D D2 g2 rdl h2 hk told
          apply sg_307_59 F' <;> intros <;> (try omega)
          all_goals exact nx
        · rw [if_neg cA] at hk
          by_cases cB : p + 1 < n ∧ zdc e n q' m d (p + 1) < zdc e n q' m d p
          · rw [if_pos cB] at hk
            have nx := told (p + 1) (x7 + 1) ((10 * x6) + x7) (by omega) (by omega) (by omega) (by rw [← hk, e6, e7])
            have g2 := g2 cB.1
            clear ih kk D D2 rdl h2 hk told
            apply sg_307_59 F' <;> intros <;> (try omega)
            all_goals exact nx
          · rw [if_neg cB] at hk
            obtain ⟨z1, z2⟩ := zdc_none hp (show q' < n by omega) cA cB
            obtain ⟨d', hd'⟩ : ∃ d', d = d' + 1 := ⟨d - 1, by
              by_cases c : d = 0
              · have := z1 c; omega
              · omega⟩
            have z2 := z2 d' hd'
            subst hd'
            have em : m - 1 - d' = m - (d' + 1) := by omega
            rw [em] at z2
            have hle := h2 (m - (d' + 1)) (by omega)
            have hb := zbsd_lt hle hp
            have r1 : h' 112 (((200 * t) + x6).toNat) = ((e (m - (d' + 1))).2.1 : Int) := rdl _ (by omega) _ (by omega)
            have r2 : zbeside x7 (h' 112 (((200 * t) + x6).toNat)) = (zbsd (e (m - (d' + 1))).2.1 p : Int) := by rw [r1, e7]; exact zbeside_n _ _
            have nx := ih d' (zbsd (e (m - (d' + 1))).2.1 p) j (x6 + 1) (zbeside x7 (h' 112 (((200 * t) + x6).toNat))) x8 x9 (by omega) (by omega) hb (by omega) r2 e9 hj (by omega) (by rw [← hk]; rfl)
            clear ih kk D D2 rdl h2 hk told
            apply sg_307_59 F' <;> intros <;> (try omega)
            all_goals exact nx
    exact sg_307_40 (fun a => by omega) (fun a => by omega) (fun a => by omega) (fun _ => walk (M + m) m v' 0 0 _ _ 0 (by omega) (Nat.le_refl _) (by omega) (by omega) rfl rfl (by omega) (by omega) rfl)
end
