/-! RUNGS DRAWN IN FOR A WHOLE ORDER: THE CLASS -/
section
variable {X : List Int} {h : zHP} {K : Option zAV → zHP → Prop}
theorem cx_86x {n o k : Nat} (F : zFin h) (T : zOT h) (hn : 2 ≤ n) (hr : (n : Int) ≤ h 1 1) (hk : k + 2 ≤ n) (ho : o < zfac n) (q : K (some (zI (zx n k o : Int))) h) : zC X 86 [zR 1, zI n, zI o, zI k] h K := cx_86 F T hn hr hk ho q
/-- changePlaces -/
theorem cx_103 {n l : Nat} {x y z : Int} {R : Nat → Nat} (F : zFin h) (T : zOT h) (hn : 2 ≤ n ∧ n ≤ 5) (hr : (n : Int) ≤ h 1 1) (hl : l + 2 ≤ n) (hx : x = (n : Int)) (hy : y = (zfac n : Int)) (hz : z = (l : Int)) (H : ∀ o, o < zfac n → h 33 o = (R o : Int)) (k : ∀ h', zFin h' → zfr [33] h h' → (∀ o, o < zfac n → h' 33 o = (R (zx n l o) : Int)) → K none h') : zC X 103 [zR 28, zI x, zI y, zI z] h K := by
  have h5 := zfac5 hn.2
  have loop : ∀ (r a : Nat) (h1 : zHP) (x4 : Int), zfac n - a = r → a ≤ zfac n → x4 = (a : Int) → zFin h1 → zfr [33] h h1 → (∀ o, o < zfac n → h1 33 o = if min o (zx n l o) < a then (R (zx n l o) : Int) else (R o : Int)) → zAt X 103 3 0 0 [some (zR 28), some (zI x), some (zI y), some (zI z), some (zI x4), none, none] [] zSHc h1 (fun v sh' h' => sh' = zSHc ∧ K v h') := by
    intro r
    induction r with
    | zero =>
      intro a h1 x4 hr2 ha h4 F1 fr D
      have ea : a = zfac n := by omega
      refine sg_103_3 F1 (fun _ => ⟨rfl, k h1 F1 fr fun o ho => ?_⟩) (fun b => by omega)
      rw [D o ho, if_pos (by omega)]
    | succ r ih =>
      intro a h1 x4 hr2 ha h4 F1 fr D
      have ha' : a < zfac n := by omega
      have T1 : zOT h1 := T.fr (fr 1 (by decide)) (fr 2 (by decide))
      have hxl := zx_lt ha' hl
      have hxx := zx_x ha' hl
      refine sg_103_3 F1 (fun b => by omega) (fun _ => ?_)
      rw [hx, h4, hz]
      refine cx_86x F1 T1 hn.1 (by rw [fr 1 (by decide)]; exact hr) hl ha' ?_
      have ne : zx n l a ≠ a := fun q => by
        have s1 := (zinvs_x ha' hl)
        rw [q] at s1
        by_cases c : zr n a (l + 1) < zr n a l
        · have := s1.1 c; omega
        · by_cases c2 : zr n a l < zr n a (l + 1)
          · have := s1.2 c2; omega
          · have := zr_inj ha' (show l < n by omega) (show l + 1 < n by omega) (by omega)
            omega
      have stay : ∀ o, o < zfac n → zx n l a < a → ((min o (zx n l o) < a + 1) ↔ (min o (zx n l o) < a)) := fun o ho c => by
        constructor
        · intro q
          by_cases c1 : o = a
          · rw [c1]; omega
          · by_cases c2 : zx n l o = a
            · have := zx_x ho hl
              rw [c2] at this
              omega
            · omega
        · intro q; omega
      refine sg_103_20c F1 (fun _ => by omega) (fun c => ?_) (fun _ _ => by omega) (fun _ c => by omega) (fun _ _ => by omega) (fun _ _ => by omega) (fun _ _ => by omega) (fun c _ => ?_)
      · rw [← hx, ← hz]
        refine ih (a + 1) h1 _ (by omega) (by omega) (by omega) F1 fr fun o ho => ?_
        rw [D o ho]
        by_cases c1 : min o (zx n l o) < a
        · rw [if_pos c1, if_pos (by omega)]
        · rw [if_neg c1, if_neg (fun q => c1 ((stay o ho (by omega)).mp q))]
      · rw [← hx, ← hz]
        have d1 := D a ha'
        have d2 := D (zx n l a) hxl
        rw [hxx] at d2
        rw [if_neg (by omega)] at d1
        rw [if_neg (by omega)] at d2
        rw [show ((a : Int)).toNat = a by omega, show (((zx n l a : Nat) : Int)).toNat = zx n l a by omega, d1, d2]
        refine ih (a + 1) _ _ (by omega) (by omega) (by omega) ((F1.upA zfa_33).upA zfa_33) ((fr.up (by simp)).up (by simp)) fun o ho => ?_
        by_cases c1 : o = zx n l a
        · rw [c1, zup_eq, hxx, if_pos (by omega)]
        · rw [zup_k c1]
          by_cases c2 : o = a
          · rw [c2, zup_eq, if_pos (by omega)]
          · rw [zup_k c2, D o ho]
            by_cases c3 : zx n l o = a
            · have := zx_x ho hl
              rw [c3] at this
              exact absurd this.symm c1
            · by_cases c4 : min o (zx n l o) < a
              · rw [if_pos c4, if_pos (by omega)]
              · rw [if_neg c4, if_neg (by omega)]
  exact sg_103_0 (loop (zfac n) 0 h 0 (by omega) (by omega) rfl F zfr.rfl fun o ho => by rw [H o ho, if_neg (by omega)])
/-- what holds while drawsIn goes on -/
def zDI (n : Nat) (R : Nat → Nat) (a b : Nat) (w : Int) (C : Nat → Nat) : Prop :=
  (∀ o, o < zfac n → C o ≤ R o) ∧ (∀ o k, o < zfac n → k + 2 ≤ n → (o < a ∨ (o = a ∧ k < b)) → C o ≤ R (zx n k o) + 1) ∧ (∀ g, zlz n g → (∀ o, o < zfac n → g o ≤ R o) → ∀ o, o < zfac n → g o ≤ C o) ∧ (∀ f, zatt n f R → zatt n f C) ∧ ((w = 0 ∧ ∀ o, o < zfac n → C o = R o) ∨ (w = 1 ∧ ∃ o, o < zfac n ∧ C o < R o))
theorem zDI.skip {n a b : Nat} {R C : Nat → Nat} {w : Int} (I : zDI n R a b w C) (ha : a < zfac n) (hb : b + 2 ≤ n) (c : C a ≤ C (zx n b a) + 1) : zDI n R a (b + 1) w C := by
  obtain ⟨i1, i2, i3, i4, i5⟩ := I
  refine ⟨i1, fun o k ho hk hc => ?_, i3, i4, i5⟩
  by_cases c1 : o = a ∧ k = b
  · rw [c1.1, c1.2]
    have := i1 _ (zx_lt ha hb)
    omega
  · exact i2 o k ho hk (by omega)
theorem zDI.take {n a b : Nat} {R C : Nat → Nat} {w : Int} (I : zDI n R a b w C) (ha : a < zfac n) (hb : b + 2 ≤ n) (c : C (zx n b a) + 1 < C a) : zDI n R a (b + 1) 1 (fun o => if o = a then C (zx n b a) + 1 else C o) := by
  obtain ⟨i1, i2, i3, i4, i5⟩ := I
  have hx := zx_lt ha hb
  have le : ∀ o, (fun o => if o = a then C (zx n b a) + 1 else C o) o ≤ C o := fun o => by
    show (if o = a then C (zx n b a) + 1 else C o) ≤ C o
    by_cases c1 : o = a
    · rw [if_pos c1, c1]; omega
    · rw [if_neg c1]; exact Nat.le_refl _
  refine ⟨fun o ho => Nat.le_trans (le o) (i1 o ho), fun o k ho hk hc => ?_, fun g hg hR o ho => ?_, fun f hf o ho => ?_, Or.inr ⟨rfl, a, ha, ?_⟩⟩
  · by_cases c1 : o = a ∧ k = b
    · rw [c1.1, c1.2]
      show (if a = a then C (zx n b a) + 1 else C a) ≤ _
      rw [if_pos rfl]
      have := i1 _ hx
      omega
    · exact Nat.le_trans (le o) (i2 o k ho hk (by omega))
  · show g o ≤ if o = a then C (zx n b a) + 1 else C o
    by_cases c1 : o = a
    · rw [if_pos c1, c1]
      have a1 := hg a b ha hb
      have a2 := i3 g hg hR _ hx
      omega
    · rw [if_neg c1]; exact i3 g hg hR o ho
  · by_cases c1 : o = a
    · obtain ⟨o', l, z1, z2, z3⟩ := i4 f hf _ hx
      refine ⟨o', l + 1, z1, ⟨b, hb, by rw [c1]; exact z2⟩, ?_⟩
      show (if o = a then C (zx n b a) + 1 else C o) = _
      rw [if_pos c1, z3]
      omega
    · obtain ⟨o', l, z1, z2, z3⟩ := i4 f hf o ho
      refine ⟨o', l, z1, z2, ?_⟩
      show (if o = a then C (zx n b a) + 1 else C o) = _
      rw [if_neg c1, z3]
  · show (if a = a then C (zx n b a) + 1 else C a) < R a
    rw [if_pos rfl]
    have := i1 a ha
    omega
/-- drawsIn -/
theorem cx_104 {n : Nat} {x y : Int} {R : Nat → Nat} (F : zFin h) (T : zOT h) (hn : 2 ≤ n ∧ n ≤ 5) (hr : (n : Int) ≤ h 1 1) (hx : x = (n : Int)) (hy : y = (zfac n : Int)) (H : ∀ o, o < zfac n → h 33 o = (R o : Int)) (hR : ∀ o, o < zfac n → R o ≤ 1000) (k : ∀ h' w C, zFin h' → zfr [33] h h' → (∀ o, o < zfac n → h' 33 o = (C o : Int)) → zDI n R (zfac n) 0 w C → K (some (zI w)) h') : zC X 104 [zR 28, zI x, zI y] h K := by
  have h5 := zfac5 hn.2
  have outer : ∀ (r a : Nat) (h1 : zHP) (x3 x4 : Int) (C : Nat → Nat), zfac n - a = r → a ≤ zfac n → x4 = (a : Int) → zFin h1 → zfr [33] h h1 → (∀ o, o < zfac n → h1 33 o = (C o : Int)) → zDI n R a 0 x3 C → zAt X 104 5 0 0 [some (zR 28), some (zI x), some (zI y), some (zI x3), some (zI x4), none, none] [] zSHc h1 (fun v sh' h' => sh' = zSHc ∧ K v h') := by
    intro r
    induction r with
    | zero =>
      intro a h1 x3 x4 C hr2 ha h4 F1 fr D I
      have ea : a = zfac n := by omega
      rw [ea] at I
      refine sg_104_5 (fun _ => ⟨rfl, k h1 x3 C F1 fr D I⟩) (fun _ => ?_) (fun b => by omega)
      rcases I.2.2.2.2 with z | z
      · exact Or.inl z.1
      · exact Or.inr z.1
    | succ r ih =>
      intro a h1 x3 x4 C hr2 ha h4 F1 fr D I
      have ha' : a < zfac n := by omega
      have inner : ∀ (r2 b : Nat) (h1 : zHP) (x3 x5 : Int) (C : Nat → Nat), n - 1 - b = r2 → b ≤ n - 1 → x5 = (b : Int) → zFin h1 → zfr [33] h h1 → (∀ o, o < zfac n → h1 33 o = (C o : Int)) → zDI n R a b x3 C → zAt X 104 14 0 0 [some (zR 28), some (zI x), some (zI y), some (zI x3), some (zI x4), some (zI x5), none] [] zSHc h1 (fun v sh' h' => sh' = zSHc ∧ K v h') := by
        intro r2
        induction r2 with
        | zero =>
          intro b h1 x3 x5 C hr3 hb h5' F1 fr D I
          refine sg_104_14 F1 (by omega) (fun _ => by omega) (fun _ => ih (a + 1) h1 x3 _ C (by omega) (by omega) (by omega) F1 fr D ?_) (fun c => by omega)
          obtain ⟨i1, i2, i3, i4, i5⟩ := I
          exact ⟨i1, fun o k ho hk hc => i2 o k ho hk (by omega), i3, i4, i5⟩
        | succ r2 ih2 =>
          intro b h1 x3 x5 C hr3 hb h5' F1 fr D I
          have hb' : b + 2 ≤ n := by omega
          have T1 : zOT h1 := T.fr (fr 1 (by decide)) (fr 2 (by decide))
          have hxl := zx_lt ha' hb'
          refine sg_104_14 F1 (by omega) (fun c => by omega) (fun c => by omega) (fun _ => ?_)
          have e1 := D a ha'
          have e2 := D (zx n b a) hxl
          have b1 := I.1 a ha'
          have b2 := hR a ha'
          have b3 := I.1 _ hxl
          have b4 := hR _ hxl
          have m1 : zC X 86 [zR 1, zI x, zI x4, zI x5] h1 (fun v h9 => zAt X 104 34 0 0 [some (zR 28), some (zI x), some (zI y), some (zI x3), some (zI x4), some (zI x5), none] (zpush v []) zSHc h9 (fun v sh' h' => sh' = zSHc ∧ K v h')) := by
            rw [hx, h4, h5']
            refine cx_86x F1 T1 hn.1 (by rw [fr 1 (by decide)]; exact hr) hb' ha' ?_
            rw [← hx, ← h4, ← h5']
            have e1 : h1 33 x4.toNat = (C a : Int) := by rw [show x4.toNat = a by omega]; exact e1
            have e2 : h1 33 (((zx n b a : Nat) : Int)).toNat = (C (zx n b a) : Int) := by rw [show (((zx n b a : Nat) : Int)).toNat = zx n b a by omega]; exact e2
            refine sg_104_34c F1 (fun c => by omega) (fun c => by omega) (fun _ c => by omega) (fun _ c => by omega) (fun _ _ => by omega) (fun _ _ => by omega) (fun _ _ => by omega) (fun _ _ _ => by omega) (fun _ _ c => ?_) (fun _ _ _ => by omega) (fun _ _ c => ?_)
            · exact ih2 (b + 1) h1 x3 _ C (by omega) (by omega) (by omega) F1 fr D (I.skip ha' hb' (by omega))
            · rw [e2, show x4.toNat = a by omega]
              refine ih2 (b + 1) _ 1 _ (fun o => if o = a then C (zx n b a) + 1 else C o) (by omega) (by omega) (by omega) (F1.upA zfa_33) (fr.up (by simp)) (fun o ho => ?_) (I.take ha' hb' (by omega))
              show _ = (((if o = a then C (zx n b a) + 1 else C o) : Nat) : Int)
              by_cases c1 : o = a
              · rw [c1, zup_eq, if_pos rfl]; omega
              · rw [zup_k c1, if_neg c1]; exact D o ho
          exact m1
      exact sg_104_5 (fun c => by omega) (fun c => by omega) (fun _ => inner (n - 1) 0 h1 x3 0 C (by omega) (by omega) rfl F1 fr D I)
  exact sg_104_0 (outer (zfac n) 0 h 0 0 R (by omega) (by omega) rfl F zfr.rfl H ⟨fun o ho => Nat.le_refl _, fun o k ho hk hc => by omega, fun g hg hR o ho => hR o ho, fun f hf => hf, Or.inl ⟨rfl, fun o ho => rfl⟩⟩)
def zopq (p : Prop) : Prop := p
/-- reachAll -/
theorem cx_102 {w n m : Nat} {e : zel} (F : zFin h) (T : zOT h) (hw : zLad w) (L : zLC h w n m e) (hl : zlok n m e) (hr : (n : Int) ≤ h 1 1) (h5 : n ≤ 5) (k : ∀ h' R, zFin h' → zfr [33] h h' → (∀ o, o < zfac n → h' 33 o = (R o : Int)) → zDA n e m R → K none h') : zC X 102 [zR 28, zR w] h K := by
  have hn := hl.1
  have hm := hl.2.1
  have hf := zfac5 h5
  have hf1 := zfac_pos n
  have w33 : w ≠ 33 ∧ w + 1 ≠ 33 := by unfold zLad at hw; omega
  have keep : ∀ h1, zfr [33] h h1 → zLC h1 w n m e ∧ zOT h1 ∧ (n : Int) ≤ h1 1 1 := fun h1 fr => by
    refine ⟨?_, T.fr (fr 1 (by decide)) (fr 2 (by decide)), by rw [fr 1 (by decide)]; exact hr⟩
    unfold zLC
    rw [fr w (by simp; omega), fr (w + 1) (by simp; omega)]
    exact L
  have hll : ∀ j, j < m → (e j).2.1 + 2 ≤ n := fun j hj => (hl.2.2.2 j hj).2.1
  have rungs : ∀ (r i : Nat) (h1 : zHP) (x4 : Int) (R : Nat → Nat), m - i = r → i ≤ m → x4 = (i : Int) → zFin h1 → zfr [33] h h1 → (∀ o, o < zfac n → h1 33 o = (R o : Int)) → zDA n e i R → zAt X 102 57 0 0 [some (zR 28), some (zR w), some (zI (n : Int)), some (zI (zfac n : Int)), some (zI x4), none, none] [] zSHc h1 (fun v sh' h' => sh' = zSHc ∧ K v h') := by
    intro r
    induction r with
    | zero =>
      intro i h1 x4 R hr2 hi h4 F1 fr D A
      have ei : i = m := by omega
      rw [ei] at A
      have e3 := (keep h1 fr).1.2.1
      exact sg_102_57 F1 hw (fun _ => ⟨rfl, k h1 R F1 fr D A⟩) (fun c => by omega)
    | succ r ih =>
      intro i h1 x4 R hr2 hi h4 F1 fr D A
      have hi' : i < m := by omega
      obtain ⟨L1, T1, hr1⟩ := keep h1 fr
      have e3 := L1.2.1
      have lg := L1.lg hl hi'
      rw [← h4] at lg
      refine sg_102_57 F1 hw (fun c => by omega) (fun _ => ?_)
      refine cx_103 F1 T1 ⟨hn.1, h5⟩ hr1 (hll i hi') rfl rfl lg D fun h2 F2 fr2 D2 => sg_102_78c ?_
      have FR2 := fr.trans fr2
      have le21 := zDA_le hn.2 i R (fun j hj => hll j (by omega)) A
      -- rounds
      have rounds : ∀ (q r2 : Nat) (h3 : zHP) (x5 x6 : Int) (C : Nat → Nat), 11 - r2 = q → r2 ≤ 11 → x6 = (r2 : Int) → zFin h3 → zfr [33] h h3 → (∀ o, o < zfac n → h3 33 o = (C o : Int)) → (∀ o, o < zfac n → C o ≤ R (zx n (e i).2.1 o)) → (∀ g, zlz n g → (∀ o, o < zfac n → g o ≤ R (zx n (e i).2.1 o)) → ∀ o, o < zfac n → g o ≤ C o) → zatt n (fun o => R (zx n (e i).2.1 o)) C → (∀ l o o', l ≤ r2 → o < zfac n → o' < zfac n → zpt n l o o' → C o ≤ R (zx n (e i).2.1 o') + l) → (x5 = 0 → zlz n C) → (x5 ≠ 0 → r2 ≤ 10) → zAt X 102 84 0 0 [some (zR 28), some (zR w), some (zI (n : Int)), some (zI (zfac n : Int)), some (zI x4), some (zI x5), some (zI x6)] [] zSHc h3 (fun v sh' h' => sh' = zSHc ∧ K v h') := by
        intro q
        induction q with
        | zero =>
          intro r2 h3 x5 x6 C hq hr2' h6 F3 fr3 D3 c1 c2 c3 c4 c5 c6
          refine sg_102_84 (fun _ => by omega) (fun z => ih (i + 1) h3 _ C (by omega) (by omega) (by omega) F3 fr3 D3 ⟨R, A, c5 z, c1, c2⟩) (fun z => by have := c6 z; omega) (fun z => by have := c6 z; omega) (fun z => by have := c6 z; omega)
        | succ q ih2 =>
          intro r2 h3 x5 x6 C hq hr2' h6 F3 fr3 D3 c1 c2 c3 c4 c5 c6
          refine sg_102_84 (fun _ => by omega) (fun z => ih (i + 1) h3 _ C (by omega) (by omega) (by omega) F3 fr3 D3 ⟨R, A, c5 z, c1, c2⟩) (fun _ z => by omega) (fun _ z => by omega) (fun _ _ => ?_)
          obtain ⟨L3, T3, hr3⟩ := keep h3 fr3
          refine cx_104 F3 T3 ⟨hn.1, h5⟩ hr3 rfl rfl D3 (fun o ho => by
            have a1 := c1 o ho
            have a2 := le21 _ (zx_lt ho (hll i hi'))
            omega) fun h4' w' C' F4 fr4 D4 I => sg_102_102c (by omega) ?_
          have j5 : zopq ((w' = 0 ∧ ∀ o, o < zfac n → C' o = C o) ∨ (w' = 1 ∧ ∃ o, o < zfac n ∧ C' o < C o)) := I.2.2.2.2
          obtain ⟨i1, i2, i3, i4, -⟩ := I
          have att := i4 _ c3
          refine ih2 (r2 + 1) h4' w' _ C' (by omega) (by omega) (by omega) F4 (fr3.trans fr4) D4 (fun o ho => Nat.le_trans (i1 o ho) (c1 o ho)) (fun g hg hR => i3 g hg (c2 g hg hR)) att (fun l o o' hl2 ho ho' hp => ?_) (fun z => ?_) (fun z => ?_)
          · cases l with
            | zero =>
              have := c4 0 o o' (by omega) ho ho' hp
              exact Nat.le_trans (i1 o ho) this
            | succ l =>
              obtain ⟨kk, hk, hp⟩ := hp
              have a1 := c4 l _ o' (by omega) (zx_lt ho hk) ho' hp
              have a2 := i2 o kk ho hk (Or.inl ho)
              omega
          · have i5 : (w' = 0 ∧ ∀ o, o < zfac n → C' o = C o) ∨ (w' = 1 ∧ ∃ o, o < zfac n ∧ C' o < C o) := j5
            rcases i5 with z2 | z2
            · intro o kk ho hk
              have a2 := i2 o kk ho hk (Or.inl ho)
              rw [z2.2 _ (zx_lt ho hk)]
              exact a2
            · exact absurd (z.symm.trans z2.1) (by decide)
          · have i5 : (w' = 0 ∧ ∀ o, o < zfac n → C' o = C o) ∨ (w' = 1 ∧ ∃ o, o < zfac n ∧ C' o < C o) := j5
            rcases i5 with z2 | z2
            · exact absurd z2.1 z
            · obtain ⟨-, o, ho, lt⟩ := z2
              by_cases c7 : r2 + 1 ≤ 10
              · exact c7
              · exfalso
                obtain ⟨o', l, g1, g2, g3⟩ := att o ho
                have g3 : C' o = R (zx n (e i).2.1 o') + l := g3
                obtain ⟨l1, s1, s2⟩ := zpt_all hn.2 (zinvs n o') o' o (Nat.le_refl _) g1 ho
                have n20 : n * (n - 1) ≤ 20 := by
                  have : n = 2 ∨ n = 3 ∨ n = 4 ∨ n = 5 := by omega
                  rcases this with z | z | z | z <;> subst z <;> decide
                by_cases c8 : l ≤ 10
                · have := c4 l o o' (by omega) ho g1 g2
                  omega
                · have := c4 l1 o o' (by omega) ho g1 s2
                  omega
      refine rounds 11 0 h2 1 0 _ (by omega) (by omega) rfl F2 FR2 D2 (fun o ho => Nat.le_refl _) (fun g hg hR => hR) (fun o ho => ⟨o, 0, ho, rfl, rfl⟩) (fun l o o' hl2 ho ho' hp => ?_) (fun z => absurd z (by decide)) (fun _ => by omega)
      have el : l = 0 := by omega
      subst el
      have hp : o = o' := hp
      rw [hp]
      exact Nat.le_refl _
  have ini : ∀ (r a : Nat) (h1 : zHP) (x4 : Int), zfac n - a = r → a ≤ zfac n → x4 = (a : Int) → zFin h1 → zfr [33] h h1 → (∀ o, o < a → h1 33 o = (zinvs n o : Int)) → zAt X 102 25 0 0 [some (zR 28), some (zR w), some (zI (n : Int)), some (zI (zfac n : Int)), some (zI x4), none, none] [] zSHc h1 (fun v sh' h' => sh' = zSHc ∧ K v h') := by
    intro r
    induction r with
    | zero =>
      intro a h1 x4 hr2 ha h4 F1 fr D
      exact sg_102_25 F1 (fun _ => rungs m 0 h1 0 (zinvs n) (by omega) (by omega) rfl F1 fr (fun o ho => D o (by omega)) (fun o ho => rfl)) (fun c => by omega)
    | succ r ih =>
      intro a h1 x4 hr2 ha h4 F1 fr D
      refine sg_102_25 F1 (fun c => by omega) (fun _ => ?_)
      have go : zC X 81 [zR 1, zI (n : Int), zI x4] h1 (fun v h9 => zAt X 102 47 0 0 [some (zR 28), some (zR w), some (zI (n : Int)), some (zI (zfac n : Int)), some (zI x4), none, none] (zpush v [zI x4, zR 33]) zSHc h9 (fun v sh' h' => sh' = zSHc ∧ K v h')) := by
        rw [h4]
        refine cx_81 hn.2 (by omega) ?_
        rw [← h4]
        refine sg_102_47c (by omega) (by omega) ?_
        rw [show x4.toNat = a by omega]
        refine ih (a + 1) _ _ (by omega) (by omega) (by omega) (F1.upA zfa_33) (fr.up (by simp)) fun o ho => ?_
        by_cases c1 : o = a
        · rw [c1, zup_eq]
        · rw [zup_k c1]; exact D o (by omega)
      exact go
  refine sg_102_0 F hw ?_
  have e1 : zHM (h w 2) = (zfac n : Int) := by
    unfold zHM
    rw [L.1, if_pos (by unfold zfits; omega), Int.toNat_natCast]
  rw [e1, L.1, show min (zfac n : Int) 120 = (zfac n : Int) by omega]
  exact ini (zfac n) 0 h 0 (by omega) (by omega) rfl F zfr.rfl fun o ho => by omega
end
