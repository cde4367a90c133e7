/-! RUNGS THAT UNDO ONE ANOTHER: THE CLASS -/
/-- which are left -/
def zLF (h : zHP) (m c : Nat) (f : Nat → Nat) : Prop := ∀ i, i < m → (h 29 i = 0 ∨ h 29 i = 1) ∧ (h 29 i = 1 ↔ ∃ q, q < c ∧ f q = i)
section
variable {X : List Int} {h : zHP} {K : Option zAV → zHP → Prop}
/-- takesTwoOut -/
theorem cx_93 {w n m c : Nat} {e : zel} {f : Nat → Nat} (F : zFin h) (hw : zLad w) (L : zLC h w n m e) (hl : zlok n m e) (I : zinc m c f) (B : zLF h m c f) (k1 : ∀ j k, zcol e f c j k → ∀ h', zFin h' → zfr [29, 30, 31] h h' → zLF h' m (c - 2) (fun i => f (zskp k j i)) → K (some (zI 1)) h') (k0 : (∀ j k, ¬ zcol e f c j k) → ∀ h', zFin h' → zfr [29, 30, 31] h h' → zLF h' m c f → K (some (zI 0)) h') : zC X 93 [zR 28, zR w] h K := by
  have hn := hl.1
  have hm := hl.2.1
  have w32 : w ≠ 29 ∧ w ≠ 30 ∧ w ≠ 31 ∧ w + 1 ≠ 29 ∧ w + 1 ≠ 30 ∧ w + 1 ≠ 31 := by unfold zLad at hw; omega
  have h2 : ∀ i, i < m → (e i).2.1 + 2 ≤ n := fun i hi => (hl.2.2.2 i hi).2.1
  have hdif : ∀ a b, a < c → b < c → f a = f b → a = b := fun a b ha hb hab => by
    by_cases c1 : a < b
    · have := I.2 a b c1 hb; omega
    · by_cases c2 : b < a
      · have := I.2 b a c2 ha; omega
      · omega
  have walk : ∀ (r i j : Nat) (h1 : zHP) (x2 : Int), m - i = r → i ≤ m → x2 = (i : Int) → j ≤ c → (∀ k, k < j → f k < i) → (∀ k, j ≤ k → k < c → i ≤ f k) → zFin h1 → zfr [30, 31] h h1 → (∀ a, a < 8 → h1 30 a = (zhwo e f j a : Int)) → (∀ a b, a < b → b < j → ¬ zsp e f b a) → (∀ x y, x < 8 → y < 8 → (h1 31 (8 * x + y) = -1 ∧ ∀ k, k < j → ¬ (zpx e f k = x ∧ zpy e f k = y)) ∨ ∃ k, k < j ∧ zpx e f k = x ∧ zpy e f k = y ∧ h1 31 (8 * x + y) = (f k : Int)) → zAt X 93 31 0 0 [some (zR 28), some (zR w), some (zI x2), none, none, none, none] [] zSHc h1 (fun v sh' h' => sh' = zSHc ∧ K v h') := by
    intro r
    induction r with
    | zero =>
      intro i j h1 x2 hr hi hx hj Lo Hi F1 fr R D M
      have ei : i = m := by omega
      have ej : j = c := by
        by_cases z : j < c
        · have a1 := Hi j (Nat.le_refl _) z
          have a2 := I.1 j z
          omega
        · omega
      have e3 : h1 w 3 = (m : Int) := by rw [fr w (by simp; omega)]; exact L.2.1
      have kk := k0 (fun j' k' hc => by
        have := D k' j' hc.2.1 (by have := hc.1; omega)
        exact this hc.2.2.1) h1 F1 (fr.mono (by simp)) (fun q hq => by rw [fr 29 (by decide)]; exact B q hq)
      exact sg_93_31 F1 hw (fun _ => ⟨rfl, kk⟩) (fun a => by omega) (fun a => by omega) (fun a => by omega) (fun a => by omega) (fun a => by omega) (fun a => by omega) (fun a => by omega) (fun a => by omega) (fun a => by omega) (fun a => by omega) (fun a => by omega) (fun a => by omega)
    | succ r ih =>
      intro i j h1 x2 hr hi hx hj Lo Hi F1 fr R D M
      have hi' : i < m := by omega
      have L1 : zLC h1 w n m e := by
        unfold zLC
        rw [fr w (by simp; omega), fr (w + 1) (by simp; omega)]
        exact L
      have e3 := L1.2.1
      have lg := L1.lg hl hi'
      rw [← hx] at lg
      have hle := h2 i hi'
      obtain ⟨b1, b2⟩ := B i hi'
      have e29 : h1 29 x2.toNat = h 29 i := by rw [fr 29 (by decide), show x2.toNat = i by omega]
      have b3 : ¬ h 29 i = 1 → ∀ k, k < c → f k ≠ i := fun cl k hk z => cl (b2.mpr ⟨k, hk, z⟩)
      by_cases cl : h 29 i = 1
      · obtain ⟨q, hq, eq⟩ := b2.mp cl
        clear b2 b3
        have ejq : q = j := by
          by_cases c1 : q < j
          · have := Lo q c1; omega
          · by_cases c2 : j < q
            · have a1 := I.2 j q c2 hq
              have a2 := Hi j (Nat.le_refl _) (by omega)
              omega
            · omega
        subst ejq
        have lf : ∀ k, k < c → (e (f k)).2.1 + 2 ≤ 7 := fun k hk => by have := h2 (f k) (I.1 k hk); omega
        have p1 := zhw_8 lf q (e i).2.1 (by omega) (by omega)
        have p2 := zhw_8 lf q ((e i).2.1 + 1) (by omega) (by omega)
        have r1 : h1 30 ((zLg h1 w x2).toNat) = (zhwo e f q (e i).2.1 : Int) := by rw [lg, Int.toNat_natCast]; exact R _ (by omega)
        have r2 : h1 30 (((zLg h1 w x2) + 1).toNat) = (zhwo e f q ((e i).2.1 + 1) : Int) := by rw [lg, show (((e i).2.1 : Nat) : Int) + 1 = (((e i).2.1 + 1 : Nat) : Int) by omega, Int.toNat_natCast]; exact R _ (by omega)
        have ex : zpx e f q = min (zhwo e f q (e i).2.1) (zhwo e f q ((e i).2.1 + 1)) := by unfold zpx; rw [eq]
        have ey : zpy e f q = max (zhwo e f q (e i).2.1) (zhwo e f q ((e i).2.1 + 1)) := by unfold zpy; rw [eq]
        have hx8 : zpx e f q < 8 := by omega
        have hy8 : zpy e f q < 8 := by omega
        have ep : (min (h1 30 ((zLg h1 w x2).toNat)) (h1 30 (((zLg h1 w x2) + 1).toNat))) * 8 + max (h1 30 ((zLg h1 w x2).toNat)) (h1 30 (((zLg h1 w x2) + 1).toNat)) = ((8 * zpx e f q + zpy e f q : Nat) : Int) := by rw [r1, r2]; omega
        have nx : zC X 94 [zR 28, zI (((min (h1 30 ((zLg h1 w x2).toNat)) (h1 30 (((zLg h1 w x2) + 1).toNat))) * 8) + (max (h1 30 ((zLg h1 w x2).toNat)) (h1 30 (((zLg h1 w x2) + 1).toNat)))), zI x2] h1 (fun v h9 => zAt X 93 119 0 0 [some (zR 28), some (zR w), some (zI x2), some (zI (zLg h1 w x2)), some (zI (h1 30 ((zLg h1 w x2).toNat))), some (zI (h1 30 (((zLg h1 w x2) + 1).toNat))), none] (zpush v []) zSHc h9 (fun v sh' h' => sh' = zSHc ∧ K v h')) := by
          rw [ep, r1, r2, lg]
          rcases M (zpx e f q) (zpy e f q) hx8 hy8 with ⟨m1, m2⟩ | ⟨k, hk, kx, ky, km⟩
          · refine sg_94_0 F1 (fun a => by omega) (fun _ a => by omega) (fun _ _ a => by omega) (fun _ _ _ _ => by omega) (fun _ _ _ _ _ => ⟨rfl, ?_⟩) (fun _ _ _ _ a => by rw [Int.toNat_natCast, m1] at a; omega) (fun _ _ _ _ a => by rw [Int.toNat_natCast, m1] at a; omega) (fun _ _ _ _ a => by rw [Int.toNat_natCast, m1] at a; omega) (fun _ _ _ _ a => by rw [Int.toNat_natCast, m1] at a; omega) (fun _ _ _ a => by omega)
            rw [Int.toNat_natCast]
            refine sg_93_119c (F1.upA zfa_31) (fun _ => by omega) (fun _ => by omega) (fun _ => by omega) (fun _ => by omega) (fun _ => ?_) (fun a => absurd rfl a)
            rw [Int.toNat_natCast, show (((e i).2.1 : Nat) : Int) + 1 = (((e i).2.1 + 1 : Nat) : Int) by omega, Int.toNat_natCast]
            refine ih (i + 1) (q + 1) _ _ (by omega) (by omega) (by omega) (by omega) (fun k hk => ?_) (fun k hk1 hk2 => ?_) (((F1.upA zfa_31).upA zfa_30).upA zfa_30) (((fr.up (by simp)).up (by simp)).up (by simp)) (fun a ha => ?_) (fun a b hab hb => ?_) (fun x y hxa hya => ?_)
            · by_cases c1 : k = q
              · rw [c1, eq]; omega
              · have := Lo k (by omega); omega
            · have := I.2 q k (by omega) hk2
              omega
            · show _ = (zhwo e f q (zbsd (e (f q)).2.1 a) : Int)
              rw [eq]
              unfold zbsd
              by_cases c1 : a = (e i).2.1 + 1
              · rw [c1, zup_eq, if_neg (by omega), if_pos rfl]
              · rw [zup_k c1]
                by_cases c2 : a = (e i).2.1
                · rw [c2, zup_eq, if_pos rfl]
                · rw [zup_k c2, zup_c (by decide), if_neg c2, if_neg c1]
                  exact R a ha
            · by_cases c1 : b = q
              · rw [c1]
                exact fun z => m2 a (by omega) ⟨z.1.symm, z.2.symm⟩
              · exact D a b hab (by omega)
            · rw [zup_c (by decide), zup_c (by decide)]
              by_cases c1 : 8 * x + y = 8 * zpx e f q + zpy e f q
              · have cx : x = zpx e f q := by omega
                have cy : y = zpy e f q := by omega
                refine Or.inr ⟨q, by omega, cx.symm, cy.symm, ?_⟩
                rw [c1, zup_eq, hx, eq]
              · rw [zup_k c1]
                rcases M x y hxa hya with ⟨n1, n2⟩ | ⟨k, hk, n1, n2, n3⟩
                · refine Or.inl ⟨n1, fun k hk z => ?_⟩
                  by_cases c2 : k = q
                  · rw [c2] at z; omega
                  · exact n2 k (by omega) z
                · exact Or.inr ⟨k, by omega, n1, n2, n3⟩
          · have col : zcol e f c q k := ⟨hq, hk, ⟨kx.symm, ky.symm⟩, D⟩
            have hfk := I.1 k (by omega)
            refine sg_94_0 F1 (fun a => by omega) (fun _ a => by omega) (fun _ _ a => by omega) (fun _ _ _ _ => by omega) (fun _ _ _ _ a => by rw [Int.toNat_natCast, km] at a; omega) (fun _ _ _ _ _ _ => by rw [Int.toNat_natCast, km]; omega) (fun _ _ _ _ _ _ => by omega) (fun _ _ _ _ _ _ => ⟨rfl, ?_⟩) (fun _ _ _ _ _ a => by rw [Int.toNat_natCast, km] at a; omega) (fun _ _ _ a => by omega)
            rw [Int.toNat_natCast, km, Int.toNat_natCast, show x2.toNat = i by omega]
            refine sg_93_119c (((F1.upA zfa_31).upA zfa_29).upA zfa_29) (fun z => absurd z (by decide)) (fun z => absurd z (by decide)) (fun z => absurd z (by decide)) (fun z => absurd z (by decide)) (fun z => absurd z (by decide)) (fun _ => ⟨rfl, ?_⟩)
            refine k1 q k col _ (((F1.upA zfa_31).upA zfa_29).upA zfa_29) ((((fr.mono (by simp)).up (by simp)).up (by simp)).up (by simp)) (fun p hp => ?_)
            have mem := zskp_mem hq hk p hdif
            obtain ⟨c1, c2⟩ := B p hp
            by_cases d1 : p = i
            · rw [d1, zup_eq]
              rw [d1] at mem
              exact ⟨Or.inl rfl, fun z => absurd z (by decide), fun z => absurd eq.symm (mem.mp z).2.1⟩
            · rw [zup_k d1]
              by_cases d2 : p = f k
              · rw [d2, zup_eq]
                rw [d2] at mem
                exact ⟨Or.inl rfl, fun z => absurd z (by decide), fun z => absurd rfl (mem.mp z).2.2⟩
              · rw [zup_k d2, zup_c (by decide), fr 29 (by decide)]
                refine ⟨c1, c2.trans ⟨fun z => mem.mpr ⟨z, ?_, d2⟩, fun z => (mem.mp z).1⟩⟩
                rw [eq]; exact d1
        exact sg_93_31 F1 hw (fun a => by omega) (fun _ a => by omega) (fun _ _ => by omega) (fun _ _ _ => by omega) (fun _ _ a => by omega) (fun _ _ _ => by omega) (fun _ _ _ _ => by omega) (fun _ _ _ a => by omega) (fun _ _ _ _ => by omega) (fun _ _ _ _ => by omega) (fun _ _ _ _ => by rw [r1, r2]; omega) (fun _ _ _ _ => by rw [r1, r2]; omega) (fun _ _ _ _ => nx)
      · clear b2
        have b3 := b3 cl
        have z0 : h1 29 x2.toNat = 0 := by rw [e29]; exact b1.resolve_right cl
        have nx := ih (i + 1) j h1 (x2 + 1) (by omega) (by omega) (by omega) hj (fun k hk => by have := Lo k hk; omega) (fun k hk1 hk2 => by
          have a1 := Hi k hk1 hk2
          by_cases c1 : f k = i
          · exact absurd c1 (b3 k hk2)
          · omega) F1 fr R D M
        exact sg_93_31 F1 hw (fun a => by omega) (fun _ a => by omega) (fun _ _ => by omega) (fun _ _ _ => by omega) (fun _ _ _ => nx) (fun _ _ a => absurd z0 a) (fun _ _ a => absurd z0 a) (fun _ _ a => absurd z0 a) (fun _ _ a => absurd z0 a) (fun _ _ a => absurd z0 a) (fun _ _ a => absurd z0 a) (fun _ _ a => absurd z0 a) (fun _ _ a => absurd z0 a)
  have rows : ∀ (r a : Nat) (h1 : zHP) (x2 : Int), 8 - a = r → a ≤ 8 → x2 = (a : Int) → zFin h1 → zfr [30, 31] h h1 → (∀ b, b < a → h1 30 b = (b : Int)) → (∀ b, b < 64 → h1 31 b = -1) → zAt X 93 10 0 0 [some (zR 28), some (zR w), some (zI x2), none, none, none, none] [] zSHc h1 (fun v sh' h' => sh' = zSHc ∧ K v h') := by
    intro r
    induction r with
    | zero =>
      intro a h1 x2 hr ha hx F1 fr R M
      refine sg_93_10 F1 (fun _ => walk m 0 0 h1 0 rfl (by omega) rfl (by omega) (fun k hk => by omega) (fun k _ _ => Nat.zero_le _) F1 fr (fun b hb => R b (by omega)) (fun a b _ hb => by omega) (fun x y hx hy => Or.inl ⟨M _ (by omega), fun k hk => by omega⟩)) (fun b => by omega) (fun b => by omega) (fun b => by omega)
    | succ r ih =>
      intro a h1 x2 hr ha hx F1 fr R M
      refine sg_93_10 F1 (fun b => by omega) (fun _ => by omega) (fun _ => by omega) (fun _ => ?_)
      rw [show x2.toNat = a by omega]
      refine ih (a + 1) _ _ (by omega) (by omega) (by omega) (F1.upA zfa_30) (fr.up (by simp)) (fun b hb => ?_) (fun b hb => by rw [zup_c (by decide)]; exact M b hb)
      by_cases c1 : b = a
      · rw [c1, zup_eq]; exact hx
      · rw [zup_k c1]; exact R b (by omega)
  refine sg_93_0 F (zp_fillI (n := 64) (by decide) rfl (by decide) (sg_93_8c (rows 8 0 _ 0 rfl (by omega) rfl (F.fill zfa_31) ((zfr.rfl).fill (by simp)) (fun b hb => by omega) (fun b hb => zfill_eq hb))))
/-- clearedSize -/
theorem cx_91 {w n m : Nat} {e : zel} (F : zFin h) (hw : zLad w) (L : zLC h w n m e) (hl : zlok n m e) (k : ∀ h' c f, zclrd e m (fun i => i) = (c, f) → zinc m c f → zFin h' → zfr [29, 30, 31] h h' → zLF h' m c f → K (some (zI (c : Int))) h') : zC X 91 [zR 28, zR w] h K := by
  have hm := hl.2.1
  have w32 : w ≠ 29 ∧ w ≠ 30 ∧ w ≠ 31 ∧ w + 1 ≠ 29 ∧ w + 1 ≠ 30 ∧ w + 1 ≠ 31 := by unfold zLad at hw; omega
  have loop : ∀ (b c : Nat) (f : Nat → Nat) (h1 : zHP) (x3 : Int), c ≤ b → x3 = (c : Int) → zclrd e m (fun i => i) = zclrd e c f → zinc m c f → zFin h1 → zfr [29, 30, 31] h h1 → zLF h1 m c f → zAt X 91 35 0 0 [some (zR 28), some (zR w), none, some (zI x3)] [] zSHc h1 (fun v sh' h' => sh' = zSHc ∧ K v h') := by
    intro b
    induction b with
    | zero =>
      intro c f h1 x3 hb hx E I F1 fr B
      have no : ∀ j k, ¬ zcol e f c j k := fun j k z => by have := z.1; omega
      rw [zclr_no no] at E
      exact sg_91_35 (fun _ => ⟨rfl, by rw [hx]; exact k h1 c f E I F1 fr B⟩) (fun a => by omega)
    | succ b ih =>
      intro c f h1 x3 hb hx E I F1 fr B
      refine sg_91_35 (fun a => ?_) (fun _ => ?_)
      · have no : ∀ j k, ¬ zcol e f c j k := fun j k z => by have := z.1; have := z.2.1; omega
        rw [zclr_no no] at E
        exact ⟨rfl, by rw [hx]; exact k h1 c f E I F1 fr B⟩
      · have L1 : zLC h1 w n m e := by
          unfold zLC
          rw [fr w (by simp; omega), fr (w + 1) (by simp; omega)]
          exact L
        have cm := zinc_le I
        refine cx_93 F1 hw L1 hl I B (fun j k' col h2 F2 fr2 B2 => ?_) (fun no h2 F2 fr2 B2 => ?_)
        · have c1 := col.1
          have c2 := col.2.1
          refine sg_91_45c (fun a => absurd a (by decide)) (fun _ => by omega) (fun _ => ?_)
          exact ih (c - 2) _ h2 _ (by omega) (by omega) (E.trans (zclr_yes col)) (zskp_inc I c1 c2) F2 (fr.trans fr2) B2
        · rw [zclr_no no] at E
          exact sg_91_45c (fun _ => ⟨rfl, by rw [hx]; exact k h2 c f E I F2 (fr.trans fr2) B2⟩) (fun a => absurd rfl a) (fun a => absurd rfl a)
  have ini : ∀ (r i : Nat) (h1 : zHP) (x3 : Int), m - i = r → i ≤ m → x3 = (i : Int) → zFin h1 → zfr [29, 30, 31] h h1 → (∀ q, q < i → h1 29 q = 1) → zAt X 91 15 0 0 [some (zR 28), some (zR w), some (zI (m : Int)), some (zI x3)] [] zSHc h1 (fun v sh' h' => sh' = zSHc ∧ K v h') := by
    intro r
    induction r with
    | zero =>
      intro i h1 x3 hr hi hx F1 fr O
      refine sg_91_15 F1 (fun _ => loop m m (fun i => i) h1 _ (Nat.le_refl _) rfl rfl ⟨fun q hq => hq, fun a b hab _ => hab⟩ F1 fr (fun q hq => ?_)) (fun a => by omega) (fun a => by omega) (fun a => by omega)
      have o := O q (by omega)
      exact ⟨Or.inr o, fun _ => ⟨q, hq, rfl⟩, fun _ => o⟩
    | succ r ih =>
      intro i h1 x3 hr hi hx F1 fr O
      refine sg_91_15 F1 (fun a => by omega) (fun _ => by omega) (fun _ => by omega) (fun _ => ?_)
      rw [show x3.toNat = i by omega]
      refine ih (i + 1) _ _ (by omega) (by omega) (by omega) (F1.upA zfa_29) (fr.up (by simp)) (fun q hq => ?_)
      by_cases c1 : q = i
      · rw [c1, zup_eq]
      · rw [zup_k c1]; exact O q (by omega)
  refine sg_91_0 F hw ?_
  rw [L.2.1, show min (m : Int) 200 = (m : Int) by omega]
  exact ini m 0 h 0 (by omega) (by omega) rfl F zfr.rfl (fun q hq => by omega)
/-- leftAt -/
theorem cx_92 {w n m : Nat} {e : zel} {y : Int} (F : zFin h) (hw : zLad w) (L : zLC h w n m e) (hl : zlok n m e) (k : ∀ h' c f, zclrd e m (fun i => i) = (c, f) → zFin h' → zfr [29, 30, 31] h h' → (0 ≤ y ∧ y < (c : Int) → K (some (zI (f y.toNat : Int))) h') ∧ (¬ (0 ≤ y ∧ y < (c : Int)) → K (some (zI (-1))) h')) : zC X 92 [zR 28, zR w, zI y] h K := by
  have hm := hl.2.1
  have w32 : w ≠ 29 ∧ w ≠ 30 ∧ w ≠ 31 := by unfold zLad at hw; omega
  refine sg_92_0 (cx_91 F hw L hl fun h' c f E I F' fr B => sg_92_5c ?_)
  obtain ⟨k1, k0⟩ := k h' c f E F' fr
  have cm := zinc_le I
  have e3 : h' w 3 = (m : Int) := by rw [fr w (by simp; omega)]; exact L.2.1
  have loop : ∀ (r i j : Nat) (x3 x4 : Int), m - i = r → i ≤ m → x4 = (i : Int) → x3 = (j : Int) → j ≤ c → (∀ k, k < j → f k < i ∧ (k : Int) ≠ y) → (∀ k, j ≤ k → k < c → i ≤ f k) → zAt X 92 11 0 0 [some (zR 28), some (zR w), some (zI y), some (zI x3), some (zI x4)] [] zSHc h' (fun v sh' h' => sh' = zSHc ∧ K v h') := by
    intro r
    induction r with
    | zero =>
      intro i j x3 x4 hr hi h4 h3 hj Lo Hi
      have ej : j = c := by
        by_cases z : j < c
        · have a1 := Hi j (Nat.le_refl _) z
          have a2 := I.1 j z
          omega
        · omega
      have kk := k0 (fun z => (Lo y.toNat (by omega)).2 (by omega))
      exact sg_92_11 F' hw (fun _ => ⟨rfl, kk⟩) (fun a => by omega) (fun a => by omega) (fun a => by omega) (fun a => by omega) (fun a => by omega) (fun a => by omega) (fun a => by omega) (fun a => by omega)
    | succ r ih =>
      intro i j x3 x4 hr hi h4 h3 hj Lo Hi
      have hi' : i < m := by omega
      obtain ⟨b1, b2⟩ := B i hi'
      have e4 : x4.toNat = i := by omega
      have b3 : ¬ h' 29 i = 1 → ∀ k, k < c → f k ≠ i := fun cl k hk z => cl (b2.mpr ⟨k, hk, z⟩)
      by_cases cl : h' 29 i = 1
      · obtain ⟨q, hq, eq⟩ := b2.mp cl
        clear b2 b3
        have ejq : q = j := by
          by_cases c1 : q < j
          · have := (Lo q c1).1; omega
          · by_cases c2 : j < q
            · have a1 := I.2 j q c2 hq
              have a2 := Hi j (Nat.le_refl _) (by omega)
              omega
            · omega
        subst ejq
        have ne : ¬ h' 29 x4.toNat = 0 := by rw [e4, cl]; decide
        refine sg_92_11 F' hw (fun a => by omega) (fun _ a => by omega) (fun _ _ => by omega) (fun _ _ a => absurd a ne) (fun _ _ a => absurd a ne) (fun _ _ _ _ => by omega) (fun _ _ _ _ => by omega) (fun _ _ _ d => ?_) (fun _ _ _ d => ⟨rfl, ?_⟩)
        · refine ih (i + 1) (q + 1) _ _ (by omega) (by omega) (by omega) (by omega) (by omega) (fun k hk => ?_) (fun k hk1 hk2 => ?_)
          · by_cases c1 : k = q
            · rw [c1, eq]; omega
            · have := Lo k (by omega); omega
          · have := I.2 q k (by omega) hk2
            omega
        · have := k1 ⟨by omega, by omega⟩
          rw [show y.toNat = q by omega, eq, ← h4] at this
          exact this
      · clear b2
        have b3 := b3 cl
        have z0 : h' 29 x4.toNat = 0 := by rw [e4]; exact b1.resolve_right cl
        refine sg_92_11 F' hw (fun a => by omega) (fun _ a => by omega) (fun _ _ => by omega) (fun _ _ _ => by omega) (fun _ _ _ => ?_) (fun _ _ a => absurd z0 a) (fun _ _ a => absurd z0 a) (fun _ _ a => absurd z0 a) (fun _ _ a => absurd z0 a)
        exact ih (i + 1) j _ _ (by omega) (by omega) (by omega) h3 hj (fun k hk => by have := Lo k hk; omega) (fun k hk1 hk2 => by
          have a1 := Hi k hk1 hk2
          by_cases c1 : f k = i
          · exact absurd c1 (b3 k hk2)
          · omega)
  exact loop m 0 0 0 0 rfl (by omega) rfl rfl (by omega) (fun k hk => by omega) (fun k _ _ => Nat.zero_le _)
end
section
variable {X : List Int} {h : zHP} {K : Option zAV → zHP → Prop} {N s : Nat} {A : Nat → Nat × Nat × zel}
/-- cleared -/
theorem cx_175 {t : Int} (F : zFin h) (S : zCS h N s A) (k0 : ¬ (0 ≤ t ∧ t < (N : Int)) → K (some (zI (-1))) h) (k2 : ∀ u : Nat, u < N → t = (u : Int) → ¬ zplb (A u).2.2 (A u).2.1 = true → K (some (zI (-2))) h) (k1 : ∀ u : Nat, u < N → t = (u : Int) → zplb (A u).2.2 (A u).2.1 = true → ∀ h', zFin h' → zfr [29, 30, 31] h h' → K (some (zI ((zclrd (A u).2.2 (A u).2.1 (fun i => i)).1 : Int))) h') : zC X 175 [zR 0, zI t] h K := by
  have h6 := S.2.1
  refine sg_175_0 (cx_202 F S (fun c => sg_175_5cz ⟨rfl, k0 c⟩) (fun u hu htu => ?_))
  obtain ⟨hl, L, -⟩ := S.2.2.2.2.1 u hu
  have hpu := zLadT (t := u) (by omega)
  refine sg_175_5c hpu (by omega) (cx_32 F hpu L hl (fun pl => ?_) (fun pl => ?_))
  · refine sg_175_16c F (fun z => absurd z (by decide)) (fun _ => ?_)
    refine cx_91 F hpu L hl fun h' c f E I F' fr B => sg_175_27c ⟨rfl, ?_⟩
    have := k1 u hu htu ((zplb_iff _ _).mpr pl) h' F' fr
    rw [E] at this
    exact this
  · exact sg_175_16c F (fun _ => ⟨rfl, k2 u hu htu fun z => pl ((zplb_iff _ _).mp z)⟩) (fun z => absurd rfl z)
/-- kept -/
theorem cx_176 {t y : Int} (F : zFin h) (S : zCS h N s A) (k0 : (∀ u : Nat, u < N → t = (u : Int) → zplb (A u).2.2 (A u).2.1 = true → 0 ≤ y → y < ((zclrd (A u).2.2 (A u).2.1 (fun i => i)).1 : Int) → False) → ∀ h', zFin h' → zfr [29, 30, 31] h h' → K (some (zI (-1))) h') (k1 : ∀ u : Nat, u < N → t = (u : Int) → zplb (A u).2.2 (A u).2.1 = true → 0 ≤ y → y < ((zclrd (A u).2.2 (A u).2.1 (fun i => i)).1 : Int) → ∀ h', zFin h' → zfr [29, 30, 31] h h' → K (some (zI ((zclrd (A u).2.2 (A u).2.1 (fun i => i)).2 y.toNat : Int))) h') : zC X 176 [zR 0, zI t, zI y] h K := by
  have h6 := S.2.1
  refine sg_176_0 (cx_202 F S (fun c => sg_176_5cz ⟨rfl, k0 (fun u hu a => by omega) h F zfr.rfl⟩) (fun u hu htu => ?_))
  obtain ⟨hl, L, -⟩ := S.2.2.2.2.1 u hu
  have hpu := zLadT (t := u) (by omega)
  have one : ∀ u' : Nat, t = (u' : Int) → u' = u := fun u' a => by omega
  refine sg_176_5c hpu (by omega) (cx_32 F hpu L hl (fun pl => ?_) (fun pl => ?_))
  · refine sg_176_14c F (fun _ => ?_) (fun z => absurd z (by decide))
    refine cx_92 F hpu L hl fun h' c f E F' fr => ⟨fun a => sg_176_28c ⟨rfl, ?_⟩, fun a => sg_176_28c ⟨rfl, ?_⟩⟩
    · have := k1 u hu htu ((zplb_iff _ _).mpr pl)
      rw [E] at this
      exact this a.1 a.2 h' F' fr
    · refine k0 (fun u2 hu2 b b1 b2 b3 => ?_) h' F' fr
      rw [one u2 b, E] at b3
      exact a ⟨b2, b3⟩
  · refine sg_176_14c F (fun z => absurd rfl z) (fun _ => ⟨rfl, k0 (fun u2 hu2 b b1 _ _ => ?_) h F zfr.rfl⟩)
    rw [one u2 b] at b1
    exact pl ((zplb_iff _ _).mp b1)
end
