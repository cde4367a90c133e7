def zstp (e : zel) (n q m d p : Nat) : Int := if 0 < p ∧ zdc e n q m d (p - 1) < zdc e n q m d p then -1 else if p + 1 < n ∧ zdc e n q m d (p + 1) < zdc e n q m d p then 1 else 0
section
variable {X : List Int} {h : zHP} {K : Option zAV → zHP → Prop}
/-- cheaperStep -/
theorem cx_97 {w n m q d p : Nat} {e : zel} {x y : Int} (F : zFin h) (hw : zLad w) (L : zLC h w n m e) (hl : zlok n m e) (D : zDC h e n q m) (hd : d ≤ m) (hp : p < n) (hx : x = (m : Int) - d) (hy : y = (p : Int)) (k : K (some (zI (zstp e n q m d p))) h) : zC X 97 [zR 28, zR w, zI x, zI y] h K := by
  have hn := hl.1
  have hm := hl.2.1
  have e2 := L.1
  have ex : x = ((m - d : Nat) : Int) := by omega
  have kk : ∀ s : Int, s = zstp e n q m d p → zSHc = zSHc ∧ K (some (zI s)) h := fun s hs => ⟨rfl, by rw [hs]; exact k⟩
  unfold zstp at kk
  have v0 := D d p hd hp
  have up : ¬ (0 < p ∧ zdc e n q m d (p - 1) < zdc e n q m d p) → y + 1 < h w 2 → ∀ c : Int, c = (zdc e n q m d p : Int) → zC X 99 [zR 28, zI x, zI (y + 1)] h (fun v h9 => zAt X 97 45 0 0 [none, none, none, none, some (zI c)] (zpush v []) zSHc h9 (fun v sh' h' => sh' = zSHc ∧ K v h')) := fun nA c2 c hc => by
    refine cx_99 (g := m - d) (p := p + 1) F ex (by omega) (by omega) (by omega) ?_
    have v1 := D d (p + 1) hd (by omega)
    rw [v1]
    rw [if_neg nA] at kk
    refine sg_97_45c (fun a => kk 0 ?_) (fun a => kk 1 ?_)
    · rw [if_neg (by omega)]
    · rw [if_pos (by omega)]
  refine sg_97_0 (cx_99 (g := m - d) (p := p) F ex hy (by omega) (by omega) ?_)
  rw [v0]
  refine sg_97_6c hw (fun _ => by omega) (fun a b => kk 0 ?_) (fun a b => up (by omega) b _ rfl) (fun _ => by omega) (fun a => ?_)
  · rw [if_neg (by omega), if_neg (by omega)]
  · refine cx_99 (g := m - d) (p := p - 1) F ex (by omega) (by omega) (by omega) ?_
    have v1 := D d (p - 1) hd (by omega)
    rw [v1]
    refine sg_97_20c hw (fun _ => by omega) (fun b c => kk 0 ?_) (fun b c => up (by omega) c _ rfl) (fun b => kk (-1) ?_)
    · rw [if_neg (by omega), if_neg (by omega)]
    · rw [if_pos (by omega)]
/-- drawnRung -/
theorem cx_96 {w n m q v i : Nat} {e : zel} {y z : Int} (F : zFin h) (hw : zLad w) (L : zLC h w n m e) (hl : zlok n m e) (D : zDC h e n q m) (hq : q < n) (hv : v < n) (hy : y = (v : Int)) (hz : z = (i : Int)) (hi : i < zdc e n q m m v) (k : K (some (zI (zdw e n q m v i))) h) : zC X 96 [zR 28, zR w, zI y, zI z] h K := by
  have hn := hl.1
  have hm := hl.2.1
  have e3 := L.2.1
  have h2 : ∀ i, i < m → (e i).2.1 + 2 ≤ n := fun i hi => (hl.2.2.2 i hi).2.1
  unfold zdw at k
  have many := zdc_lt h2 hq m v (Nat.le_refl _) hv
  generalize hM : zdc e n q m m v = M at *
  have walk : ∀ (f d p j r : Nat) (x4 x5 x6 x8 : Int), f = zdc e n q m d p + d → d ≤ m → p < n → x6 = (m : Int) - d → x4 = (p : Int) → x5 = (j : Int) → j ≤ i → zdc e n q m d p + j = M → zwk e n q m f d p (i - j) = zwk e n q m (M + m) m v i → x8 = (r : Int) → r + zdc e n q m d p ≤ 7 → zAt X 96 32 0 0 [some (zR 28), some (zR w), none, some (zI z), some (zI x4), some (zI x5), some (zI x6), some (zI (zstp e n q m d p)), some (zI x8)] [] zSHc h (fun v sh' h' => sh' = zSHc ∧ K v h') := by
    intro f
    induction f with
    | zero => intro d p j r x4 x5 x6 x8 hf hd hp e6 e4 e5 hj hC hk e8 hr; omega
    | succ f ih =>
      intro d p j r x4 x5 x6 x8 hf hd hp e6 e4 e5 hj hC hk e8 hr
      have l1 := zdc_lip (e := e) (n := n) (q := q) (m := m) (d := d) (p := p) (p2 := p - 1) (by omega)
      have l2 := zdc_lip (e := e) (n := n) (q := q) (m := m) (d := d) (p := p) (p2 := p + 1) (by omega)
      have l3 : zap p (p - 1) ≤ 1 := by unfold zap; omega
      have l4 : zap p (p + 1) ≤ 1 := by unfold zap; omega
      rw [zwk_s] at hk
      have told : ∀ (p2 : Nat) (s : Int), x4 + s = (p2 : Int) → (s = -1 ∨ s = 1) → p2 < n → zdc e n q m d p2 + 1 = zdc e n q m d p → (if i - j = 0 then 10 * x6 + min x4 (x4 + s) else zwk e n q m f d p2 (i - j - 1)) = zwk e n q m (M + m) m v i → zAt X 96 32 0 0 [some (zR 28), some (zR w), none, some (zI z), some (zI x4), some (zI x5), some (zI x6), some (zI s), some (zI x8)] [] zSHc h (fun v sh' h' => sh' = zSHc ∧ K v h') := fun p2 s es hs hp2 hC2 hk2 => by
        refine sg_96_32 (fun a => by omega) (fun _ a => by omega) (fun _ _ _ => by omega) (fun _ _ _ => by omega) (fun _ _ c => ?_) (fun _ _ _ => by omega) (fun _ _ _ => by omega) (fun _ _ _ => by omega) (fun _ _ c => ⟨rfl, ?_⟩)
        · rw [if_neg (by omega)] at hk2
          exact cx_97 F hw L hl D hd hp2 e6 es (sg_96_86c (by omega) (ih d p2 (j + 1) (r + 1) _ _ _ _ (by omega) hd hp2 e6 es (by omega) (by omega) (by omega) (by rw [← hk2]; congr 1) (by omega) (by omega)))
        · rw [if_pos (by omega)] at hk2
          rw [hk2]
          exact k
      by_cases cA : 0 < p ∧ zdc e n q m d (p - 1) < zdc e n q m d p
      · have es : zstp e n q m d p = -1 := if_pos cA
        rw [if_pos cA] at hk
        rw [es]
        exact told (p - 1) (-1) (by omega) (Or.inl rfl) (by omega) (by omega) (by rw [← hk, e6, e4]; congr 1; omega)
      · rw [if_neg cA] at hk
        by_cases cB : p + 1 < n ∧ zdc e n q m d (p + 1) < zdc e n q m d p
        · have es : zstp e n q m d p = 1 := (if_neg cA).trans (if_pos cB)
          rw [if_pos cB] at hk
          rw [es]
          exact told (p + 1) 1 (by omega) (Or.inr rfl) (by omega) (by omega) (by rw [← hk, e6, e4]; congr 1; omega)
        · rw [if_neg cB] at hk
          have es : zstp e n q m d p = 0 := (if_neg cA).trans (if_neg cB)
          rw [es]
          obtain ⟨z1, z2⟩ := zdc_none hp hq cA cB
          obtain ⟨d', hd'⟩ : ∃ d', d = d' + 1 := ⟨d - 1, by
            by_cases c : d = 0
            · have := z1 c; omega
            · omega⟩
          have z2 := z2 d' hd'
          subst hd'
          have em : m - 1 - d' = m - (d' + 1) := by omega
          rw [em] at z2
          have hle := h2 (m - (d' + 1)) (by omega)
          have hb := zbsd_lt hle hp
          have lt7 := zdc_lt h2 hq d' (zbsd (e (m - (d' + 1))).2.1 p) (by omega) hb
          refine sg_96_32 (fun _ => ?_) (fun a => absurd rfl a) (fun a => absurd rfl a) (fun a => absurd rfl a) (fun a => absurd rfl a) (fun a => absurd rfl a) (fun a => absurd rfl a) (fun a => absurd rfl a) (fun a => absurd rfl a)
          refine cx_98 F hw L hl (show m - (d' + 1) < m by omega) hp (by omega) e4 (sg_96_102c (by omega) (sg_96_9 hw (fun a => by omega) (fun _ => ?_)))
          refine cx_97 F hw L hl D (show d' ≤ m by omega) hb (by omega) rfl (sg_96_27c ?_)
          exact ih d' _ j 0 _ _ _ _ (by omega) (by omega) hb (by omega) rfl e5 hj (by omega) (by rw [← hk]; rfl) rfl (by omega)
  refine sg_96_0 (sg_96_9 hw (fun a => by omega) (fun _ => ?_))
  refine cx_97 F hw L hl D (Nat.le_refl m) hv (by omega) hy (sg_96_27c ?_)
  exact walk (M + m) m v 0 0 _ _ _ _ (by omega) (Nat.le_refl _) hv (by omega) hy rfl (by omega) (by omega) rfl rfl (by omega)
end
section
variable {X : List Int} {h : zHP} {K : Option zAV → zHP → Prop} {N s : Nat} {A : Nat → Nat × Nat × zel}
/-- drawn -/
theorem cx_189 {t v q : Int} (F : zFin h) (S : zCS h N s A) (k0 : (∀ u : Nat, u < N → t = (u : Int) → 0 ≤ v → v < ((A u).1 : Int) → 0 ≤ q → q < ((A u).1 : Int) → False) → K (some (zI (-1))) h) (k2 : ∀ u : Nat, u < N → t = (u : Int) → 0 ≤ v → v < ((A u).1 : Int) → 0 ≤ q → q < ((A u).1 : Int) → ¬ zplb (A u).2.2 (A u).2.1 = true → K (some (zI (-2))) h) (k1 : ∀ u : Nat, u < N → t = (u : Int) → 0 ≤ v → v < ((A u).1 : Int) → 0 ≤ q → q < ((A u).1 : Int) → zplb (A u).2.2 (A u).2.1 = true → ∀ h', zFin h' → zfr [32] h h' → zDC h' (A u).2.2 (A u).1 q.toNat (A u).2.1 → K (some (zI (zdc (A u).2.2 (A u).1 q.toNat (A u).2.1 (A u).2.1 v.toNat : Int))) h') : zC X 189 [zR 0, zI t, zI v, zI q] h K := by
  have h6 := S.2.1
  refine sg_189_0 (cx_202 F S (fun c => sg_189_5cz ⟨rfl, k0 fun u hu a => by omega⟩) (fun u hu htu => ?_))
  obtain ⟨hl, L, -⟩ := S.2.2.2.2.1 u hu
  have hpu := zLadT (t := u) (by omega)
  have q1 := L.1
  have one : ∀ u' : Nat, t = (u' : Int) → u' = u := fun u' a => by omega
  have no : ¬ ((0 ≤ v ∧ v < ((A u).1 : Int)) ∧ 0 ≤ q ∧ q < ((A u).1 : Int)) → zSHc = zSHc ∧ K (some (zI (-1))) h := fun c => ⟨rfl, k0 fun u2 _ a b1 b2 b3 b4 => by
    rw [one u2 a] at b2 b4
    exact c ⟨⟨b1, b2⟩, b3, b4⟩⟩
  refine sg_189_5c hpu (by omega) (fun a => no (by omega)) (fun a b => ?_) (fun a b => no (by omega))
  refine cx_32 F hpu L hl (fun pl => ?_) (fun pl => ?_)
  · refine sg_189_37c F (fun z => absurd z (by decide)) (fun _ => ?_)
    refine cx_95 (v := v.toNat) (q := q.toNat) F hpu L hl (by omega) (by omega) (by omega) (by omega) fun h' F' fr D => sg_189_51c ⟨rfl, ?_⟩
    exact k1 u hu htu (by omega) (by omega) (by omega) (by omega) ((zplb_iff _ _).mpr pl) h' F' fr D
  · exact sg_189_37c F (fun _ => ⟨rfl, k2 u hu htu (by omega) (by omega) (by omega) (by omega) fun z => pl ((zplb_iff _ _).mp z)⟩) (fun z => absurd rfl z)
/-- drawnAt -/
theorem cx_190 {t v q i : Int} (F : zFin h) (S : zCS h N s A) (k0 : (∀ u : Nat, u < N → t = (u : Int) → 0 ≤ v → v < ((A u).1 : Int) → 0 ≤ q → q < ((A u).1 : Int) → zplb (A u).2.2 (A u).2.1 = true → 0 ≤ i → i < (zdc (A u).2.2 (A u).1 q.toNat (A u).2.1 (A u).2.1 v.toNat : Int) → False) → ∀ h', zFin h' → zfr [32] h h' → K (some (zI (-1))) h') (k1 : ∀ u : Nat, u < N → t = (u : Int) → 0 ≤ v → v < ((A u).1 : Int) → 0 ≤ q → q < ((A u).1 : Int) → zplb (A u).2.2 (A u).2.1 = true → 0 ≤ i → i < (zdc (A u).2.2 (A u).1 q.toNat (A u).2.1 (A u).2.1 v.toNat : Int) → ∀ h', zFin h' → zfr [32] h h' → K (some (zI (zdw (A u).2.2 (A u).1 q.toNat (A u).2.1 v.toNat i.toNat))) h') : zC X 190 [zR 0, zI t, zI v, zI q, zI i] h K := by
  have h6 := S.2.1
  have none1 : ((∀ u : Nat, u < N → t = (u : Int) → 0 ≤ v → v < ((A u).1 : Int) → 0 ≤ q → q < ((A u).1 : Int) → zplb (A u).2.2 (A u).2.1 = true → False)) → ∀ c : Int, c < 0 → zAt X 190 7 0 0 [some (zR 0), some (zI t), some (zI v), none, some (zI i), none, none] [zI c] zSHc h (fun v sh' h' => sh' = zSHc ∧ K v h') := fun no c hc => by
    have kk := k0 (fun u hu a b1 b2 b3 b4 b5 _ _ => no u hu a b1 b2 b3 b4 b5) h F zfr.rfl
    refine sg_190_7c (cx_202 F S (fun _ => sg_190_14cz ⟨rfl, kk⟩) (fun u hu htu => ?_))
    exact sg_190_14c F (by omega) (fun _ => ⟨rfl, kk⟩) (fun a b => by omega) (fun _ _ => ⟨rfl, kk⟩)
  refine sg_190_0 (cx_189 F S (fun c => ?_) (fun u hu htu a1 a2 a3 a4 pl => ?_) (fun u hu htu a1 a2 a3 a4 pl h' F' fr D => ?_))
  · exact none1 (fun u hu a b1 b2 b3 b4 _ => c u hu a b1 b2 b3 b4) (-1) (by decide)
  · refine none1 (fun u2 hu2 a b1 b2 b3 b4 b5 => ?_) (-2) (by decide)
    have : u2 = u := by omega
    subst this
    exact pl b5
  · have S' : zCS h' N s A := S.fr (by rw [fr 0 (by decide)]) (by rw [fr 0 (by decide)]) (fr 5 (by decide)) (by rw [fr 1 (by decide)]; exact Int.le_refl _) fun t ht => ⟨fr _ (by simp; omega), fr _ (by simp; omega)⟩
    refine sg_190_7c (cx_202 F' S' (fun c => by omega) (fun u2 hu2 htu2 => ?_))
    have : u2 = u := by omega
    subst this
    obtain ⟨hl, L, -⟩ := S'.2.2.2.2.1 u2 hu
    have hpu := zLadT (t := u2) (by omega)
    have no : ¬ (0 ≤ i ∧ i < (zdc (A u2).2.2 (A u2).1 q.toNat (A u2).2.1 (A u2).2.1 v.toNat : Int)) → zSHc = zSHc ∧ K (some (zI (-1))) h' := fun c => ⟨rfl, k0 (fun u3 hu3 a b1 b2 b3 b4 b5 b6 b7 => by
      have : u3 = u2 := by omega
      subst this
      exact c ⟨b6, b7⟩) h' F' fr⟩
    refine sg_190_14c F' (by omega) (fun a => no (by omega)) (fun a b => ?_) (fun _ b => no (by omega))
    exact cx_96 (v := v.toNat) (q := q.toNat) (i := i.toNat) F' hpu L hl D (by omega) (by omega) (by omega) (by omega) (by omega) (sg_190_47c ⟨rfl, k1 u2 hu htu a1 a2 a3 a4 pl a b h' F' fr⟩)
end
