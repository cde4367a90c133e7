/-! RUNGS DRAWN IN FOR ONE NUMBER; THE CLASS -/
def zs1 (f : Nat → Nat) : Nat → Nat
  | 0 => f 0
  | p + 1 => min (f (p + 1)) (zs1 f p + 1)
def zs2 (f : Nat → Nat) (n : Nat) : Nat → Nat
  | 0 => zs1 f (n - 1)
  | k + 1 => min (zs1 f (n - 1 - (k + 1))) (zs2 f n k + 1)
theorem zs1_le {f : Nat → Nat} : ∀ {p a : Nat}, a ≤ p → zs1 f p ≤ f a + (p - a) := by
  intro p
  induction p with
  | zero => intro a h; have : a = 0 := by omega
            subst this; exact Nat.le_refl _
  | succ p ih =>
    intro a h
    have e : zs1 f (p + 1) = min (f (p + 1)) (zs1 f p + 1) := rfl
    by_cases c : a = p + 1
    · subst c; omega
    · have := ih (a := a) (by omega)
      omega
theorem zs1_ex {f : Nat → Nat} : ∀ p : Nat, ∃ a, a ≤ p ∧ zs1 f p = f a + (p - a) := by
  intro p
  induction p with
  | zero => exact ⟨0, by omega, rfl⟩
  | succ p ih =>
    have e : zs1 f (p + 1) = min (f (p + 1)) (zs1 f p + 1) := rfl
    obtain ⟨a, h1, h2⟩ := ih
    by_cases c : f (p + 1) ≤ zs1 f p + 1
    · exact ⟨p + 1, by omega, by omega⟩
    · exact ⟨a, by omega, by omega⟩
theorem zs2_le {f : Nat → Nat} {n : Nat} : ∀ {k b : Nat}, k < n → n - 1 - k ≤ b → b < n → zs2 f n k ≤ zs1 f b + (b - (n - 1 - k)) := by
  intro k
  induction k with
  | zero => intro b h1 h2 h3; have : b = n - 1 := by omega
            subst this; exact Nat.le_add_right _ _
  | succ k ih =>
    intro b h1 h2 h3
    have e : zs2 f n (k + 1) = min (zs1 f (n - 1 - (k + 1))) (zs2 f n k + 1) := rfl
    by_cases c : b = n - 1 - (k + 1)
    · subst c; omega
    · have := ih (b := b) (by omega) (by omega) h3
      omega
theorem zs2_ex {f : Nat → Nat} {n : Nat} : ∀ k : Nat, k < n → ∃ b, n - 1 - k ≤ b ∧ b < n ∧ zs2 f n k = zs1 f b + (b - (n - 1 - k)) := by
  intro k
  induction k with
  | zero =>
    intro h
    refine ⟨n - 1, by omega, by omega, ?_⟩
    show zs1 f (n - 1) = _
    omega
  | succ k ih =>
    intro h
    have e : zs2 f n (k + 1) = min (zs1 f (n - 1 - (k + 1))) (zs2 f n k + 1) := rfl
    obtain ⟨b, h1, h2, h3⟩ := ih (by omega)
    by_cases c : zs1 f (n - 1 - (k + 1)) ≤ zs2 f n k + 1
    · exact ⟨n - 1 - (k + 1), by omega, by omega, by omega⟩
    · exact ⟨b, by omega, h2, by omega⟩
theorem zs2_mi {f : Nat → Nat} {n p : Nat} (hp : p < n) : zs2 f n (n - 1 - p) = zmi f p n := by
  have ep : n - 1 - (n - 1 - p) = p := by omega
  have le : ∀ a, a < n → zs2 f n (n - 1 - p) ≤ f a + zap p a := fun a ha => by
    by_cases c : a ≤ p
    · have a1 := zs2_le (f := f) (n := n) (k := n - 1 - p) (b := p) (by omega) (by omega) hp
      have a2 := zs1_le (f := f) c
      unfold zap
      omega
    · have a1 := zs2_le (f := f) (n := n) (k := n - 1 - p) (b := a) (by omega) (by omega) ha
      have a2 := zs1_le (f := f) (Nat.le_refl a)
      unfold zap
      omega
  refine zmi_eq le ?_
  obtain ⟨b, b1, b2, b3⟩ := zs2_ex (f := f) (n := n) (n - 1 - p) (by omega)
  obtain ⟨a, a1, a2⟩ := zs1_ex (f := f) b
  have l := le a (by omega)
  refine ⟨a, by omega, ?_⟩
  unfold zap at *
  omega
theorem zabs_n (p q : Nat) : zabs ((p : Int) - (q : Int)) = (zap p q : Int) := by
  unfold zabs zap
  split <;> omega
section
variable {X : List Int} {h : zHP} {K : Option zAV → zHP → Prop}
/-- costAt -/
theorem cx_99 {g p : Nat} {x y : Int} (F : zFin h) (hx : x = (g : Int)) (hy : y = (p : Int)) (hg : g ≤ 200) (hp : p < 8) (k : K (some (zI (h 32 (8 * g + p)))) h) : zC X 99 [zR 28, zI x, zI y] h K := by
  have e : ((x * 8) + y).toNat = 8 * g + p := by omega
  exact sg_99_0 F (by omega) (by omega) (fun a => by omega) (fun _ a => by omega) (fun _ _ => by omega) (fun _ _ => ⟨rfl, by rw [e]; exact k⟩)
/-- setCost -/
theorem cx_100 {g p : Nat} {x y w : Int} (F : zFin h) (hx : x = (g : Int)) (hy : y = (p : Int)) (hg : g ≤ 200) (hp : p < 8) (k : K none (zup h 32 (8 * g + p) w)) : zC X 100 [zR 28, zI x, zI y, zI w] h K := by
  have e : ((x * 8) + y).toNat = 8 * g + p := by omega
  exact sg_100_0 F (by omega) (by omega) (fun a => by omega) (fun _ a => by omega) (fun _ _ => by omega) (fun _ _ => ⟨rfl, by rw [e]; exact k⟩)
/-- passed -/
theorem cx_98 {w n m g p : Nat} {e : zel} {x y : Int} (F : zFin h) (hw : zLad w) (L : zLC h w n m e) (hl : zlok n m e) (hg : g < m) (hp : p < n) (hx : x = (g : Int)) (hy : y = (p : Int)) (k : K (some (zI (zbsd (e g).2.1 p : Int))) h) : zC X 98 [zR w, zI x, zI y] h K := by
  have h3 := L.2.1
  have hm := hl.2.1
  have hn := hl.1
  have lg := L.lg hl hg
  rw [← hx] at lg
  have h2 := (hl.2.2.2 g hg).2.1
  have kk : ∀ w : Int, w = (zbsd (e g).2.1 p : Int) → zSHc = zSHc ∧ K (some (zI w)) h := fun w hw => ⟨rfl, by rw [hw]; exact k⟩
  refine sg_98_0 F hw (fun _ _ => by omega) (fun _ a b => kk _ ?_) (fun _ a b => kk _ ?_) (fun _ _ => by omega) (fun _ a => kk _ ?_) (fun a => absurd ⟨by omega, by omega, by omega⟩ a)
  · unfold zbsd; rw [if_neg (by omega), if_neg (by omega)]; exact hy
  · unfold zbsd; rw [if_neg (by omega), if_pos (by omega)]; exact lg
  · unfold zbsd; rw [if_pos (by omega), lg]; omega
/-- passed, below the last -/
theorem cx_98e {w n m : Nat} {e : zel} {x y : Int} (F : zFin h) (hw : zLad w) (L : zLC h w n m e) (hx : x = (m : Int)) (k : K (some (zI y)) h) : zC X 98 [zR w, zI x, zI y] h K := by
  have h3 := L.2.1
  exact sg_98_0 F hw (fun a => by omega) (fun a => by omega) (fun a => by omega) (fun a => by omega) (fun a => by omega) (fun _ => ⟨rfl, k⟩)
/-- what drawnFor leaves -/
def zDC (h : zHP) (e : zel) (n q m : Nat) : Prop := ∀ d p, d ≤ m → p < n → h 32 (8 * (m - d) + p) = (zdc e n q m d p : Int)
/-- drawnFor -/
theorem cx_95 {w n m q v : Nat} {e : zel} {y z : Int} (F : zFin h) (hw : zLad w) (L : zLC h w n m e) (hl : zlok n m e) (hq : q < n) (hv : v < n) (hy : y = (v : Int)) (hz : z = (q : Int)) (k : ∀ h', zFin h' → zfr [32] h h' → zDC h' e n q m → K (some (zI (zdc e n q m m v : Int))) h') : zC X 95 [zR 28, zR w, zI y, zI z] h K := by
  have hn := hl.1
  have hm := hl.2.1
  have w32 : ¬ w = 32 ∧ ¬ w + 1 = 32 := by unfold zLad at hw; omega
  have h2 : ∀ i, i < m → (e i).2.1 + 2 ≤ n := fun i hi => (hl.2.2.2 i hi).2.1
  have keep : ∀ h1, zfr [32] h h1 → zLC h1 w n m e := fun h1 fr => by
    unfold zLC
    rw [fr w (by simp; omega), fr (w + 1) (by simp; omega)]
    exact L
  -- from gap to gap
  have gaps : ∀ (d : Nat) (r : Nat) (h1 : zHP) (x5 : Int), m - d = r → d ≤ m → x5 = (m : Int) - d - 1 → zFin h1 → zfr [32] h h1 → (∀ d' p, d' ≤ d → p < n → h1 32 (8 * (m - d') + p) = (zdc e n q m d' p : Int)) → zAt X 95 47 0 0 [some (zR 28), some (zR w), some (zI y), none, some (zI (n : Int)), some (zI x5), none] [] zSHc h1 (fun v sh' h' => sh' = zSHc ∧ K v h') := by
    intro d r
    induction r generalizing d with
    | zero =>
      intro h1 x5 hr hd hx F1 fr D
      have ed : d = m := by omega
      subst ed
      refine sg_95_47 (fun _ => cx_99 (g := 0) (p := v) F1 rfl hy (by omega) (by omega) (sg_95_199c ⟨rfl, ?_⟩)) (fun a => by omega)
      have := D d v (Nat.le_refl _) hv
      rw [Nat.sub_self] at this
      rw [this]
      exact k h1 F1 fr D
    | succ r ih =>
      intro h1 x5 hr hd hx F1 fr D
      obtain ⟨g, hg⟩ : ∃ g, m = g + 1 + d := ⟨m - 1 - d, by omega⟩
      have e5 : x5 = (g : Int) := by omega
      have eg : m - d = g + 1 := by omega
      have eg1 : m - 1 - d = g := by omega
      have hgm : g < m := by omega
      have hle := h2 g hgm
      have fin : ∀ (h2 : zHP), zFin h2 → zfr [32] h h2 → (∀ d' p, d' ≤ d → p < n → h2 32 (8 * (m - d') + p) = (zdc e n q m d' p : Int)) → (∀ p, p < n → h2 32 (8 * g + p) = (zs2 (fun a => zdc e n q m d (zbsd (e g).2.1 a)) n (n - 1 - p) : Int)) → zAt X 95 47 0 0 [some (zR 28), some (zR w), some (zI y), none, some (zI (n : Int)), some (zI (x5 + (-1))), none] [] zSHc h2 (fun v sh' h' => sh' = zSHc ∧ K v h') := fun h2 F2 fr2 D2 E2 => by
        refine ih (d + 1) h2 _ (by omega) (by omega) (by omega) F2 fr2 fun d' p a b => ?_
        by_cases c : d' = d + 1
        · rw [c, show m - (d + 1) = g by omega, E2 p b, zs2_mi b, zdc_s, eg1]
        · exact D2 d' p (by omega) b
      generalize hf : (fun a => zdc e n q m d (zbsd (e g).2.1 a)) = f at fin
      have fb : ∀ a, a < n → f a < n := fun a ha => by rw [← hf]; exact zdc_lt h2 hq d _ hd (zbsd_lt hle ha)
      have s1b : ∀ p, p < n → zs1 f p < n := fun p hp => by
        have := zs1_le (f := f) (Nat.le_refl p)
        have := fb p hp
        omega
      have s2b : ∀ k, k < n → zs2 f n k < n := fun k hk => by
        have := zs2_le (f := f) (n := n) (k := k) (b := n - 1 - k) hk (Nat.le_refl _) (by omega)
        have := s1b (n - 1 - k) (by omega)
        omega
      have frm : ∀ (h2 : zHP) (p : Nat) (c : Int), p < 8 → (∀ d' p, d' ≤ d → p < n → h2 32 (8 * (m - d') + p) = (zdc e n q m d' p : Int)) → (∀ d' p', d' ≤ d → p' < n → zup h2 32 (8 * g + p) c 32 (8 * (m - d') + p') = (zdc e n q m d' p' : Int)) := fun h2 p c hp8 D2 d' p' a b => by
        rw [zup_k (by omega)]
        exact D2 d' p' a b
      -- the sweep up
      have swp2 : ∀ (r2 kk : Nat) (h2 : zHP) (x6 : Int), n - 1 - kk = r2 → kk < n → x6 = (n : Int) - 2 - kk → zFin h2 → zfr [32] h h2 → (∀ d' p, d' ≤ d → p < n → h2 32 (8 * (m - d') + p) = (zdc e n q m d' p : Int)) → (∀ p, p < n → h2 32 (8 * g + p) = if p < n - 1 - kk then (zs1 f p : Int) else (zs2 f n (n - 1 - p) : Int)) → zAt X 95 145 0 0 [some (zR 28), some (zR w), some (zI y), none, some (zI (n : Int)), some (zI x5), some (zI x6)] [] zSHc h2 (fun v sh' h' => sh' = zSHc ∧ K v h') := by
        intro r2
        induction r2 with
        | zero =>
          intro kk h2 x6 hr2 hk2 h6 F2 fr2 D2 E2
          refine sg_95_145 (fun _ => by omega) (fun _ => fin h2 F2 fr2 D2 fun p hp => ?_) (fun a => by omega)
          rw [E2 p hp, if_neg (by omega)]
        | succ r2 ih2 =>
          intro kk h2 x6 hr2 hk2 h6 F2 fr2 D2 E2
          obtain ⟨p, hp⟩ : ∃ p, n = p + 2 + kk := ⟨n - 2 - kk, by omega⟩
          have e6 : x6 = (p : Int) := by omega
          refine sg_95_145 (fun a => by omega) (fun a => by omega) (fun _ => ?_)
          refine cx_99 (g := g) (p := p) F2 e5 e6 (by omega) (by omega) (sg_95_163c (by omega) ?_)
          refine cx_99 (g := g) (p := p + 1) F2 e5 (by omega) (by omega) (by omega) ?_
          have v1 := E2 p (by omega)
          have v2 := E2 (p + 1) (by omega)
          rw [if_pos (by omega)] at v1
          rw [if_neg (by omega)] at v2
          rw [v1, v2]
          have b1 := s1b p (by omega)
          have b2 := s2b (n - 1 - (p + 1)) (by omega)
          refine sg_95_173c (by omega) (cx_100 (g := g) (p := p) F2 e5 e6 (by omega) (by omega) (sg_95_181c (by omega) ?_))
          refine ih2 (kk + 1) _ _ (by omega) (by omega) (by omega) (F2.upA zfa_32) (fr2.up (by simp)) (frm h2 p _ (by omega) D2) fun p' hp' => ?_
          by_cases c : p' = p
          · subst c
            rw [zup_eq, if_neg (by omega)]
            have ek : n - 1 - p' = kk + 1 := by omega
            have ek2 : n - 1 - (p' + 1) = kk := by omega
            rw [ek, ek2]
            have es : zs2 f n (kk + 1) = min (zs1 f (n - 1 - (kk + 1))) (zs2 f n kk + 1) := rfl
            rw [show n - 1 - (kk + 1) = p' by omega] at es
            omega
          · rw [zup_k (by omega), E2 p' hp']
            by_cases c2 : p' < n - 1 - (kk + 1)
            · rw [if_pos c2, if_pos (by omega)]
            · rw [if_neg c2, if_neg (by omega)]
      -- the sweep down
      have swp1 : ∀ (r2 p : Nat) (h2 : zHP) (x6 : Int), n - p = r2 → p ≤ n → 1 ≤ p → x6 = (p : Int) → zFin h2 → zfr [32] h h2 → (∀ d' p, d' ≤ d → p < n → h2 32 (8 * (m - d') + p) = (zdc e n q m d' p : Int)) → (∀ p', p' < n → h2 32 (8 * g + p') = if p' < p then (zs1 f p' : Int) else (f p' : Int)) → zAt X 95 95 0 0 [some (zR 28), some (zR w), some (zI y), none, some (zI (n : Int)), some (zI x5), some (zI x6)] [] zSHc h2 (fun v sh' h' => sh' = zSHc ∧ K v h') := by
        intro r2
        induction r2 with
        | zero =>
          intro p h2 x6 hr2 hp hp1 h6 F2 fr2 D2 E2
          refine sg_95_95 (fun _ => by omega) (fun _ => swp2 (n - 1) 0 h2 _ (by omega) (by omega) (by omega) F2 fr2 D2 fun p' hp' => ?_) (fun a => by omega)
          rw [E2 p' hp', if_pos (by omega)]
          by_cases c : p' < n - 1 - 0
          · rw [if_pos c]
          · rw [if_neg c, show n - 1 - p' = 0 by omega]
            show _ = (zs1 f (n - 1) : Int)
            rw [show n - 1 = p' by omega]
        | succ r2 ih2 =>
          intro p h2 x6 hr2 hp hp1 h6 F2 fr2 D2 E2
          refine sg_95_95 (fun a => by omega) (fun a => by omega) (fun _ => ?_)
          refine cx_99 (g := g) (p := p) F2 e5 h6 (by omega) (by omega) (sg_95_115c (by omega) ?_)
          refine cx_99 (g := g) (p := p - 1) F2 e5 (by omega) (by omega) (by omega) ?_
          have v1 := E2 p (by omega)
          have v2 := E2 (p - 1) (by omega)
          rw [if_neg (by omega)] at v1
          rw [if_pos (by omega)] at v2
          rw [v1, v2]
          have b1 := fb p (by omega)
          have b2 := s1b (p - 1) (by omega)
          refine sg_95_125c (by omega) (cx_100 (g := g) (p := p) F2 e5 h6 (by omega) (by omega) (sg_95_133c (by omega) ?_))
          refine ih2 (p + 1) _ _ (by omega) (by omega) (by omega) (by omega) (F2.upA zfa_32) (fr2.up (by simp)) (frm h2 p _ (by omega) D2) fun p' hp' => ?_
          by_cases c : p' = p
          · subst c
            rw [zup_eq, if_pos (by omega)]
            have es : zs1 f (p' - 1 + 1) = min (f (p' - 1 + 1)) (zs1 f (p' - 1) + 1) := rfl
            rw [show p' - 1 + 1 = p' by omega] at es
            omega
          · rw [zup_k (by omega), E2 p' hp']
            by_cases c2 : p' < p
            · rw [if_pos c2, if_pos (by omega)]
            · rw [if_neg c2, if_neg (by omega)]
      -- the row below, passed
      have fst : ∀ (r2 p : Nat) (h2 : zHP) (x6 : Int), n - p = r2 → p ≤ n → x6 = (p : Int) → zFin h2 → zfr [32] h h2 → (∀ d' p, d' ≤ d → p < n → h2 32 (8 * (m - d') + p) = (zdc e n q m d' p : Int)) → (∀ p', p' < p → h2 32 (8 * g + p') = (f p' : Int)) → zAt X 95 55 0 0 [some (zR 28), some (zR w), some (zI y), none, some (zI (n : Int)), some (zI x5), some (zI x6)] [] zSHc h2 (fun v sh' h' => sh' = zSHc ∧ K v h') := by
        intro r2
        induction r2 with
        | zero =>
          intro p h2 x6 hr2 hp h6 F2 fr2 D2 E2
          refine sg_95_55 (fun _ => swp1 (n - 1) 1 h2 1 (by omega) (by omega) (by omega) rfl F2 fr2 D2 fun p' hp' => ?_) (fun a => by omega) (fun a => by omega)
          rw [E2 p' (by omega)]
          by_cases c : p' < 1
          · rw [if_pos c, show p' = 0 by omega]; rfl
          · rw [if_neg c]
        | succ r2 ih2 =>
          intro p h2 x6 hr2 hp h6 F2 fr2 D2 E2
          have hp' : p < n := by omega
          refine sg_95_55 (fun a => by omega) (fun a => by omega) (fun _ => ?_)
          have hb := zbsd_lt hle hp'
          refine cx_98 F2 hw (keep h2 fr2) hl hgm hp' e5 h6 (sg_95_80c ?_)
          refine cx_99 (g := g + 1) (p := zbsd (e g).2.1 p) F2 (by omega) rfl (by omega) (by omega) ?_
          have v1 := D2 d (zbsd (e g).2.1 p) (Nat.le_refl _) hb
          rw [eg] at v1
          rw [v1]
          refine sg_95_83c (cx_100 (g := g) (p := p) F2 e5 h6 (by omega) (by omega) (sg_95_86c (by omega) ?_))
          refine ih2 (p + 1) _ _ (by omega) (by omega) (by omega) (F2.upA zfa_32) (fr2.up (by simp)) (frm h2 p _ (by omega) D2) fun p' hp' => ?_
          by_cases c : p' = p
          · rw [c, zup_eq, ← hf]
          · rw [zup_k (by omega)]
            exact E2 p' (by omega)
      exact sg_95_47 (fun a => by omega) (fun _ => fst n 0 h1 0 (by omega) (by omega) rfl F1 fr D fun p' a => by omega)
  -- the bottom
  have bot : ∀ (r p : Nat) (h1 : zHP) (x5 : Int), n - p = r → p ≤ n → x5 = (p : Int) → zFin h1 → zfr [32] h h1 → (∀ p', p' < p → h1 32 (8 * m + p') = (zap p' q : Int)) → zAt X 95 9 0 0 [some (zR 28), some (zR w), some (zI y), some (zI z), some (zI (n : Int)), some (zI x5), none] [] zSHc h1 (fun v sh' h' => sh' = zSHc ∧ K v h') := by
    intro r
    induction r with
    | zero =>
      intro p h1 x5 hr hp h5 F1 fr B
      have e3 := (keep h1 fr).2.1
      refine sg_95_9 hw (fun _ => by omega) (fun _ => gaps 0 m h1 _ (by omega) (by omega) (by omega) F1 fr fun d' p' a b => ?_) (fun a => by omega) (fun a => by omega) (fun a => by omega)
      have : d' = 0 := by omega
      subst this
      exact B p' (by omega)
    | succ r ih =>
      intro p h1 x5 hr hp h5 F1 fr B
      have e3 := (keep h1 fr).2.1
      refine sg_95_9 hw (fun a => by omega) (fun a => by omega) (fun _ => by omega) (fun _ => by omega) (fun _ => ?_)
      refine cx_100 (g := m) (p := p) F1 e3 h5 (by omega) (by omega) (sg_95_33c (by omega) ?_)
      refine ih (p + 1) _ _ (by omega) (by omega) (by omega) (F1.upA zfa_32) (fr.up (by simp)) fun p' hp' => ?_
      by_cases c : p' = p
      · rw [c, zup_eq, h5, hz]; exact zabs_n p q
      · rw [zup_k (by omega)]; exact B p' (by omega)
  refine sg_95_0 hw ?_
  rw [L.1]
  exact bot n 0 h 0 (by omega) (by omega) rfl F zfr.rfl fun p' a => by omega
end
