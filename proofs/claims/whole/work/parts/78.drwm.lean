/-! RUNGS DRAWN IN FOR ONE NUMBER; THE REFERENCE -/
def zap (x y : Nat) : Nat := (x - y) + (y - x)
def zbsd (k a : Nat) : Nat := if a = k then k + 1 else if a = k + 1 then k else a
/-- the least over the first n -/
def zmi (f : Nat → Nat) (p : Nat) : Nat → Nat
  | 0 => 0
  | i + 1 => if i = 0 then f 0 + zap p 0 else min (zmi f p i) (f i + zap p i)
theorem zmi_s {f : Nat → Nat} {p i : Nat} : zmi f p (i + 1) = if i = 0 then f 0 + zap p 0 else min (zmi f p i) (f i + zap p i) := rfl
theorem zmi_le {f : Nat → Nat} {p : Nat} : ∀ {n a : Nat}, a < n → zmi f p n ≤ f a + zap p a := by
  intro n
  induction n with
  | zero => intro a h; omega
  | succ n ih =>
    intro a h
    rw [zmi_s]
    by_cases c : n = 0
    · have : a = 0 := by omega
      rw [if_pos c, this]
      exact Nat.le_refl _
    · rw [if_neg c]
      by_cases d : a = n
      · rw [d]; exact Nat.min_le_right _ _
      · exact Nat.le_trans (Nat.min_le_left _ _) (ih (by omega))
theorem zmi_ex {f : Nat → Nat} {p : Nat} : ∀ {n : Nat}, 1 ≤ n → ∃ a, a < n ∧ zmi f p n = f a + zap p a := by
  intro n
  induction n with
  | zero => intro h; omega
  | succ n ih =>
    intro h
    rw [zmi_s]
    by_cases c : n = 0
    · rw [if_pos c]; exact ⟨0, by omega, rfl⟩
    · rw [if_neg c]
      by_cases d : zmi f p n ≤ f n + zap p n
      · rw [Nat.min_eq_left d]
        obtain ⟨a, h1, h2⟩ := ih (by omega)
        exact ⟨a, by omega, h2⟩
      · rw [Nat.min_eq_right (by omega)]
        exact ⟨n, by omega, rfl⟩
theorem zmi_eq {f : Nat → Nat} {p n v : Nat} (h1 : ∀ a, a < n → v ≤ f a + zap p a) (h2 : ∃ a, a < n ∧ v = f a + zap p a) : v = zmi f p n := by
  obtain ⟨a, ha, e⟩ := h2
  obtain ⟨b, hb, e2⟩ := zmi_ex (f := f) (p := p) (n := n) (by omega)
  have := h1 b hb
  have := zmi_le (f := f) (p := p) ha
  omega
/-- the fewest rungs, d elements above the bottom -/
def zdc (e : zel) (n q m : Nat) : Nat → Nat → Nat
  | 0, p => zap p q
  | d + 1, p => zmi (fun a => zdc e n q m d (zbsd (e (m - 1 - d)).2.1 a)) p n
theorem zdc_s {e : zel} {n q m d p : Nat} : zdc e n q m (d + 1) p = zmi (fun a => zdc e n q m d (zbsd (e (m - 1 - d)).2.1 a)) p n := rfl
theorem zbsd_lt {k a n : Nat} (hk : k + 2 ≤ n) (ha : a < n) : zbsd k a < n := by
  unfold zbsd
  split
  · omega
  · split <;> omega
theorem zdc_lt {e : zel} {n q m : Nat} (hl : ∀ i, i < m → (e i).2.1 + 2 ≤ n) (hq : q < n) : ∀ d p, d ≤ m → p < n → zdc e n q m d p < n := by
  intro d
  induction d with
  | zero => intro p _ hp; show zap p q < n; unfold zap; omega
  | succ d ih =>
    intro p hd hp
    have a1 := zmi_le (f := fun a => zdc e n q m d (zbsd (e (m - 1 - d)).2.1 a)) (p := p) hp
    have a2 := ih (zbsd (e (m - 1 - d)).2.1 p) (by omega) (zbsd_lt (hl _ (by omega)) hp)
    have a3 : zap p p = 0 := by unfold zap; omega
    rw [zdc_s]
    omega
theorem zdc_lip {e : zel} {n q m d p p2 : Nat} (h1 : 1 ≤ n) : zdc e n q m d p ≤ zdc e n q m d p2 + zap p p2 := by
  cases d with
  | zero => show zap p q ≤ zap p2 q + zap p p2; unfold zap; omega
  | succ d =>
    rw [zdc_s, zdc_s]
    obtain ⟨a, ha, ea⟩ := zmi_ex (f := fun a => zdc e n q m d (zbsd (e (m - 1 - d)).2.1 a)) (p := p2) h1
    have a1 := zmi_le (f := fun a => zdc e n q m d (zbsd (e (m - 1 - d)).2.1 a)) (p := p) ha
    have a2 : zap p a ≤ zap p2 a + zap p p2 := by unfold zap; omega
    omega
theorem zapart_n (p i : Nat) : zapart (p : Int) (i : Int) = (zap p i : Int) := by
  unfold zapart zap
  split <;> omega
theorem zbeside_n (a k : Nat) : zbeside (a : Int) (k : Int) = (zbsd k a : Int) := by
  unfold zbeside zbsd
  by_cases c : a = k
  · rw [if_pos (by omega), if_pos c]; omega
  · rw [if_neg (by omega), if_neg c]
    by_cases d : a = k + 1
    · rw [if_pos (by omega), if_pos d]
    · rw [if_neg (by omega), if_neg d]
section
variable {X : List Int} {h : zHP} {K : Option zAV → zHP → Prop} {N : Nat} {A : Nat → Nat × Nat × zel}
/-- needs -/
theorem cm_305 {u q : Nat} {t y : Int} (F : zFin h) (M : zMS h N A) (hu : u < N) (ht : t = (u : Int)) (hq : q < (A u).1) (hy : y = (q : Int)) (k : ∀ h', zFin h' → zfr [150] h h' → (∀ d p, d ≤ (A u).2.1 → p < (A u).1 → h' 150 (7 * ((A u).2.1 - d) + p) = (zdc (A u).2.2 (A u).1 q (A u).2.1 d p : Int)) → K none h') : zC X 305 [zR 108, zI t, zI y] h K := by
  have hN := M.2.1
  obtain ⟨n1, n2⟩ := M.n hu ht
  have hl := (M.2.2 u hu).1
  have hn := hl.1
  have hm := hl.2.1
  have h2 : ∀ i, i < (A u).2.1 → ((A u).2.2 i).2.1 + 2 ≤ (A u).1 := fun i hi => (hl.2.2.2 i hi).2.1
  have rdl : ∀ i, i < (A u).2.1 → ∀ z : Int, z = (i : Int) → h 112 ((200 * t) + z).toNat = (((A u).2.2 i).2.1 : Int) := fun i hi z hz => (M.rd hu ht hi hz).2.1
  generalize (A u).2.2 = e at *
  generalize (A u).2.1 = m at *
  generalize (A u).1 = n at *
  have outer : ∀ (r d : Nat) (h1 : zHP) (x4 : Int), m + 1 - d = r → d ≤ m + 1 → x4 = (m : Int) - d → zFin h1 → zfr [150] h h1 → (∀ d' p, d' < d → p < n → h1 150 (7 * (m - d') + p) = (zdc e n q m d' p : Int)) → zAt X 305 15 0 0 [some (zR 108), some (zI t), some (zI y), some (zI (n : Int)), some (zI x4), none, none, none, none, none] [] zSHc h1 (fun v sh' h' => sh' = zSHc ∧ K v h') := by
    intro r
    induction r with
    | zero =>
      intro d h1 x4 hr hd hx F1 fr D
      exact sg_305_15 (fun _ => ⟨rfl, k h1 F1 fr fun d' p a b => D d' p (by omega) b⟩) (fun a => by omega)
    | succ r ih =>
      intro d h1 x4 hr hd hx F1 fr D
      have mid : ∀ (r2 p : Nat) (h1 : zHP) (x5 : Int), n - p = r2 → p ≤ n → x5 = (p : Int) → zFin h1 → zfr [150] h h1 → (∀ d' p, d' < d → p < n → h1 150 (7 * (m - d') + p) = (zdc e n q m d' p : Int)) → (∀ p', p' < p → h1 150 (7 * (m - d) + p') = (zdc e n q m d p' : Int)) → zAt X 305 23 0 0 [some (zR 108), some (zI t), some (zI y), some (zI (n : Int)), some (zI x4), some (zI x5), none, none, none, none] [] zSHc h1 (fun v sh' h' => sh' = zSHc ∧ K v h') := by
        intro r2
        induction r2 with
        | zero =>
          intro p h1 x5 hr2 hp hx5 F1 fr D E
          refine sg_305_23 (fun _ => by omega) (fun _ => ?_) (fun a => by omega)
          refine ih (d + 1) h1 _ (by omega) (by omega) (by omega) F1 fr fun d' p' a b => ?_
          by_cases c : d' = d
          · rw [c]; exact E p' (by omega)
          · exact D d' p' (by omega) b
        | succ r2 ih2 =>
          intro p h1 x5 hr2 hp hx5 F1 fr D E
          have hp' : p < n := by omega
          refine sg_305_23 (fun a => by omega) (fun a => by omega) (fun _ => ?_)
          have done : ∀ w : Int, w = (zdc e n q m d p : Int) → zAt X 305 23 0 0 [some (zR 108), some (zI t), some (zI y), some (zI (n : Int)), some (zI x4), some (zI (x5 + 1)), none, none, none, none] [] zSHc (zup h1 150 (((7 * x4) + x5).toNat) w) (fun v sh' h' => sh' = zSHc ∧ K v h') := fun w hw => by
            have e1 : ((7 * x4) + x5).toNat = 7 * (m - d) + p := by omega
            rw [e1]
            refine ih2 (p + 1) _ _ (by omega) (by omega) (by omega) (F1.upA zfa_150) (fr.up (by simp)) (fun d' p' a b => ?_) (fun p' a => ?_)
            · rw [zup_k (by omega)]; exact D d' p' a b
            · by_cases c : p' = p
              · rw [c, zup_eq, hw]
              · rw [zup_k (by omega)]; exact E p' (by omega)
          have c109 : h1 109 t.toNat = (n : Int) := by rw [fr 109 (by decide)]; exact n1
          have c110 : h1 110 t.toNat = (m : Int) := by rw [fr 110 (by decide)]; exact n2
          have inner : ∀ (B : Nat → Int), B 0 = -1 → B n = (zdc e n q m d p : Int) → (d = 0 → ∀ i, i < n → B (i + 1) = if i = q then (zap p i : Int) else B i) → (d = 0 → ∀ i, i ≤ q → B i = -1) → (∀ d', d = d' + 1 → ∀ i, i < n → (i ≠ 0 → 0 ≤ B i) ∧ B (i + 1) = if i = 0 then ((zdc e n q m d' (zbsd (e (m - 1 - d')).2.1 i) + zap p i : Nat) : Int) else min (B i) ((zdc e n q m d' (zbsd (e (m - 1 - d')).2.1 i) + zap p i : Nat) : Int)) → ∀ (r3 i : Nat) (x6 x7 : Int), n - i = r3 → i ≤ n → x7 = (i : Int) → x6 = B i → zAt X 305 35 0 0 [some (zR 108), some (zI t), some (zI y), some (zI (n : Int)), some (zI x4), some (zI x5), some (zI x6), some (zI x7), none, none] [] zSHc h1 (fun v sh' h' => sh' = zSHc ∧ K v h') := by
            intro B B0 Bn Bq0 Bq1 Bs r3
            induction r3 with
            | zero =>
              intro i x6 x7 hr3 hi h7 h6
              have ei : i = n := by omega
              subst ei
              have dn := done x6 (h6.trans Bn)
              clear done ih ih2 D E k Bs Bq0 Bq1 rdl h2
              apply sg_305_35 F1 <;> intros <;> (try omega)
              all_goals exact dn
            | succ r3 ih3 =>
              intro i x6 x7 hr3 hi h7 h6
              have hi' : i < n := by omega
              have nx : ∀ w : Int, w = B (i + 1) → zAt X 305 35 0 0 [some (zR 108), some (zI t), some (zI y), some (zI (n : Int)), some (zI x4), some (zI x5), some (zI w), some (zI (x7 + 1)), none, none] [] zSHc h1 (fun v sh' h' => sh' = zSHc ∧ K v h') := fun w hw => ih3 (i + 1) w (x7 + 1) (by omega) (by omega) (by omega) hw
              have ea : zapart x5 x7 = (zap p i : Int) := by rw [hx5, h7]; exact zapart_n p i
              have ea7 : zap p i < 7 := by unfold zap; omega
              cases d with
              | zero =>
                have s1 := Bq0 rfl i hi'
                have s2 := Bq1 rfl i
                clear done ih ih2 ih3 D E k Bs Bq0 Bq1 rdl h2
                by_cases c : i = q
                · rw [if_pos c] at s1
                  have s2 := s2 (by omega)
                  apply sg_305_35 F1 <;> intros <;> (try omega)
                  all_goals exact nx _ (by omega)
                · rw [if_neg c] at s1
                  apply sg_305_35 F1 <;> intros <;> (try omega)
                  all_goals exact nx _ (by omega)
              | succ d' =>
                obtain ⟨s0, s1⟩ := Bs d' rfl i hi'
                have hle := h2 (m - 1 - d') (by omega)
                have r1 : h1 112 (((200 * t) + x4).toNat) = ((e (m - 1 - d')).2.1 : Int) := by rw [fr 112 (by decide)]; exact rdl _ (by omega) _ (by omega)
                have r2 : zbeside x7 (h1 112 (((200 * t) + x4).toNat)) = (zbsd (e (m - 1 - d')).2.1 i : Int) := by rw [r1, h7]; exact zbeside_n _ _
                have hb := zbsd_lt hle hi'
                have r3 := D d' (zbsd (e (m - 1 - d')).2.1 i) (by omega) hb
                have hz := zdc_lt h2 hq d' (zbsd (e (m - 1 - d')).2.1 i) (by omega) hb
                generalize zbsd (e (m - 1 - d')).2.1 i = b at *
                generalize zdc e n q m d' b = w at *
                have r4 : h1 150 ((((7 * x4) + 7) + (zbeside x7 (h1 112 (((200 * t) + x4).toNat)))).toNat) = (w : Int) := by
                  rw [r2, ← r3]
                  congr 1
                  omega
                clear done ih ih2 ih3 D E k Bs Bq0 Bq1 rdl h2 r3
                by_cases c : i = 0
                · rw [if_pos c] at s1
                  rw [c, B0] at h6
                  apply sg_305_35 F1 <;> intros <;> (try omega)
                  all_goals exact nx _ (by omega)
                · rw [if_neg c] at s1
                  have s0 := s0 c
                  apply sg_305_35 F1 <;> intros <;> (try omega)
                  all_goals exact nx _ (by omega)
          cases d with
          | zero =>
            refine inner (fun i => if i ≤ q then -1 else (zap p q : Int)) (if_pos (by omega)) (if_neg (by omega)) (fun _ i hi => ?_) (fun _ i hi => if_pos hi) (fun d' hd => by omega) n 0 _ _ (by omega) (by omega) rfl (if_pos (by omega)).symm
            show (if i + 1 ≤ q then (-1 : Int) else _) = if i = q then _ else (if i ≤ q then (-1 : Int) else _)
            by_cases c : i = q
            · rw [if_pos c, if_neg (by omega), c]
            · rw [if_neg c]
              by_cases c2 : i ≤ q
              · rw [if_pos c2, if_pos (by omega)]
              · rw [if_neg c2, if_neg (by omega)]
          | succ d' =>
            refine inner (fun i => if i = 0 then -1 else (zmi (fun a => zdc e n q m d' (zbsd (e (m - 1 - d')).2.1 a)) p i : Int)) (if_pos rfl) (by rw [zdc_s]; exact if_neg (by omega)) (fun a => by omega) (fun a => by omega) (fun d2 hd i hi => ?_) n 0 _ _ (by omega) (by omega) rfl (if_pos rfl).symm
            have : d2 = d' := by omega
            subst this
            refine ⟨fun c => ?_, ?_⟩
            · show 0 ≤ (if i = 0 then (-1 : Int) else _)
              rw [if_neg c]
              omega
            · show (if i + 1 = 0 then (-1 : Int) else _) = _
              rw [if_neg (by omega), zmi_s]
              by_cases c : i = 0
              · rw [if_pos c, if_pos c, c]
              · rw [if_neg c, if_neg c]
                show _ = min (if i = 0 then (-1 : Int) else _) _
                rw [if_neg c]
                omega
      exact sg_305_15 (fun a => by omega) (fun _ => mid n 0 h1 0 (by omega) (by omega) rfl F1 fr D fun p' a => by omega)
  refine sg_305_0 F (by omega) ?_
  rw [n1, n2]
  exact outer (m + 1) 0 h _ (by omega) (by omega) (by omega) F zfr.rfl fun d' p a => by omega
/-- drawn -/
theorem cm_306 {t v q : Int} (F : zFin h) (M : zMS h N A) (k0 : (∀ u : Nat, u < N → t = (u : Int) → 0 ≤ v → v < ((A u).1 : Int) → 0 ≤ q → q < ((A u).1 : Int) → False) → K (some (zI (-1))) h) (k2 : ∀ u : Nat, u < N → t = (u : Int) → 0 ≤ v → v < ((A u).1 : Int) → 0 ≤ q → q < ((A u).1 : Int) → ¬ zplb (A u).2.2 (A u).2.1 = true → K (some (zI (-2))) h) (k1 : ∀ u : Nat, u < N → t = (u : Int) → 0 ≤ v → v < ((A u).1 : Int) → 0 ≤ q → q < ((A u).1 : Int) → zplb (A u).2.2 (A u).2.1 = true → ∀ h', zFin h' → zfr [150] h h' → (∀ d p, d ≤ (A u).2.1 → p < (A u).1 → h' 150 (7 * ((A u).2.1 - d) + p) = (zdc (A u).2.2 (A u).1 q.toNat (A u).2.1 d p : Int)) → K (some (zI (zdc (A u).2.2 (A u).1 q.toNat (A u).2.1 (A u).2.1 v.toNat : Int))) h') : zC X 306 [zR 108, zI t, zI v, zI q] h K := by
  have hN := M.2.1
  have h0 := M.1
  by_cases ct : 0 ≤ t ∧ t < (N : Int)
  · obtain ⟨u, hu⟩ : ∃ u : Nat, t = (u : Int) := ⟨t.toNat, by omega⟩
    have hu' : u < N := by omega
    obtain ⟨n1, n2⟩ := M.n hu' hu
    have un : ∀ v : Nat, t = (v : Int) → v = u := fun v hv => by omega
    have no : ¬ ((0 ≤ v ∧ v < ((A u).1 : Int)) ∧ 0 ≤ q ∧ q < ((A u).1 : Int)) → zSHc = zSHc ∧ K (some (zI (-1))) h := fun c => ⟨rfl, k0 fun u2 _ a b1 b2 b3 b4 => by
      rw [un u2 a] at b2 b4
      exact c ⟨⟨b1, b2⟩, b3, b4⟩⟩
    refine sg_306_0 F (fun c => by omega) (fun _ => by omega) (fun _ c => no (by rw [n1] at c; exact fun z => c z.1)) (fun _ c1 c2 => ?_) (fun _ _ c => no (by rw [n1] at c; exact fun z => c z.2))
    rw [n1] at c1 c2
    refine cm_245 F M hu' hu (fun pl => ?_) (fun pl => ?_)
    · refine sg_306_33c (fun _ => ?_) (fun a => absurd a (by decide))
      refine cm_305 F M hu' hu (q := q.toNat) (by omega) (by omega) fun h' F' fr D => sg_306_45c F' (by have := (M.2.2 u hu').1.1.2; omega) ⟨rfl, ?_⟩
      have := D (A u).2.1 v.toNat (Nat.le_refl _) (by omega)
      rw [Nat.sub_self, Nat.mul_zero, Nat.zero_add] at this
      rw [this]
      exact k1 u hu' hu c1.1 c1.2 c2.1 c2.2 pl h' F' fr D
    · exact sg_306_33c (fun a => absurd rfl a) (fun _ => ⟨rfl, k2 u hu' hu c1.1 c1.2 c2.1 c2.2 pl⟩)
  · exact sg_306_0 F (fun _ => ⟨rfl, k0 fun u a1 a2 _ _ _ _ => by omega⟩) (fun c => by omega) (fun c => by omega) (fun c => by omega) (fun c => by omega)
end
