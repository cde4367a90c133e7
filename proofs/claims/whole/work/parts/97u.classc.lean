/-! CLASSES OF WORDS UNDER SLIDES; THE CLASS -/
/-- what is reached from i -/
def zrtc (N : Nat) (S : Nat → Nat → Prop) (i j : Nat) : Prop := ∀ P : Nat → Prop, P i → (∀ a b, a < N → b < N → P a → S a b → P b) → P j
/-- the least of its class -/
def zlea (N : Nat) (S : Nat → Nat → Prop) (v : Nat) : Prop := ∀ u, u < v → ¬ zrtc N S u v
noncomputable def zclc (N : Nat) (S : Nat → Nat → Prop) (i : Nat) : Nat := zsu (fun v => @ite Nat (zlea N S v) (Classical.propDecidable _) 1 0) i
theorem zrtc.rf {N i : Nat} {S : Nat → Nat → Prop} : zrtc N S i i := fun _ a _ => a
theorem zrtc.st {N i j k : Nat} {S : Nat → Nat → Prop} (r : zrtc N S i j) (hj : j < N) (hk : k < N) (s : S j k) : zrtc N S i k := fun P a b => b j k hj hk (r P a b) s
theorem zrtc.tr {N i j k : Nat} {S : Nat → Nat → Prop} (r : zrtc N S i j) (t : zrtc N S j k) : zrtc N S i k := fun P a b => t P (r P a b) b
theorem zrtc.sy {N i j : Nat} {S : Nat → Nat → Prop} (hs : ∀ a b, a < N → b < N → S a b → S b a) (r : zrtc N S i j) : zrtc N S j i := r (fun k => zrtc N S k i) zrtc.rf fun a b ha hb p s => (zrtc.st zrtc.rf hb ha (hs a b ha hb s)).tr p
theorem zclc_y {N i : Nat} {S : Nat → Nat → Prop} (h : zlea N S i) : zclc N S (i + 1) = zclc N S i + 1 := by
  show zsu _ i + @ite Nat (zlea N S i) (Classical.propDecidable _) 1 0 = zsu _ i + 1
  rw [if_pos h]
theorem zclc_n {N i : Nat} {S : Nat → Nat → Prop} (h : ¬ zlea N S i) : zclc N S (i + 1) = zclc N S i := by
  show zsu _ i + @ite Nat (zlea N S i) (Classical.propDecidable _) 1 0 = zsu _ i
  rw [if_neg h]
  exact Nat.add_zero _
theorem zclc_le {N : Nat} {S : Nat → Nat → Prop} : ∀ i, zclc N S i ≤ i
  | 0 => Nat.le_refl _
  | i + 1 => by
    have a := zclc_le (N := N) (S := S) i
    by_cases c : zlea N S i
    · rw [zclc_y c]; omega
    · rw [zclc_n c]; omega
theorem zBS.at {h : zHP} {N : Nat} {L : List Nat} {D : Nat → Int} (B : zBS h N L D) {j : Nat} (hj : j < N) (hd : D j ≠ -1) : ∃ q, q < L.length ∧ L.getD q 0 = j := by
  obtain ⟨q, hq, e⟩ := List.getElem_of_mem ((B.2.2.2.2 j).mpr ⟨hj, hd⟩)
  exact ⟨q, hq, by rw [List.getD_eq_getElem?_getD, List.getElem?_eq_getElem hq]; exact e⟩
section
variable {X : List Int} {h : zHP} {K : Option zAV → zHP → Prop}
/-- slideClasses -/
theorem cx_150 {n o : Nat} (F : zFin h) (G : zGG h n o) (k : ∀ h', zGz h h' → K (some (zI (zclc (zTl n o) (zES n o) (zTl n o) : Int))) h') : zC X 150 [zR 24] h K := by
  have h8 := G.2.2.1
  have main : ∀ (q i : Nat) (h1 : zHP) (L : List Nat) (D : Nat → Int) (x1 x2 x3 : Int), zTl n o - i = q → i ≤ zTl n o → x1 = (zclc (zTl n o) (zES n o) i : Int) → x2 = (L.length : Int) → x3 = (i : Int) → zGz h h1 → zBS h1 (zTl n o) L D → (∀ j, j < zTl n o → D j ≠ -1 → ∃ m, m < i ∧ zrtc (zTl n o) (zES n o) m j) → (∀ m, m < i → D m ≠ -1) → (∀ j k, j < zTl n o → k < zTl n o → D j ≠ -1 → zES n o j k → D k ≠ -1) → zAt X 150 10 0 0 [some (zR 24), some (zI x1), some (zI x2), some (zI x3)] [] zSHc h1 (fun v sh' h' => sh' = zSHc ∧ K v h') := by
    intro q
    induction q with
    | zero =>
      intro i h1 L D x1 x2 x3 hq hi e1 e2 e3 Z B s1 s2 s3
      have e5 : h1 24 5 = (zTl n o : Int) := (G.gz Z).2.2.2.1
      have ei : i = zTl n o := by omega
      exact sg_150_10 Z.1 (fun _ => ⟨rfl, by rw [e1, ei]; exact k h1 Z⟩) (fun z => by omega) (fun z => by omega) (fun z => by omega) (fun z => by omega) (fun z => by omega)
    | succ q ih =>
      intro i h1 L D x1 x2 x3 hq hi e1 e2 e3 Z B s1 s2 s3
      have e5 : h1 24 5 = (zTl n o : Int) := (G.gz Z).2.2.2.1
      have hiN : i < zTl n o := by omega
      have e26 : h1 26 x3.toNat = D i := by rw [show x3.toNat = i by omega]; exact B.2.2.1 i hiN
      have cl := zclc_le (N := zTl n o) (S := zES n o) i
      have stop : ∀ (a : Nat) (h2 : zHP) (L2 : List Nat) (D2 : Nat → Int) (y1 y2 : Int), L2.length ≤ a → a ≤ L2.length → y1 = (zclc (zTl n o) (zES n o) (i + 1) : Int) → y2 = (a : Int) → zGz h h2 → zBS h2 (zTl n o) L2 D2 → (∀ j, j < zTl n o → D2 j ≠ -1 → ∃ m, m < i + 1 ∧ zrtc (zTl n o) (zES n o) m j) → (∀ m, m < i + 1 → D2 m ≠ -1) → (∀ p, p < a → ∀ k, k < zTl n o → zES n o (L2.getD p 0) k → D2 k ≠ -1) → zAt X 150 46 0 0 [some (zR 24), some (zI y1), some (zI y2), some (zI x3)] [] zSHc h2 (fun v sh' h' => sh' = zSHc ∧ K v h') := fun a h2 L2 D2 y1 y2 l1 l2 f1 f2 Z2 B2 t1 t2 t3 => by
        have e7 := B2.1
        have len := B2.len
        have nx := ih (i + 1) h2 L2 D2 y1 y2 (x3 + 1) (by omega) (by omega) f1 (by omega) (by omega) Z2 B2 t1 t2 (fun j k hj hk hd s => by
          obtain ⟨p, hp, ep⟩ := B2.at hj hd
          rw [← ep] at s
          exact t3 p (by omega) k hk s)
        exact sg_150_46 Z2.1 (fun _ => by omega) (fun _ => nx) (fun z => by omega) (fun z => by omega) (fun z => by omega) (fun z => by omega)
      have inner : ∀ (q2 a : Nat) (h2 : zHP) (L2 : List Nat) (D2 : Nat → Int) (y1 y2 : Int), zTl n o - a = q2 → a ≤ L2.length → y1 = (zclc (zTl n o) (zES n o) (i + 1) : Int) → y2 = (a : Int) → zGz h h2 → zBS h2 (zTl n o) L2 D2 → (∀ j, j < zTl n o → D2 j ≠ -1 → ∃ m, m < i + 1 ∧ zrtc (zTl n o) (zES n o) m j) → (∀ m, m < i + 1 → D2 m ≠ -1) → (∀ p, p < a → ∀ k, k < zTl n o → zES n o (L2.getD p 0) k → D2 k ≠ -1) → zAt X 150 46 0 0 [some (zR 24), some (zI y1), some (zI y2), some (zI x3)] [] zSHc h2 (fun v sh' h' => sh' = zSHc ∧ K v h') := by
        intro q2
        induction q2 with
        | zero =>
          intro a h2 L2 D2 y1 y2 hq2 ha f1 f2 Z2 B2 t1 t2 t3
          have len := B2.len
          exact stop a h2 L2 D2 y1 y2 (by omega) ha f1 f2 Z2 B2 t1 t2 t3
        | succ q2 ih2 =>
          intro a h2 L2 D2 y1 y2 hq2 ha f1 f2 Z2 B2 t1 t2 t3
          have e7 := B2.1
          have len := B2.len
          by_cases done : L2.length ≤ a
          · exact stop a h2 L2 D2 y1 y2 done ha f1 f2 Z2 B2 t1 t2 t3
          · obtain ⟨rd1, rd2, rd3⟩ := B2.rd (i := a) (by omega)
            have e27 : h2 27 y2.toNat = ((L2.getD a 0 : Nat) : Int) := by rw [show y2.toNat = a by omega]; exact rd3
            refine sg_150_46 Z2.1 (fun z => by omega) (fun z => by omega) (fun _ z => by omega) (fun _ z => by omega) (fun _ _ => by omega) (fun _ _ => ?_)
            refine cx_153 (r := L2.getD a 0) Z2.1 (G.gz Z2) rd1 e27 (by decide) B2 fun h3 L3 D3 R3 B3 Z3 => sg_150_74c (by omega) ?_
            have len3 := R3.len
            refine ih2 (a + 1) h3 L3 D3 y1 _ (by omega) (by omega) f1 (by omega) (Z2.tr Z3) B3 (fun j hj hd => ?_) (fun m hm => ?_) (fun p hp k hk s => ?_)
            · rcases R3.new hd with ⟨w1, _⟩ | ⟨_, w2, _⟩
              · exact t1 j hj w1
              · obtain ⟨m, m1, m2⟩ := t1 _ rd1 rd2
                exact ⟨m, m1, m2.st rd1 hj w2⟩
            · have u := t2 m hm
              rw [R3.keep u]
              exact u
            · by_cases c : p < a
              · rw [R3.old (by omega)] at s
                have u := t3 p c k hk s
                rw [R3.keep u]
                exact u
              · have ep : p = a := by omega
                rw [ep, R3.old (by omega)] at s
                exact R3.got (by decide) hk s
      by_cases c : D i = -1
      · have le : zlea (zTl n o) (zES n o) i := fun u hu r => (r (fun j => D j ≠ -1) (s2 u hu) fun a b ha hb pa s => s3 a b ha hb pa s) c
        refine sg_150_10 Z.1 (fun z => by omega) (fun _ z => by omega) (fun _ _ => by omega) (fun _ _ z => absurd (e26.trans c) z) (fun _ _ _ => by omega) (fun _ _ _ => ?_)
        refine cx_152 (i := i) Z.1 e5 h8 B hiN e3 fun h2 L2 D2 R2 B2 Z2 => ?_
        have B2 := B2 (by decide)
        refine inner _ L.length h2 L2 D2 _ x2 rfl R2.len (by rw [zclc_y le]; omega) e2 (Z.tr Z2) B2 (fun j hj hd => ?_) (fun m hm => ?_) (fun p hp k hk s => ?_)
        · rcases R2.new hd with ⟨w1, _⟩ | ⟨_, w2, _⟩
          · obtain ⟨m, m1, m2⟩ := s1 j hj w1
            exact ⟨m, by omega, m2⟩
          · exact ⟨i, by omega, by rw [w2]; exact zrtc.rf⟩
        · by_cases d : m < i
          · have u := s2 m d
            rw [R2.keep u]
            exact u
          · have em : m = i := by omega
            exact R2.got (by decide) (by omega) em
        · rw [R2.old hp] at s
          obtain ⟨rd1, rd2, _⟩ := B.rd hp
          have u := s3 _ k rd1 hk rd2 s
          rw [R2.keep u]
          exact u
      · have nl : ¬ zlea (zTl n o) (zES n o) i := fun z => by
          obtain ⟨m, m1, m2⟩ := s1 i hiN c
          exact z m m1 m2
        refine sg_150_10 Z.1 (fun z => by omega) (fun _ z => by omega) (fun _ _ => by omega) (fun _ _ _ => ?_) (fun _ _ z => absurd (e26.symm.trans z) c) (fun _ _ z => absurd (e26.symm.trans z) c)
        refine inner _ L.length h1 L D x1 x2 rfl (Nat.le_refl _) (by rw [zclc_n nl]; exact e1) e2 Z B (fun j hj hd => ?_) (fun m hm => ?_) (fun p hp k hk s => ?_)
        · obtain ⟨m, m1, m2⟩ := s1 j hj hd
          exact ⟨m, by omega, m2⟩
        · by_cases d : m < i
          · exact s2 m d
          · have em : m = i := by omega
            rw [em]
            exact c
        · obtain ⟨rd1, rd2, _⟩ := B.rd hp
          exact s3 _ k rd1 hk rd2 s
  refine sg_150_0 (cx_151 F h8 fun h1 B1 Z1 => sg_150_4c ?_)
  exact main _ 0 h1 [] _ 0 0 0 rfl (Nat.zero_le _) rfl rfl rfl Z1 B1 (fun j hj hd => absurd rfl hd) (fun m hm => absurd hm (Nat.not_lt_zero _)) (fun j k hj hk hd s => absurd rfl hd)
/-- classes -/
theorem cx_179 {n o : Int} (F : zFin h) (T : zOT h) (C : zCO h) (G : zGL h) (k0 : ¬ ((2 ≤ n ∧ n ≤ 7) ∧ 0 ≤ o ∧ o < zFc n) → K (some (zI (-1))) h) (k2 : ∀ a b : Nat, (2 ≤ a ∧ a ≤ 7) → b < zfac a → n = (a : Int) → o = (b : Int) → 800 < zTl a b → ∀ h', zGy h h' → K (some (zI (-2))) h') (k1 : ∀ a b : Nat, (2 ≤ a ∧ a ≤ 7) → b < zfac a → n = (a : Int) → o = (b : Int) → zTl a b ≤ 800 → ∀ h', zGy h h' → K (some (zI (zclc (zTl a b) (zES a b) (zTl a b) : Int))) h') : zC X 179 [zR 0, zI n, zI o] h K := by
  refine sg_179_0 F (fun c => ?_) (fun c => ⟨rfl, k0 c⟩)
  obtain ⟨c1, c4, c5⟩ := c
  have ho : o.toNat < zfac n.toNat := by unfold zFc at c5; omega
  obtain ⟨a, ea⟩ : ∃ a : Nat, n = (a : Int) := ⟨n.toNat, by omega⟩
  obtain ⟨b, eb⟩ : ∃ b : Nat, o = (b : Int) := ⟨o.toNat, by omega⟩
  rw [ea, eb, Int.toNat_natCast, Int.toNat_natCast] at ho
  rw [ea, eb]
  refine cx_148 F T C G (by omega) ho (fun big h1 Y1 => sg_179_23c Y1.1 (fun _ => ⟨rfl, k2 a b (by omega) ho ea eb big h1 Y1⟩) (fun q => absurd rfl q)) (fun le h1 Y1 GG => sg_179_23c Y1.1 (fun q => absurd q (by decide)) (fun _ => ?_))
  exact cx_150 Y1.1 GG fun h2 Z2 => sg_179_33c ⟨rfl, k1 a b (by omega) ho ea eb le h2 (Y1.gz Z2)⟩
end
