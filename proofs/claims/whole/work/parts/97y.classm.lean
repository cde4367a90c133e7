/-! THE REFERENCE: CLASSES -/
theorem zsu_lt {f g : Nat → Nat} {a : Nat} : ∀ {n : Nat}, (∀ i, i < n → f i ≤ g i) → a < n → f a < g a → zsu f n < zsu g n
  | 0, _, h, _ => absurd h (Nat.not_lt_zero _)
  | n + 1, h, ha, hl => by
    have e1 : zsu f (n + 1) = zsu f n + f n := rfl
    have e2 : zsu g (n + 1) = zsu g n + g n := rfl
    have m : zsu f n ≤ zsu g n := zsu_mono fun i hi => h i (by omega)
    have p := h n (by omega)
    by_cases c : a = n
    · rw [c] at hl
      omega
    · have := zsu_lt (n := n) (fun i hi => h i (by omega)) (by omega) hl
      omega
/-- names of classes on the way -/
def zLb (N : Nat) (S : Nat → Nat → Prop) (D : Nat → Int) : Prop := ∀ j, j < N → ∃ m : Nat, D j = (m : Int) ∧ m ≤ j ∧ zrtc N S m j
theorem zLb.up {N v t : Nat} {a : Int} {S : Nat → Nat → Prop} {D D' : Nat → Int} (I : zLb N S D) (hv : v < N) (ht : t < N) (s1 : S v t) (s2 : S t v) (ne : ¬ D t = D v) (ha : a ≤ D v ∧ a ≤ D t ∧ (a = D v ∨ a = D t)) (e : ∀ j, D' j = if j = v then a else if j = t then a else D j) : zLb N S D' ∧ zsu (fun j => (D' j).toNat) N < zsu (fun j => (D j).toNat) N := by
  obtain ⟨m1, e1, l1, r1⟩ := I v hv
  obtain ⟨m2, e2, l2, r2⟩ := I t ht
  have key : ∃ m : Nat, a = (m : Int) ∧ m ≤ v ∧ m ≤ t ∧ zrtc N S m v ∧ zrtc N S m t := by
    rcases ha.2.2 with q | q
    · exact ⟨m1, by omega, l1, by omega, r1, r1.st hv ht s1⟩
    · exact ⟨m2, by omega, by omega, l2, r2.st ht hv s2, r2⟩
  obtain ⟨m, em, k1, k2, k3, k4⟩ := key
  have pt : ∀ j, (D' j).toNat ≤ (D j).toNat := fun j => by
    rw [e j]
    by_cases c1 : j = v
    · rw [if_pos c1, c1]; omega
    · by_cases c2 : j = t
      · rw [if_neg c1, if_pos c2, c2]; omega
      · rw [if_neg c1, if_neg c2]; omega
  refine ⟨fun j hj => ?_, ?_⟩
  · rw [e j]
    by_cases c1 : j = v
    · rw [if_pos c1, c1]; exact ⟨m, em, k1, k3⟩
    · by_cases c2 : j = t
      · rw [if_neg c1, if_pos c2, c2]; exact ⟨m, em, k2, k4⟩
      · rw [if_neg c1, if_neg c2]; exact I j hj
  · rcases ha.2.2 with q | q
    · refine zsu_lt (a := t) (fun j _ => pt j) ht ?_
      show (D' t).toNat < (D t).toNat
      rw [e t]
      by_cases c1 : t = v
      · rw [c1] at ne
        exact absurd rfl ne
      · rw [if_neg c1, if_pos rfl]; omega
    · refine zsu_lt (a := v) (fun j _ => pt j) hv ?_
      show (D' v).toNat < (D v).toNat
      rw [e v, if_pos rfl]; omega
theorem zLb.fin {N v : Nat} {S : Nat → Nat → Prop} {D : Nat → Int} (I : zLb N S D) (R : ∀ a b, a < N → b < N → S a b → D b = D a) (hv : v < N) : D v = (v : Int) ↔ zlea N S v := by
  obtain ⟨m, e, l, r⟩ := I v hv
  constructor
  · intro q u hu ru
    have same : D v = D u := ru (fun j => D j = D u) rfl fun a b ha hb p s => (R a b ha hb s).trans p
    obtain ⟨m2, e2, l2, _⟩ := I u (by omega)
    omega
  · intro z
    by_cases c : m < v
    · exact absurd r (z m c)
    · omega
section
variable {X : List Int} {h : zHP} {K : Option zAV → zHP → Prop}
/-- classes -/
theorem cm_287 {n o : Int} (F : zFin h) (L : zML h) (k0 : ¬ ((2 ≤ n ∧ n ≤ 7) ∧ 0 ≤ o ∧ o < zFc n) → K (some (zI (-1))) h) (k2 : ∀ a b : Nat, (2 ≤ a ∧ a ≤ 7) → b < zfac a → n = (a : Int) → o = (b : Int) → 800 < zTl a b → ∀ h', zWyy h h' → K (some (zI (-2))) h') (k1 : ∀ a b : Nat, (2 ≤ a ∧ a ≤ 7) → b < zfac a → n = (a : Int) → o = (b : Int) → zTl a b ≤ 800 → ∀ h', zWyy h h' → K (some (zI (zclc (zTl a b) (zES a b) (zTl a b) : Int))) h') : zC X 287 [zR 108, zI n, zI o] h K := by
  refine sg_287_0 (cm_or (fun no => sg_287_6c (fun a => absurd rfl a) (fun _ => ⟨rfl, k0 no⟩)) (fun a b ha hb ea eb => sg_287_6c (fun _ => ?_) (fun q => absurd q (by decide))))
  refine cm_lay F L ha ea fun h1 Y1 M1 => ?_
  have h5 := zfac7 ha.2
  have e140 : h1 140 o.toNat = (zTl a b : Int) := by rw [show o.toNat = b by omega]; exact M1.2.2.2.2 b hb
  refine sg_287_16c Y1.1 (by omega) (fun le => ?_) (fun big => ⟨rfl, k2 a b ha hb ea eb (by omega) h1 (zWyy.ly Y1)⟩)
  rw [ea, eb]
  have h8 : zTl a b ≤ 800 := by omega
  refine cm_282 Y1.1 M1 ha.2 hb h8 fun h2 F2 fr2 W2 => ?_
  have M2 := M1.w2 (fr2.mono (by simp))
  have f140 : h2 140 ((b : Int)).toNat = (zTl a b : Int) := by rw [Int.toNat_natCast]; exact M2.2.2.2.2 b hb
  have Y2 := (zWyy.ly Y1).w F2 (fr2.mono (by simp))
  have k1 := k1 a b ha hb ea eb h8
  refine sg_287_38c F2 (by omega) (by omega) ?_
  rw [f140]
  clear k0 k2 Y1 M1 fr2 M2 e140 f140 F L
  have count : ∀ (q v : Nat) (h3 : zHP) (x5 x6 : Int), zTl a b - v = q → v ≤ zTl a b → x5 = (zclc (zTl a b) (zES a b) v : Int) → x6 = (v : Int) → zFin h3 → zfr [147] h2 h3 → (∀ v, v < zTl a b → (h3 147 v = (v : Int) ↔ zlea (zTl a b) (zES a b) v)) → zAt X 287 237 0 0 [some (zR 108), none, none, some (zI (zTl a b : Int)), none, some (zI x5), some (zI x6)] [] zSHc h3 (fun v sh' h' => sh' = zSHc ∧ K v h') := by
    intro q
    induction q with
    | zero =>
      intro v h3 x5 x6 hq hv e5 e6 F3 fr3 R
      have ev : v = zTl a b := by omega
      exact sg_287_237 F3 (fun _ => ⟨rfl, by rw [e5, ev]; exact k1 h3 (Y2.w F3 (fr3.mono (by simp)))⟩) (fun z => by omega) (fun z => by omega) (fun z => by omega) (fun z => by omega) (fun z => by omega) (fun z => by omega) (fun z => by omega)
    | succ q ih =>
      intro v h3 x5 x6 hq hv e5 e6 F3 fr3 R
      have hv2 : v < zTl a b := by omega
      have cl := zclc_le (N := zTl a b) (S := zES a b) v
      have e147 : h3 147 x6.toNat = h3 147 v := by rw [show x6.toNat = v by omega]
      by_cases c : zlea (zTl a b) (zES a b) v
      · have e := (R v hv2).mpr c
        have nx := ih (v + 1) h3 (x5 + 1) (x6 + 1) (by omega) (by omega) (by rw [zclc_y c]; omega) (by omega) F3 fr3 R
        exact sg_287_237 F3 (fun z => by omega) (fun _ => by omega) (fun _ z => by omega) (fun _ z => by omega) (fun _ z => by omega) (fun _ _ => by omega) (fun _ _ => by omega) (fun _ _ => nx)
      · have e : ¬ h3 147 v = (v : Int) := fun z => c ((R v hv2).mp z)
        have nx := ih (v + 1) h3 (x5 + 0) (x6 + 1) (by omega) (by omega) (by rw [zclc_n c]; omega) (by omega) F3 fr3 R
        exact sg_287_237 F3 (fun z => by omega) (fun _ => by omega) (fun _ _ => by omega) (fun _ _ => by omega) (fun _ _ => nx) (fun _ z => by omega) (fun _ z => by omega) (fun _ z => by omega)
  have round : ∀ (m : Nat) (h0 : zHP), zsu (fun j => (h0 147 j).toNat) (zTl a b) < m → zFin h0 → zfr [147] h2 h0 → zLb (zTl a b) (zES a b) (fun j => h0 147 j) → zAt X 287 73 0 0 [some (zR 108), none, none, some (zI (zTl a b : Int)), some (zI 1), none, none] [] zSHc h0 (fun v sh' h' => sh' = zSHc ∧ K v h') := by
    intro m
    induction m with
    | zero => intro h0 hm; omega
    | succ m ihm =>
      intro h0 hm F0 fr0 I0
      have pass : ∀ (r c : Nat) (h1 : zHP) (x4 x5 : Int), 21 * zTl a b - c = r → c ≤ 21 * zTl a b → x5 = (c : Int) → zFin h1 → zfr [147] h2 h1 → zLb (zTl a b) (zES a b) (fun j => h1 147 j) → zsu (fun j => (h1 147 j).toNat) (zTl a b) ≤ m → ((x4 = 0 ∧ ∀ v i, i < 21 → 21 * v + i < c → zisS a b v i → h1 147 (zslr a b v i) = h1 147 v) ∨ (x4 = 1 ∧ zsu (fun j => (h1 147 j).toNat) (zTl a b) < m)) → zAt X 287 84 0 0 [some (zR 108), none, none, some (zI (zTl a b : Int)), some (zI x4), some (zI x5), none] [] zSHc h1 (fun v sh' h' => sh' = zSHc ∧ K v h') := by
        intro r
        induction r with
        | zero =>
          intro c h1 x4 x5 hr hv e5 F1 fr1 I1 mu C
          refine sg_287_84 F1 (by omega) (fun _ => ?_) (fun z => by omega) (fun z => by omega) (fun z => by omega) (fun z => by omega) (fun z => by omega) (fun z => by omega) (fun z => by omega) (fun z => by omega) (fun z => by omega) (fun z => by omega) (fun z => by omega) (fun z => by omega) (fun z => by omega) (fun z => by omega)
          rcases C with ⟨c1, c2⟩ | ⟨c1, c2⟩
          · refine sg_287_73 (fun _ => count _ 0 h1 0 0 rfl (Nat.zero_le _) rfl rfl F1 fr1 fun v hv => ?_) (fun z => absurd c1 z)
            refine zLb.fin I1 (fun u w hu hw s => ?_) hv
            obtain ⟨i, s1, s2⟩ := s
            have m21 := zinvs_le (o := b) ha.2
            have s3 := s1.1
            show h1 147 w = h1 147 u
            rw [← s2]
            exact c2 u i (by omega) (by omega) s1
          · rw [c1]
            exact ihm h1 c2 F1 fr1 I1
        | succ r ihr =>
          intro c h1 x4 x5 hr hv e5 F1 fr1 I1 mu C
          obtain ⟨v, i, hi, ec⟩ : ∃ v i, i < 21 ∧ c = 21 * v + i := ⟨c / 21, c % 21, by omega, by omega⟩
          have hv2 : v < zTl a b := by omega
          have w := W2.fr fr1 v i hi (by omega)
          unfold zWa1 at w
          have e7 : x5.toNat = 21 * v + i := by omega
          have e8 : (x5 / 21).toNat = v := by omega
          rw [← e7] at w
          have skip : (zisS a b v i → h1 147 (zslr a b v i) = h1 147 v) → zAt X 287 84 0 0 [some (zR 108), none, none, some (zI (zTl a b : Int)), some (zI x4), some (zI (x5 + 1)), none] [] zSHc h1 (fun v sh' h' => sh' = zSHc ∧ K v h') := fun rx => ihr (c + 1) h1 x4 (x5 + 1) (by omega) (by omega) (by omega) F1 fr1 I1 mu (by
            rcases C with ⟨c1, c2⟩ | c1
            · refine Or.inl ⟨c1, fun v' i' p q s => ?_⟩
              by_cases d : 21 * v' + i' < c
              · exact c2 v' i' p d s
              · have ev : v' = v := by omega
                have ei : i' = i := by omega
                rw [ev, ei] at s ⊢
                exact rx s
            · exact Or.inr c1)
          by_cases S : zisS a b v i
          · obtain ⟨e145, e146⟩ := w.1 S
            have ht := (zslr_ok hb hv2 S).1
            have bk := zslr_back hb hv2 S
            obtain ⟨d1, g1, -, -⟩ := I1 v hv2
            obtain ⟨d2, g2, -, -⟩ := I1 _ ht
            have g1 : h1 147 v = (d1 : Int) := g1
            have g2 : h1 147 (zslr a b v i) = (d2 : Int) := g2
            have et : h1 147 ((h1 145 x5.toNat).toNat) = h1 147 (zslr a b v i) := by rw [e145, Int.toNat_natCast]
            have ev : h1 147 ((x5 / 21).toNat) = h1 147 v := by rw [e8]
            have put : ∀ y : Int, ¬ h1 147 (zslr a b v i) = h1 147 v → y ≤ h1 147 v → y ≤ h1 147 (zslr a b v i) → (y = h1 147 v ∨ y = h1 147 (zslr a b v i)) → zAt X 287 84 0 0 [some (zR 108), none, none, some (zI (zTl a b : Int)), some (zI 1), some (zI (x5 + 1)), none] [] zSHc (zup (zup h1 147 ((h1 145 x5.toNat).toNat) y) 147 ((x5 / 21).toNat) y) (fun v sh' h' => sh' = zSHc ∧ K v h') := fun y ne l1 l2 oy => by
              rw [e145, Int.toNat_natCast, e8]
              obtain ⟨u1, u2⟩ := zLb.up (D' := fun j => zup (zup h1 147 (zslr a b v i) y) 147 v y 147 j) I1 hv2 ht ⟨i, S, rfl⟩ ⟨i, bk.1, bk.2⟩ ne ⟨l1, l2, oy⟩ fun j => by
                show zup (zup h1 147 (zslr a b v i) y) 147 v y 147 j = if j = v then y else if j = zslr a b v i then y else h1 147 j
                by_cases c1 : j = v
                · rw [c1, zup_eq, if_pos rfl]
                · rw [zup_k c1, if_neg c1]
                  by_cases c2 : j = zslr a b v i
                  · rw [c2, zup_eq, if_pos rfl]
                  · rw [zup_k c2, if_neg c2]
              exact ihr (c + 1) _ 1 (x5 + 1) (by omega) (by omega) (by omega) ((F1.upA zfa_147).upA zfa_147) ((fr1.up (by simp)).up (by simp)) u1 (Nat.le_trans (Nat.le_of_lt u2) mu) (Or.inr ⟨rfl, Nat.lt_of_lt_of_le u2 mu⟩)
            clear w W2 ihr ihm I1 I0 C count
            exact sg_287_84 F1 (by omega) (fun z => by omega) (fun _ => by omega) (fun _ z => by omega) (fun _ z => by omega) (fun _ _ z => absurd e146 z) (fun _ _ z => absurd e146 z) (fun _ _ _ => by omega) (fun _ _ _ => by omega) (fun _ _ _ => by omega) (fun _ _ _ _ _ => by omega) (fun _ _ _ p q => put _ (by omega) (by omega) (by omega) (by omega)) (fun _ _ _ _ _ => by omega) (fun _ _ _ p q => put _ (by omega) (by omega) (by omega) (by omega)) (fun _ _ _ _ => by omega) (fun _ _ _ p => skip fun _ => by omega)
          · have sk := skip fun z => absurd z S
            by_cases T : zisT a b v i
            · obtain ⟨e145, e146⟩ := w.2.1 T
              clear w W2 ihr ihm I1 I0 C count skip
              exact sg_287_84 F1 (by omega) (fun z => by omega) (fun _ => by omega) (fun _ z => by omega) (fun _ z => by omega) (fun _ _ _ => by omega) (fun _ _ _ => sk) (fun _ _ z => by omega) (fun _ _ z => by omega) (fun _ _ z => by omega) (fun _ _ z => by omega) (fun _ _ z => by omega) (fun _ _ z => by omega) (fun _ _ z => by omega) (fun _ _ z => by omega) (fun _ _ z => by omega)
            · have e145 := w.2.2 S T
              clear w W2 ihr ihm I1 I0 C count skip
              exact sg_287_84 F1 (by omega) (fun z => by omega) (fun _ => by omega) (fun _ _ => by omega) (fun _ _ => sk) (fun _ z => by omega) (fun _ z => by omega) (fun _ z => by omega) (fun _ z => by omega) (fun _ z => by omega) (fun _ z => by omega) (fun _ z => by omega) (fun _ z => by omega) (fun _ z => by omega) (fun _ z => by omega) (fun _ z => by omega)
      exact sg_287_73 (fun z => absurd z (by decide)) (fun _ => pass _ 0 h0 0 0 rfl (Nat.zero_le _) rfl F0 fr0 I0 (by omega) (Or.inl ⟨rfl, fun v i _ z => absurd z (Nat.not_lt_zero _)⟩))
  have init : ∀ (r v : Nat) (h1 : zHP) (x4 : Int), zTl a b - v = r → v ≤ zTl a b → x4 = (v : Int) → zFin h1 → zfr [147] h2 h1 → (∀ j, j < v → h1 147 j = (j : Int)) → zAt X 287 49 0 0 [some (zR 108), none, none, some (zI (zTl a b : Int)), some (zI x4), none, none] [] zSHc h1 (fun v sh' h' => sh' = zSHc ∧ K v h') := by
    intro r
    induction r with
    | zero =>
      intro v h1 x4 hr hv e4 F1 fr1 C
      exact sg_287_49 F1 (fun _ => round _ h1 (Nat.lt_succ_self _) F1 fr1 fun j hj => ⟨j, C j (by omega), Nat.le_refl _, zrtc.rf⟩) (fun z => by omega) (fun z => by omega) (fun z => by omega)
    | succ r ih =>
      intro v h1 x4 hr hv e4 F1 fr1 C
      refine sg_287_49 F1 (fun z => by omega) (fun _ => by omega) (fun _ => by omega) (fun _ => ?_)
      rw [show x4.toNat = v by omega, e4]
      refine ih (v + 1) _ _ (by omega) (by omega) (by omega) (F1.upA zfa_147) (fr1.up (by simp)) fun j hj => ?_
      by_cases q : j = v
      · rw [q, zup_eq]
      · rw [zup_k q]; exact C j (by omega)
  exact init _ 0 h2 0 rfl (Nat.zero_le _) rfl F2 zfr.rfl fun j hj => absurd hj (Nat.not_lt_zero _)
end
