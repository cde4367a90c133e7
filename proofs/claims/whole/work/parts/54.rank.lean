/-! LEAST LADDERS IN THEIR ORDER -/
/-- the least ladders that begin with leg k -/
def zdn (n v k : Nat) : Nat := if zp n v (k + 1) < zp n v k then zTl n (zrn n k v) else 0
def zpk (n v : Nat) : Nat → Nat → Nat → Nat × Nat
  | 0, r, k => (k, r)
  | f + 1, r, k => if r < zdn n v k then (k, r) else zpk n v f (r - zdn n v k) (k + 1)
theorem zpk_ok {n v : Nat} : ∀ (f r k : Nat), r < zsu (fun j => zdn n v (k + j)) f → k ≤ (zpk n v f r k).1 ∧ (zpk n v f r k).1 < k + f ∧ (zpk n v f r k).2 < zdn n v (zpk n v f r k).1 ∧ r + zsu (zdn n v) k = (zpk n v f r k).2 + zsu (zdn n v) (zpk n v f r k).1
  | 0, r, k, h => absurd h (Nat.not_lt_zero _)
  | f + 1, r, k, h => by
    have e : zpk n v (f + 1) r k = if r < zdn n v k then (k, r) else zpk n v f (r - zdn n v k) (k + 1) := rfl
    by_cases c : r < zdn n v k
    · rw [e, if_pos c]
      exact ⟨Nat.le_refl _, by show k < k + (f + 1); omega, c, rfl⟩
    · rw [e, if_neg c]
      rw [zsu_shift] at h
      have e1 : zsu (fun i => zdn n v (k + (i + 1))) f = zsu (fun j => zdn n v (k + 1 + j)) f := zsu_congr fun i _ => by rw [show k + (i + 1) = k + 1 + i by omega]
      have e2 : zsu (zdn n v) (k + 1) = zsu (zdn n v) k + zdn n v k := rfl
      rw [e1, Nat.add_zero] at h
      obtain ⟨a1, a2, a3, a4⟩ := zpk_ok (n := n) (v := v) f (r - zdn n v k) (k + 1) (by omega)
      exact ⟨by omega, by omega, a3, by omega⟩
theorem zTl_dn {n v : Nat} (hv : v < zfac n) (h0 : v ≠ 0) : zTl n v = zsu (zdn n v) (n - 1) := zTl_rec2 hv h0
theorem zdn_pos {n v k : Nat} (h : 0 < zdn n v k) : zp n v (k + 1) < zp n v k ∧ zdn n v k = zTl n (zrn n k v) := by
  unfold zdn at h ⊢
  by_cases c : zp n v (k + 1) < zp n v k
  · rw [if_pos c]; exact ⟨c, rfl⟩
  · rw [if_neg c] at h; omega
theorem zdn_le {n v : Nat} (hv : v < zfac n) (hn : n ≤ 7) {l : Nat} (hl : l ≤ n - 1) : zsu (zdn n v) l ≤ 21936950640377856 := by
  have := zrs_le hv hn hl
  have e : zrs n v l = (if zinvs n v = 0 then 1 else 0) + zsu (zdn n v) l := rfl
  omega
theorem zpk_at {n v r : Nat} (hv : v < zfac n) (h0 : v ≠ 0) (hr : r < zTl n v) : (zpk n v (n - 1) r 0).1 + 2 ≤ n ∧ zp n v ((zpk n v (n - 1) r 0).1 + 1) < zp n v (zpk n v (n - 1) r 0).1 ∧ (zpk n v (n - 1) r 0).2 < zTl n (zrn n (zpk n v (n - 1) r 0).1 v) ∧ r = (zpk n v (n - 1) r 0).2 + zsu (zdn n v) (zpk n v (n - 1) r 0).1 := by
  rw [zTl_dn hv h0] at hr
  obtain ⟨a1, a2, a3, a4⟩ := zpk_ok (n := n) (v := v) (n - 1) r 0 (by
    rw [zsu_congr (g := zdn n v) (fun i _ => by rw [Nat.zero_add])]; exact hr)
  obtain ⟨b1, b2⟩ := zdn_pos (Nat.lt_of_le_of_lt (Nat.zero_le _) a3)
  rw [b2] at a3
  have e : zsu (zdn n v) 0 = 0 := rfl
  exact ⟨by omega, b1, a3, by omega⟩
/-- where the walk down stands behind i legs, and what rank is left -/
def zun (n v r : Nat) : Nat → Nat × Nat
  | 0 => (v, r)
  | i + 1 => (zrn n (zpk n (zun n v r i).1 (n - 1) (zun n v r i).2 0).1 (zun n v r i).1, (zpk n (zun n v r i).1 (n - 1) (zun n v r i).2 0).2)
def zlet (n v r i : Nat) : Nat := (zpk n (zun n v r i).1 (n - 1) (zun n v r i).2 0).1
theorem zun_ok {n v r : Nat} (hv : v < zfac n) (hr : r < zTl n v) : ∀ i, i ≤ zinvs n v → (zun n v r i).1 < zfac n ∧ (zun n v r i).2 < zTl n (zun n v r i).1 ∧ zinvs n (zun n v r i).1 + i = zinvs n v
  | 0, _ => ⟨hv, hr, rfl⟩
  | i + 1, h => by
    obtain ⟨a1, a2, a3⟩ := zun_ok hv hr i (by omega)
    have h0 : (zun n v r i).1 ≠ 0 := fun z => by rw [z, zinvs_0] at a3; omega
    obtain ⟨b1, b2, b3, b4⟩ := zpk_at a1 h0 a2
    have b5 := zrn_inv a1 b1 b2
    exact ⟨zrn_lt a1 b1, b3, by show zinvs n (zrn n _ _) + (i + 1) = _; omega⟩
theorem zlet_lt {n v r : Nat} (hv : v < zfac n) (hr : r < zTl n v) {i : Nat} (hi : i < zinvs n v) : zlet n v r i + 2 ≤ n ∧ zp n (zun n v r i).1 (zlet n v r i + 1) < zp n (zun n v r i).1 (zlet n v r i) := by
  obtain ⟨a1, a2, a3⟩ := zun_ok hv hr i (by omega)
  have h0 : (zun n v r i).1 ≠ 0 := fun z => by rw [z, zinvs_0] at a3; omega
  obtain ⟨b1, b2, b3, b4⟩ := zpk_at a1 h0 a2
  exact ⟨b1, b2⟩
/-- the walk down along given legs, and its rank -/
def zrkv (n v : Nat) (f : Nat → Nat) : Nat → Nat
  | 0 => v
  | i + 1 => zrn n (f i) (zrkv n v f i)
def zrks (n v : Nat) (f : Nat → Nat) (m : Nat) : Nat := zsu (fun i => zsu (zdn n (zrkv n v f i)) (f i)) m
theorem zrkv_lt {n v : Nat} {f : Nat → Nat} (hv : v < zfac n) : ∀ i, (∀ j, j < i → f j + 2 ≤ n) → zrkv n v f i < zfac n
  | 0, _ => hv
  | i + 1, h => zrn_lt (zrkv_lt hv i fun j hj => h j (by omega)) (h i (by omega))
theorem zrks_le {n v : Nat} {f : Nat → Nat} (hv : v < zfac n) (hn : n ≤ 7) : ∀ m, (∀ j, j < m → f j + 2 ≤ n) → zrks n v f m ≤ m * 21936950640377856
  | 0, _ => Nat.zero_le _
  | m + 1, h => by
    have h1 := zrks_le hv hn m fun j hj => h j (by omega)
    have h2 := h m (by omega)
    have h3 := zdn_le (zrkv_lt hv m fun j hj => h j (by omega)) hn (l := f m) (by omega)
    have e : zrks n v f (m + 1) = zrks n v f m + zsu (zdn n (zrkv n v f m)) (f m) := rfl
    omega
section
variable {X : List Int} {h : zHP} {K : Option zAV → zHP → Prop} {N : Nat} {A : Nat → Nat × Nat × zel}
/-- unrank: one leg is looked for -/
theorem cm_273b {n v : Nat} {y x8 x9 : Int} {Q : zPO} (F : zFin h) (M : zMO h n) (hn : n ≤ 7) (hv : v < zfac n) (hy : y = (v : Int)) : ∀ (f r k : Nat) (x z : Int), r ≤ 21936950640377856 → f + k = n - 1 → r < zsu (fun j => zdn n v (k + j)) f → x = (r : Int) → z = (k : Int) → zAt X 273 30 0 0 [some (zR 108), some (zI (n : Int)), none, none, none, some (zI y), some (zL ((zpk n v f r k).2 : Int)), none, some (zI x8), some (zI x9), some (zI ((zpk n v f r k).1 : Int)), some (zI 1), none, none] [] zSHc h Q → zAt X 273 30 0 0 [some (zR 108), some (zI (n : Int)), none, none, none, some (zI y), some (zL x), none, some (zI x8), some (zI x9), some (zI z), some (zI 0), none, none] [] zSHc h Q
  | 0, r, k, x, z, _, _, hr, _, _, _ => absurd hr (Nat.not_lt_zero _)
  | f + 1, r, k, x, z, hrb, hf, hr, hx, hz, q => by
    have h5 := zfac7 hn
    have hk : k + 2 ≤ n := by omega
    have e : zpk n v (f + 1) r k = if r < zdn n v k then (k, r) else zpk n v f (r - zdn n v k) (k + 1) := rfl
    have hw := zrn_lt hv hk
    have e1 : h 138 (6 * y + z).toNat = (zrn n k v : Int) := by rw [show (6 * y + z).toNat = 6 * v + k by omega]; exact (M.2.2.1 v hv k hk).2
    have e2 : h 140 (h 138 (6 * y + z).toNat).toNat = (zTl n (zrn n k v) : Int) := by rw [e1, Int.toNat_natCast]; exact M.2.2.2.2 _ hw
    have hT := zTl_le (o := v) hn
    have hT2 := zTl_le (o := zrn n k v) hn
    have e3 : zsu (fun i => zdn n v (k + (i + 1))) f = zsu (fun j => zdn n v (k + 1 + j)) f := zsu_congr fun i _ => by rw [show k + (i + 1) = k + 1 + i by omega]
    rw [zsu_shift, e3, Nat.add_zero] at hr
    have go : ∀ x' : Int, ¬ r < zdn n v k → x' = ((r - zdn n v k : Nat) : Int) → zAt X 273 30 0 0 [some (zR 108), some (zI (n : Int)), none, none, none, some (zI y), some (zL x'), none, some (zI x8), some (zI x9), some (zI (z + 1)), some (zI 0), none, none] [] zSHc h Q := fun x' c hx' => by
      rw [e, if_neg c] at q
      exact cm_273b F M hn hv hy f _ (k + 1) _ _ (by omega) (by omega) (by omega) hx' (by omega) q
    have go1 : r < zdn n v k → zAt X 273 30 0 0 [some (zR 108), some (zI (n : Int)), none, none, none, some (zI y), some (zL x), none, some (zI x8), some (zI x9), some (zI z), some (zI 1), none, none] [] zSHc h Q := fun c => by
      rw [e, if_pos c] at q
      rw [hx, hz]; exact q
    refine sg_273_30 F (fun a => absurd rfl a) (fun a => absurd rfl a) (fun a => absurd rfl a) (fun a => absurd rfl a) (fun a => absurd rfl a) (fun a => absurd rfl a) fun _ => ?_
    refine cm_263 F hn hv hy hz hk (fun i hi => M.2.1 v hv i hi) (fun c => ?_) (fun c => ?_)
    · have ed : zdn n v k = zTl n (zrn n k v) := if_pos c
      clear q e hr e3
      by_cases d : r < zdn n v k
      · have g := go1 d
        clear go go1
        apply sg_273_44c F <;> intros <;> (try omega)
        all_goals exact g
      · have g := go (x - h 140 (h 138 (6 * y + z).toNat).toNat) d (by omega)
        clear go go1
        apply sg_273_44c F <;> intros <;> (try omega)
        all_goals exact g
    · have ed : zdn n v k = 0 := if_neg c
      have g := go x (by omega) (by omega)
      clear go go1 q e hr e3
      apply sg_273_44c F <;> intros <;> (try omega)
      all_goals exact g
/-- unrank -/
theorem cm_273 {n v r : Nat} {x y : Int} (F : zFin h) (M : zMO h n) (hn : n ≤ 7) (hv : v < zfac n) (hr : r < zTl n v) (hx : x = (v : Int)) (hy : y = (r : Int)) (k : ∀ h', zFin h' → zfr [142] h h' → (∀ i, i < zinvs n v → h' 142 i = (zlet n v r i : Int)) → K none h') : zC X 273 [zR 108, zI n, zI x, zL y] h K := by
  have h5 := zfac7 hn
  have h21 := zinvs_le (o := v) hn
  have keep : ∀ h1, zfr [142] h h1 → zMO h1 n := fun h1 fr => by
    obtain ⟨m1, m2, m3, m4, m5⟩ := M
    refine ⟨by rw [fr 108 (by decide)]; exact m1, fun u hu i hi => ?_, ?_, ?_, ?_⟩
    · rw [fr 136 (by decide)]; exact m2 u hu i hi
    · rw [fr 137 (by decide), fr 138 (by decide)]; exact m3
    · rw [fr 139 (by decide)]; exact m4
    · rw [fr 140 (by decide)]; exact m5
  have loop : ∀ (q i : Nat) (h1 : zHP) (x5 x6 x9 : Int), zinvs n v - i = q → i ≤ zinvs n v → x5 = ((zun n v r i).1 : Int) → x6 = ((zun n v r i).2 : Int) → x9 = (i : Int) → zFin h1 → zfr [142] h h1 → (∀ j, j < i → h1 142 j = (zlet n v r j : Int)) → zAt X 273 17 0 0 [some (zR 108), some (zI (n : Int)), none, none, none, some (zI x5), some (zL x6), none, some (zI (zinvs n v : Int)), some (zI x9), none, none, none, none] [] zSHc h1 (fun v sh' h' => sh' = zSHc ∧ K v h') := by
    intro q
    induction q with
    | zero =>
      intro i h1 x5 x6 x9 hq hi e5 e6 e9 F1 fr W
      exact sg_273_17 (fun _ => ⟨rfl, k h1 F1 fr fun j hj => W j (by omega)⟩) (fun a => by omega)
    | succ q ih =>
      intro i h1 x5 x6 x9 hq hi e5 e6 e9 F1 fr W
      obtain ⟨a1, a2, a3⟩ := zun_ok hv hr i hi
      have h0 : (zun n v r i).1 ≠ 0 := fun z => by rw [z, zinvs_0] at a3; omega
      have a4 := zlet_lt hv hr (show i < zinvs n v by omega)
      have hT := zTl_le (o := (zun n v r i).1) hn
      have M1 := keep h1 fr
      have e7 : h1 138 (6 * x5 + (zlet n v r i : Int)).toNat = ((zun n v r (i + 1)).1 : Int) := by
        rw [show (6 * x5 + (zlet n v r i : Int)).toNat = 6 * (zun n v r i).1 + zlet n v r i by omega]
        exact (M1.2.2.1 _ a1 _ a4.1).2
      have nx := ih (i + 1) (zup h1 142 x9.toNat (zlet n v r i : Int)) (h1 138 (6 * x5 + (zlet n v r i : Int)).toNat) ((zun n v r (i + 1)).2 : Int) (x9 + 1) (by omega) (by omega) e7 rfl (by omega) (F1.upA zfa_142) (fr.up (by simp)) fun j hj => by
        by_cases c : j = i
        · rw [c, show x9.toNat = i by omega, zup_eq]
        · rw [zup_k (by omega)]; exact W j (by omega)
      refine sg_273_17 (fun a => by omega) fun _ => ?_
      refine cm_273b F1 M1 hn a1 e5 (n - 1) _ 0 _ _ (by omega) (by omega) (by rw [zsu_congr (g := zdn n (zun n v r i).1) (fun i _ => by rw [Nat.zero_add]), ← zTl_dn a1 h0]; exact a2) e6 rfl ?_
      have eL : (zpk n (zun n v r i).1 (n - 1) (zun n v r i).2 0).1 = zlet n v r i := rfl
      have eR : (zpk n (zun n v r i).1 (n - 1) (zun n v r i).2 0).2 = (zun n v r (i + 1)).2 := rfl
      rw [eL, eR]
      clear ih W keep M M1 k
      apply sg_273_30 F1 <;> intros <;> (try omega)
      all_goals exact nx
  have e8 : h 139 x.toNat = (zinvs n v : Int) := by rw [hx, Int.toNat_natCast]; exact M.2.2.2.1 v hv
  refine sg_273_0 F (by omega) ?_
  rw [e8]
  exact loop _ 0 h x y 0 rfl (by omega) hx hy rfl F zfr.rfl (fun j hj => by omega)
/-- rankOf -/
theorem cm_274 {n v m : Nat} {f : Nat → Nat} {x : Int} (F : zFin h) (M : zMO h n) (hn : n ≤ 7) (hv : v < zfac n) (hx : x = (v : Int)) (hm : zinvs n v = m) (hf : ∀ j, j < m → f j + 2 ≤ n ∧ h 142 j = (f j : Int)) (k : K (some (zL (zrks n v f m : Int))) h) : zC X 274 [zR 108, zI n, zI x] h K := by
  have h5 := zfac7 hn
  have h21 := zinvs_le (o := v) hn
  have hf1 : ∀ j, j < m → f j + 2 ≤ n := fun j hj => (hf j hj).1
  have loop : ∀ (q i : Nat) (x3 x4 x7 : Int), m - i = q → i ≤ m → x3 = (zrkv n v f i : Int) → x4 = (zrks n v f i : Int) → x7 = (i : Int) → zAt X 274 16 0 0 [some (zR 108), some (zI (n : Int)), none, some (zI x3), some (zL x4), none, some (zI (m : Int)), some (zI x7), none] [] zSHc h (fun v sh' h' => sh' = zSHc ∧ K v h') := by
    intro q
    induction q with
    | zero =>
      intro i x3 x4 x7 hq hi e3 e4 e7
      have ei : i = m := by omega
      subst ei
      subst e4
      exact sg_274_16 (fun _ => ⟨rfl, k⟩) (fun a => by omega)
    | succ q ih =>
      intro i x3 x4 x7 hq hi e3 e4 e7
      have hi' : i < m := by omega
      obtain ⟨f1, f2⟩ := hf i hi'
      have a1 := zrkv_lt hv i fun j hj => hf1 j (by omega)
      have b0 := zrks_le hv hn i fun j hj => hf1 j (by omega)
      have e2 : h 142 x7.toNat = (f i : Int) := by rw [show x7.toNat = i by omega]; exact f2
      have inner : ∀ (s j : Nat) (y z : Int), f i - j = s → j ≤ f i → z = (j : Int) → y = ((zrks n v f i + zsu (zdn n (zrkv n v f i)) j : Nat) : Int) → zAt X 274 26 0 0 [some (zR 108), some (zI (n : Int)), none, some (zI x3), some (zL y), none, some (zI (m : Int)), some (zI x7), some (zI z)] [] zSHc h (fun v sh' h' => sh' = zSHc ∧ K v h') := by
        intro s
        induction s with
        | zero =>
          intro j y z hs hj ez ey
          have ej : j = f i := by omega
          subst ej
          have e8 : h 138 (6 * x3 + h 142 x7.toNat).toNat = (zrkv n v f (i + 1) : Int) := by
            rw [e2, show (6 * x3 + (f i : Int)).toNat = 6 * zrkv n v f i + f i by omega]
            exact (M.2.2.1 _ a1 _ f1).2
          have nx := ih (i + 1) (h 138 (6 * x3 + h 142 x7.toNat).toNat) y (x7 + 1) (by omega) (by omega) e8 ey (by omega)
          clear ih k hf hf1 M
          apply sg_274_26 F <;> intros <;> (try omega)
          all_goals exact nx
        | succ s is =>
          intro j y z hs hj ez ey
          have hj2 : j + 2 ≤ n := by omega
          have hw := zrn_lt a1 hj2
          have e1 : h 138 (6 * x3 + z).toNat = (zrn n j (zrkv n v f i) : Int) := by rw [show (6 * x3 + z).toNat = 6 * zrkv n v f i + j by omega]; exact (M.2.2.1 _ a1 j hj2).2
          have e8 : h 140 (h 138 (6 * x3 + z).toNat).toNat = (zTl n (zrn n j (zrkv n v f i)) : Int) := by rw [e1, Int.toNat_natCast]; exact M.2.2.2.2 _ hw
          have hT := zTl_le (o := zrn n j (zrkv n v f i)) hn
          have hS := zdn_le a1 hn (l := j) (by omega)
          have es : zsu (zdn n (zrkv n v f i)) (j + 1) = zsu (zdn n (zrkv n v f i)) j + zdn n (zrkv n v f i) j := rfl
          have nx := is (j + 1)
          have hi21 : i ≤ 21 := by omega
          have b1 : i * 21936950640377856 ≤ 21 * 21936950640377856 := Nat.mul_le_mul_right _ hi21
          refine sg_274_26 F (by omega) (fun _ => by omega) (fun _ => by omega) (fun _ => by omega) (fun _ => by omega) (fun a => by omega) fun _ => ?_
          refine cm_263 F hn a1 e3 ez hj2 (fun i hi => M.2.1 _ a1 i hi) (fun c => ?_) (fun c => ?_)
          · have ed : zdn n (zrkv n v f i) j = zTl n (zrn n j (zrkv n v f i)) := if_pos c
            have g := nx (y + h 140 (h 138 (6 * x3 + z).toNat).toNat) (z + 1) (by omega) (by omega) (by omega) (by omega)
            clear nx is ih k hf hf1 M
            apply sg_274_46c F <;> intros <;> (try omega)
            all_goals exact g
          · have ed : zdn n (zrkv n v f i) j = 0 := if_neg c
            have g := nx y (z + 1) (by omega) (by omega) (by omega) (by omega)
            clear nx is ih k hf hf1 M
            apply sg_274_46c F <;> intros <;> (try omega)
            all_goals exact g
      exact sg_274_16 (fun a => by omega) (fun _ => inner (f i) 0 x4 0 (by omega) (by omega) rfl (by rw [e4]; rfl))
  have e8 : h 139 x.toNat = (m : Int) := by rw [hx, Int.toNat_natCast, ← hm]; exact M.2.2.2.1 v hv
  refine sg_274_0 F (by omega) ?_
  rw [e8]
  exact loop _ 0 x 0 0 rfl (by omega) hx rfl rfl
end
