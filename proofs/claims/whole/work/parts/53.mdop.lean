/-! THE REFERENCE ON ORDERS -/
def zLy (h h' : zHP) : Prop := zFin h' ∧ zfr [108, 136, 137, 138, 139, 140, 141, 142] h h' ∧ (∀ i, i ≠ 38 → i ≠ 39 → h' 108 i = h 108 i) ∧ zML h'
section
variable {X : List Int} {h : zHP} {K : Option zAV → zHP → Prop} {N : Nat} {A : Nat → Nat × Nat × zel}
theorem zMS.ly {h' : zHP} (M : zMS h N A) (y : zLy h h') : zMS h' N A := M.fr (y.2.2.1 0 (by decide) (by decide)) fun c a b => by
  have : c = 109 ∨ c = 110 ∨ c = 111 ∨ c = 112 ∨ c = 113 ∨ c = 114 := by omega
  rcases this with e | e | e | e | e | e <;> subst e <;> exact y.2.1 _ (by decide)
theorem cm_lay {n : Nat} {x : Int} (F : zFin h) (L : zML h) (hn : 2 ≤ n ∧ n ≤ 7) (hx : x = (n : Int)) (k : ∀ h', zLy h h' → zMO h' n → K none h') : zC X 261 [zR 108, zI x] h K := by
  subst hx
  refine cm_261 F hn (fun e => L.at hn e) fun h' F' fr' s' e' M' => k h' ⟨F', fr'.mono (by simp), s', Or.inr ⟨n, hn, e', M'⟩⟩ M'
theorem cm_or {n o : Int} (k0 : ¬ ((2 ≤ n ∧ n ≤ 7) ∧ 0 ≤ o ∧ o < zFc n) → K (some (zI 0)) h) (k1 : ∀ a b : Nat, (2 ≤ a ∧ a ≤ 7) → b < zfac a → n = (a : Int) → o = (b : Int) → K (some (zI 1)) h) : zC X 264 [zR 108, zI n, zI o] h K := by
  refine cm_264 ?_
  by_cases c : (2 ≤ n ∧ n ≤ 7) ∧ 0 ≤ o ∧ o < zFc n
  · rw [if_pos c]
    obtain ⟨c1, c4, c5⟩ := c
    have ho : o.toNat < zfac n.toNat := by unfold zFc at c5; omega
    exact k1 n.toNat o.toNat (by omega) ho (by omega) (by omega)
  · rw [if_neg c]; exact k0 c
theorem zFc_c {a b : Nat} (h : b < zfac a) : (b : Int) < zFc (a : Int) := by
  unfold zFc
  rw [Int.toNat_natCast]
  omega
/-- digit -/
theorem cm_265 {n o i : Int} (F : zFin h) (L : zML h) (k0 : ¬ (((2 ≤ n ∧ n ≤ 7) ∧ 0 ≤ o ∧ o < zFc n) ∧ 0 ≤ i ∧ i < n) → K (some (zI (-1))) h) (k1 : (2 ≤ n ∧ n ≤ 7) → 0 ≤ o → o < zFc n → 0 ≤ i → i < n → ∀ h', zLy h h' → K (some (zI (zr n.toNat o.toNat i.toNat : Int))) h') : zC X 265 [zR 108, zI n, zI o, zI i] h K := by
  refine sg_265_0 (cm_or (fun c => sg_265_6c (fun _ => ⟨rfl, k0 (fun z => c z.1)⟩) (fun a => absurd rfl a) (fun a => absurd rfl a) (fun a => absurd rfl a)) fun a b ha hb en eo => ?_)
  subst en; subst eo
  refine sg_265_6c (fun z => absurd z (by decide)) (fun _ z => ⟨rfl, k0 (by omega)⟩) (fun _ z1 z2 => ?_) (fun _ _ z => ⟨rfl, k0 (by omega)⟩)
  have h5 := zfac7 ha.2
  refine cm_lay F L ha rfl fun h' y M => ?_
  have e1 : h' 136 (7 * (b : Int) + i).toNat = (zr a b i.toNat : Int) := by
    rw [show (7 * (b : Int) + i).toNat = 7 * b + i.toNat by omega]
    exact M.2.1 b hb _ (by omega)
  have kk := k1 (by omega) (by omega) (zFc_c hb) z1 z2 h' y
  rw [Int.toNat_natCast, Int.toNat_natCast] at kk
  clear k0 k1 L
  apply sg_265_25c y.1 <;> intros <;> (try omega)
  rw [e1]
  exact ⟨rfl, kk⟩
/-- passed -/
theorem cm_266 {n o : Nat} {x : Nat × Nat × Nat × Nat} {b : Bool} {y0 y1 y2 y3 : Int} (F : zFin h) (M : zMO h n) (hn : n ≤ 7) (ho : o < zfac n) (hl : x.2.1 + 2 ≤ n) (h4 : x.1 < 4) (e0 : y0 = (o : Int)) (e1 : y1 = (x.1 : Int)) (e2 : y2 = (x.2.1 : Int)) (e3 : x.1 = 3 → (y3 = 0 ↔ b = false)) (q : K (some (zI (zst n x b o : Int))) h) : zC X 266 [zR 108, zI y0, zI y1, zI y2, zI y3] h K := by
  have h5 := zfac7 hn
  have a1 : h 136 (7 * y0 + y2).toNat = (zr n o x.2.1 : Int) := by
    rw [show (7 * y0 + y2).toNat = 7 * o + x.2.1 by omega]; exact M.2.1 o ho _ (by omega)
  have a2 : h 136 (7 * y0 + y2 + 1).toNat = (zr n o (x.2.1 + 1) : Int) := by
    rw [show (7 * y0 + y2 + 1).toNat = 7 * o + (x.2.1 + 1) by omega]; exact M.2.1 o ho _ (by omega)
  have a3 : h 137 (6 * y0 + y2).toNat = (zx n x.2.1 o : Int) := by
    rw [show (6 * y0 + y2).toNat = 6 * o + x.2.1 by omega]; exact (M.2.2.1 o ho _ hl).1
  have d := zx_desc ho hn hl
  have dd : zr n o x.2.1 ≠ zr n o (x.2.1 + 1) := fun z => by
    have e1 := zp_eq ho (show x.2.1 < n by omega) z
    have e2 := zp_eq ho (show x.2.1 + 1 < n by omega) (rfl : zr n o (x.2.1 + 1) = _)
    omega
  have key : ∀ w : Int, (∀ z : Nat, zst n x b o = z → w = (z : Int)) → zSHc = zSHc ∧ K (some (zI w)) h := fun w hw => by
    rw [hw _ rfl]; exact ⟨rfl, q⟩
  clear q M
  have h6 : x.1 = 0 ∨ x.1 = 1 ∨ x.1 = 2 ∨ x.1 = 3 := by omega
  rcases h6 with c | c | c | c
  · have es : zst n x b o = zx n x.2.1 o := if_pos c
    apply sg_266_0 F <;> intros <;> (try omega)
    exact key _ (by omega)
  · have es : zst n x b o = min o (zx n x.2.1 o) := zst_g c
    apply sg_266_0 F <;> intros <;> (try omega)
    all_goals exact key _ (by omega)
  · have es : zst n x b o = max o (zx n x.2.1 o) := zst_b c
    apply sg_266_0 F <;> intros <;> (try omega)
    all_goals exact key _ (by omega)
  · have e3' := e3 c
    have es : zst n x b o = if b then zx n x.2.1 o else o := by
      unfold zst; rw [if_neg (by omega), if_neg (by omega), if_neg (by omega)]
    cases b
    · have es2 : zst n x false o = o := es
      have y30 := e3'.2 rfl
      apply sg_266_0 F <;> intros <;> (try omega)
      all_goals exact key _ (by omega)
    · have es2 : zst n x true o = zx n x.2.1 o := es
      have y30 : y3 ≠ 0 := fun z => by have := e3'.1 z; exact absurd this (by decide)
      apply sg_266_0 F <;> intros <;> (try omega)
      all_goals exact key _ (by omega)
/-- endOf -/
theorem cm_267 {u o th sk : Nat} {t y but : Int} (F : zFin h) (M : zMS h N A) (hu : u < N) (ht : t = (u : Int)) (MO : zMO h (A u).1) (ho : o < zfac (A u).1) (hy : y = (o : Int)) (hth : th < 2147483648) (hb : ∀ i, i < (A u).2.1 → ((i : Int) = but ↔ i = sk)) (q : K (some (zI (zru (A u).1 (A u).2.2 th sk (A u).2.1 o : Int))) h) : zC X 267 [zR 108, zI t, zI y, zI th, zI but] h K := by
  have hN := M.2.1
  obtain ⟨n1, n2⟩ := M.n hu ht
  have hl := (M.2.2 u hu).1
  have hm := hl.2.1
  have loop : ∀ (q i : Nat) (x z w : Int), (A u).2.1 - i = q → i ≤ (A u).2.1 → x = (i : Int) → z = (zru (A u).1 (A u).2.2 th sk i o : Int) → w = (zmb (A u).2.2 i : Int) → zAt X 267 9 0 0 [some (zR 108), some (zI t), none, some (zI th), some (zI but), some (zI z), some (zI w), some (zI x), none, none] [] zSHc h (fun v sh' h' => sh' = zSHc ∧ K v h') := by
    intro qq
    induction qq with
    | zero =>
      intro i x z w hq hi hx hz hw
      have ei : i = (A u).2.1 := by omega
      subst ei
      rw [← hz] at q
      clear hb
      apply sg_267_9 F <;> intros <;> (try omega)
      exact ⟨rfl, q⟩
    | succ qq ih =>
      intro i x z w hq hi hx hz hw
      have hi' : i < (A u).2.1 := by omega
      have hb' := hb i hi'
      obtain ⟨r1, r2, -⟩ := M.rd hu ht hi' hx
      obtain ⟨hk4, hl2, -⟩ := hl.2.2.2 i hi'
      have ho' := zru_lt hl (th := th) (sk := sk) ho i hi
      have es : zru (A u).1 (A u).2.2 th sk (i + 1) o = if i = sk then zru (A u).1 (A u).2.2 th sk i o else zst (A u).1 ((A u).2.2 i) (th.testBit (zmb (A u).2.2 i)) (zru (A u).1 (A u).2.2 th sk i o) := rfl
      have et : zmb (A u).2.2 (i + 1) = zmb (A u).2.2 i + (if ((A u).2.2 i).1 = 3 then 1 else 0) := rfl
      have hmb : zmb (A u).2.2 i ≤ 20 := Nat.le_trans (zmb_mono _ hi) hl.2.2.1
      have nx := ih (i + 1) (x + 1)
      have eb : th.testBit (zmb (A u).2.2 i) = decide (th / 2 ^ zmb (A u).2.2 i % 2 = 1) := by
        rw [Nat.testBit_eq_decide_div_mod_eq]
      have hz0 : th / 2 ^ zmb (A u).2.2 i < 2147483648 := Nat.lt_of_le_of_lt (Nat.div_le_self _ _) hth
      have ea : ziand (zishr th w) 1 = ((th / 2 ^ zmb (A u).2.2 i % 2 : Nat) : Int) := by
        rw [hw, zishr_n (by omega) hth, ziand_1 hz0]
      have step : ∀ (b : Int) (w' : Int), i ≠ sk → (((A u).2.2 i).1 = 3 → (b = 0 ↔ th.testBit (zmb (A u).2.2 i) = false)) → w' = (zmb (A u).2.2 (i + 1) : Int) → zC X 266 [zR 108, zI z, zI (h 111 (200 * t + x).toNat), zI (h 112 (200 * t + x).toNat), zI b] h (fun v h9 => zAt X 267 101 0 0 [some (zR 108), some (zI t), none, some (zI th), some (zI but), none, some (zI w'), some (zI x), none, none] (zpush v []) zSHc h9 (fun v sh' h' => sh' = zSHc ∧ K v h')) := fun b w' hs hb2 hw' => by
        rw [if_neg hs] at es
        refine cm_266 F MO hl.1.2 ho' hl2 hk4 hz r1 r2 hb2 (sg_267_101c (by omega) (nx _ w' (by omega) (by omega) (by omega) (by rw [es]) hw'))
      have stay : ∀ (w' : Int), i = sk → w' = (zmb (A u).2.2 (i + 1) : Int) → zAt X 267 9 0 0 [some (zR 108), some (zI t), none, some (zI th), some (zI but), some (zI z), some (zI w'), some (zI (x + 1)), none, none] [] zSHc h (fun v sh' h' => sh' = zSHc ∧ K v h') := fun w' hs hw' => by
        rw [if_pos hs] at es
        exact nx z w' (by omega) (by omega) (by omega) (by rw [es]; exact hz) hw'
      by_cases c3 : ((A u).2.2 i).1 = 3
      · rw [if_pos c3] at et
        generalize th / 2 ^ zmb (A u).2.2 i % 2 = bit at *
        clear ih nx hb es q
        apply sg_267_9 F <;> intros <;> (try omega)
        · exact stay _ (by omega) (by omega)
        · exact step 0 _ (by omega) (fun _ => ⟨fun _ => by rw [eb]; exact decide_eq_false (by omega), fun _ => rfl⟩) (by omega)
        · exact stay _ (by omega) (by omega)
        · exact step 1 _ (by omega) (fun _ => ⟨fun z => absurd z (by decide), fun z => by rw [eb] at z; have := of_decide_eq_false z; omega⟩) (by omega)
      · rw [if_neg c3] at et
        clear ih nx hb es q eb ea hz0
        apply sg_267_9 F <;> intros <;> (try omega)
        · exact stay _ (by omega) (by omega)
        · exact step 0 _ (by omega) (fun z => absurd z c3) (by omega)
  exact sg_267_0 (loop _ 0 0 y 0 rfl (by omega) rfl hy rfl)
/-- isDown -/
theorem cm_268 {t o th : Int} (F : zFin h) (M : zMS h N A) (k0 : (∀ u : Nat, u < N → t = (u : Int) → 0 ≤ o → o < zFc (A u).1 → 0 ≤ th → th < ((2 ^ zmb (A u).2.2 (A u).2.1 : Nat) : Int) → False) → K (some (zI 0)) h) (k1 : ∀ u b c : Nat, u < N → t = (u : Int) → o = (b : Int) → b < zfac (A u).1 → th = (c : Int) → c < 2 ^ zmb (A u).2.2 (A u).2.1 → K (some (zI 1)) h) : zC X 268 [zR 108, zI t, zI o, zI th] h K := by
  have hN := M.2.1
  have h0 := M.1
  by_cases ct : 0 ≤ t ∧ t < (N : Int)
  · obtain ⟨u, hu⟩ : ∃ u : Nat, t = (u : Int) := ⟨t.toNat, by omega⟩
    have hu' : u < N := by omega
    obtain ⟨n1, n2⟩ := M.n hu' hu
    have hl := (M.2.2 u hu').1
    have un : ∀ v : Nat, t = (v : Int) → v = u := fun v hv => by omega
    apply sg_268_0 F <;> intros <;> (try omega)
    rw [n1]
    refine cm_or (fun c => ?_) fun a b ha hb en eo => ?_
    · have c' : ∀ x : Prop, 0 ≤ o → o < zFc ((A u).1 : Int) → x := fun x z1 z2 => absurd ⟨by have := hl.1; omega, z1, z2⟩ c
      exact sg_268_19c (fun _ => ⟨rfl, k0 fun v _ hv z1 z2 _ _ => c' _ z1 (by rw [un v hv] at z2; exact z2)⟩) (fun a => absurd rfl a) (fun a => absurd rfl a)
    · have ea : a = (A u).1 := by omega
      subst ea
      refine sg_268_19c (fun z => absurd z (by decide)) (fun _ z => ⟨rfl, k0 fun v _ _ _ _ z1 _ => by omega⟩) fun _ z => ?_
      refine cm_244 F M hu' hu ?_
      have hp : 2 ^ zmb (A u).2.2 (A u).2.1 ≤ 2 ^ 20 := Nat.pow_le_pow_right (by decide) hl.2.2.1
      have h20 : 2 ^ 20 = 1048576 := by decide
      have e1 : zishl 1 (zmb (A u).2.2 (A u).2.1 : Int) = ((2 ^ zmb (A u).2.2 (A u).2.1 : Nat) : Int) := by
        have := zishl_n (x := 1) (k := zmb (A u).2.2 (A u).2.1) (by have := hl.2.2.1; omega) (by omega)
        rw [Nat.one_mul] at this
        exact this
      refine sg_268_33c (fun c => ⟨rfl, k0 fun v _ hv _ _ _ z2 => ?_⟩) (fun c => ⟨rfl, ?_⟩)
      · rw [un v hv] at z2; omega
      · exact k1 u b th.toNat hu' hu eo hb (by omega) (by omega)
  · apply sg_268_0 F <;> intros <;> (try omega)
    exact ⟨rfl, k0 fun v hv1 hv2 _ _ _ _ => by omega⟩
/-- down -/
theorem cm_269 {t o th : Int} (F : zFin h) (M : zMS h N A) (L : zML h) (k0 : (∀ u : Nat, u < N → t = (u : Int) → 0 ≤ o → o < zFc (A u).1 → 0 ≤ th → th < ((2 ^ zmb (A u).2.2 (A u).2.1 : Nat) : Int) → False) → K (some (zI (-1))) h) (k1 : ∀ u : Nat, u < N → t = (u : Int) → 0 ≤ o → o < zFc (A u).1 → 0 ≤ th → th < ((2 ^ zmb (A u).2.2 (A u).2.1 : Nat) : Int) → ∀ h', zLy h h' → K (some (zI (zru (A u).1 (A u).2.2 th.toNat 9999 (A u).2.1 o.toNat : Int))) h') : zC X 269 [zR 108, zI t, zI o, zI th] h K := by
  have hN := M.2.1
  refine sg_269_0 (cm_268 F M (fun c => ?_) fun u b c hu ht eo hb ec hc => ?_)
  · exact sg_269_7c F (fun a => absurd rfl a) (fun a => absurd rfl a) (fun _ => ⟨rfl, k0 c⟩)
  · obtain ⟨n1, n2⟩ := M.n hu ht
    have hl := (M.2.2 u hu).1
    refine sg_269_7c F (fun _ => by omega) (fun _ => ?_) (fun z => absurd z (by decide))
    refine cm_lay F L hl.1 n1 fun h' y MO => ?_
    have hp : 2 ^ zmb (A u).2.2 (A u).2.1 ≤ 2 ^ 20 := Nat.pow_le_pow_right (by decide) hl.2.2.1
    have h20 : 2 ^ 20 = 1048576 := by decide
    subst ec
    refine sg_269_22c (cm_267 y.1 (M.ly y) hu ht MO hb eo (by omega) (sk := 9999) (fun i hi => by have := hl.2.1; omega) (sg_269_30c ⟨rfl, ?_⟩))
    have kk := k1 u hu ht (by omega) (by rw [eo]; exact zFc_c hb) (by omega) (by omega) h' y
    rw [eo, Int.toNat_natCast, Int.toNat_natCast] at kk
    exact kk
/-- ends -/
theorem cm_270 {t o th v : Int} (F : zFin h) (M : zMS h N A) (L : zML h) (k0 : (∀ u : Nat, u < N → t = (u : Int) → 0 ≤ o → o < zFc (A u).1 → 0 ≤ th → th < ((2 ^ zmb (A u).2.2 (A u).2.1 : Nat) : Int) → 0 ≤ v → v < ((A u).1 : Int) → False) → K (some (zI (-1))) h) (k1 : ∀ u : Nat, u < N → t = (u : Int) → 0 ≤ o → o < zFc (A u).1 → 0 ≤ th → th < ((2 ^ zmb (A u).2.2 (A u).2.1 : Nat) : Int) → 0 ≤ v → v < ((A u).1 : Int) → ∀ h', zLy h h' → K (some (zI (zp (A u).1 (zru (A u).1 (A u).2.2 th.toNat 9999 (A u).2.1 o.toNat) v.toNat : Int))) h') : zC X 270 [zR 108, zI t, zI o, zI th, zI v] h K := by
  have hN := M.2.1
  refine sg_270_0 (cm_268 F M (fun c => ?_) fun u b c hu ht eo hb ec hc => ?_)
  · exact sg_270_7c F (fun _ => ⟨rfl, k0 fun u a1 a2 a3 a4 a5 a6 _ _ => c u a1 a2 a3 a4 a5 a6⟩) (fun a => absurd rfl a) (fun a => absurd rfl a) (fun a => absurd rfl a) (fun a => absurd rfl a)
  · obtain ⟨n1, n2⟩ := M.n hu ht
    have hl := (M.2.2 u hu).1
    refine sg_270_7c F (fun z => absurd z (by decide)) (fun _ z => ⟨rfl, k0 fun u _ _ _ _ _ _ z1 _ => by omega⟩) (fun _ _ => by omega) (fun _ z1 z2 => ?_) (fun _ _ z => ⟨rfl, k0 fun u2 _ a2 _ _ _ _ _ z1 => ?_⟩)
    · refine cm_lay F L hl.1 n1 fun h' y MO => ?_
      have hp : 2 ^ zmb (A u).2.2 (A u).2.1 ≤ 2 ^ 20 := Nat.pow_le_pow_right (by decide) hl.2.2.1
      have h20 : 2 ^ 20 = 1048576 := by decide
      subst ec
      have n1' := ((M.ly y).n hu ht).1
      refine sg_270_38c y.1 (by omega) (cm_267 y.1 (M.ly y) hu ht MO hb eo (by omega) (sk := 9999) (fun i hi => by have := hl.2.1; omega) (sg_270_53c ?_))
      rw [n1']
      refine cm_262 y.1 hl.1.2 (zru_lt hl hb _ (Nat.le_refl _)) rfl (u := v.toNat) (by omega) (by omega) (fun i hi => MO.2.1 _ (zru_lt hl hb _ (Nat.le_refl _)) i hi) (sg_270_58c ⟨rfl, ?_⟩)
      have kk := k1 u hu ht (by omega) (by rw [eo]; exact zFc_c hb) (by omega) (by omega) z1 (by omega) h' y
      rw [eo, Int.toNat_natCast, Int.toNat_natCast] at kk
      exact kk
    · have : u2 = u := by omega
      rw [this] at z1
      omega
/-- fewest -/
theorem cm_271 {n o : Int} (F : zFin h) (L : zML h) (k0 : ¬ ((2 ≤ n ∧ n ≤ 7) ∧ 0 ≤ o ∧ o < zFc n) → K (some (zI (-1))) h) (k1 : (2 ≤ n ∧ n ≤ 7) → 0 ≤ o → o < zFc n → ∀ h', zLy h h' → K (some (zI (zinvs n.toNat o.toNat : Int))) h') : zC X 271 [zR 108, zI n, zI o] h K := by
  refine sg_271_0 (cm_or (fun c => sg_271_6c (fun a => absurd rfl a) (fun _ => ⟨rfl, k0 c⟩)) fun a b ha hb en eo => ?_)
  subst en; subst eo
  have h5 := zfac7 ha.2
  refine sg_271_6c (fun _ => cm_lay F L ha rfl fun h' y M => ?_) (fun z => absurd z (by decide))
  have kk := k1 (by omega) (by omega) (zFc_c hb) h' y
  rw [Int.toNat_natCast, Int.toNat_natCast, ← M.2.2.2.1 b hb] at kk
  exact sg_271_16c y.1 (by omega) ⟨rfl, by rw [Int.toNat_natCast]; exact kk⟩
/-- ladders -/
theorem cm_272 {n o : Int} (F : zFin h) (L : zML h) (k0 : ¬ ((2 ≤ n ∧ n ≤ 7) ∧ 0 ≤ o ∧ o < zFc n) → K (some (zL (-1))) h) (k1 : (2 ≤ n ∧ n ≤ 7) → 0 ≤ o → o < zFc n → ∀ h', zLy h h' → K (some (zL (zTl n.toNat o.toNat : Int))) h') : zC X 272 [zR 108, zI n, zI o] h K := by
  refine sg_272_0 (cm_or (fun c => sg_272_6c (fun a => absurd rfl a) (fun _ => ⟨rfl, k0 c⟩)) fun a b ha hb en eo => ?_)
  subst en; subst eo
  have h5 := zfac7 ha.2
  refine sg_272_6c (fun _ => cm_lay F L ha rfl fun h' y M => ?_) (fun z => absurd z (by decide))
  have kk := k1 (by omega) (by omega) (zFc_c hb) h' y
  rw [Int.toNat_natCast, Int.toNat_natCast, ← M.2.2.2.2 b hb] at kk
  exact sg_272_18c y.1 (by omega) ⟨rfl, by rw [Int.toNat_natCast]; exact kk⟩
end
