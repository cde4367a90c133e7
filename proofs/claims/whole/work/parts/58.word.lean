/-! THE CLASS: WORDS AND RANKS -/
def zwv (n v r : Nat) : Nat → Nat
  | 0 => 0
  | i + 1 => zwv n v r i * 8 + zlet n v r i
theorem zwv_lt {n v r : Nat} (hn : n ≤ 7) (hv : v < zfac n) (hr : r < zTl n v) : ∀ i, i ≤ zinvs n v → zwv n v r i < 8 ^ i
  | 0, _ => Nat.one_pos
  | i + 1, h => by
    have h1 := zwv_lt hn hv hr i (by omega)
    have h2 := (zlet_lt hv hr (show i < zinvs n v by omega)).1
    show zwv n v r i * 8 + zlet n v r i < _
    rw [Nat.pow_succ]
    omega
theorem zwv_at {n v r : Nat} (hn : n ≤ 7) (hv : v < zfac n) (hr : r < zTl n v) {i : Nat} : ∀ m, m ≤ zinvs n v → i < m → zwv n v r m / 8 ^ (m - 1 - i) % 8 = zlet n v r i
  | 0, _, h => by omega
  | m + 1, hm, h => by
    have h2 := (zlet_lt hv hr (show m < zinvs n v by omega)).1
    have e : zwv n v r (m + 1) = zwv n v r m * 8 + zlet n v r m := rfl
    by_cases c : i = m
    · rw [c, show m + 1 - 1 - m = 0 by omega, Nat.pow_zero, Nat.div_one, e]
      omega
    · have ih := zwv_at hn hv hr m (by omega) (show i < m by omega)
      rw [show m + 1 - 1 - i = (m - 1 - i) + 1 by omega, Nat.pow_succ, Nat.mul_comm, ← Nat.div_div_eq_div_mul, e, show (zwv n v r m * 8 + zlet n v r m) / 8 = zwv n v r m by omega]
      exact ih
theorem zlor8 {w k : Nat} (hw : w * 8 < 9223372036854775808) (hk : k < 8) : zlor (zlshl (w : Int) 3) (k : Int) = ((w * 8 + k : Nat) : Int) := by
  have e1 : zlshl (w : Int) 3 = ((w * 2 ^ 3 : Nat) : Int) := zlshl_n (k := 3) (by decide) (by omega)
  rw [e1, zlor_n (by omega) (by omega)]
  have e2 := Nat.two_pow_add_eq_or_of_lt (i := 3) (b := k) (by omega) w
  rw [Nat.mul_comm w (2 ^ 3), ← e2]
theorem zrn_cls {n v k : Nat} (hv : v < zfac n) (hk : k + 2 ≤ n) : zin n (zrn n k v) = zx n k (zin n v) := zin_in (zx_lt (zin_lt hv) hk)
section
variable {X : List Int} {h : zHP} {K : Option zAV → zHP → Prop}
/-- word: one leg is looked for -/
theorem cx_40b {n v : Nat} {x5 x9 x10 x11 : Int} {Q : zPO} (F : zFin h) (T : zOT h) (hn : 2 ≤ n ∧ n ≤ 7) (hr1 : (n : Int) ≤ h 1 1) (D : ∀ o, o < zfac n → h 4 o = (zTl n o : Int)) (hv : v < zfac n) (h9 : x9 = (zin n v : Int)) (h11 : 0 ≤ x11 ∧ x11 < 100) : ∀ (f r k : Nat) (x z : Int), r ≤ 21936950640377856 → f + k = n - 1 → r < zsu (fun j => zdn n v (k + j)) f → x = (r : Int) → z = (k : Int) → zAt X 40 31 0 0 [some (zR 3), some (zI (n : Int)), none, none, none, some (zL (zlor (zlshl x5 3) ((zpk n v f r k).1 : Int))), none, some (zL ((zpk n v f r k).2 : Int)), none, some (zI (zx n (zpk n v f r k).1 (zin n v) : Int)), some (zI x10), some (zI (x11 + 1)), none, none, none, none, none, none] [] zSHc h Q → zAt X 40 48 0 0 [some (zR 3), some (zI (n : Int)), none, none, none, some (zL x5), none, some (zL x), none, some (zI x9), some (zI x10), some (zI x11), some (zI 0), some (zI x9), some (zI z), none, none, none] [] zSHc h Q
  | 0, r, k, x, z, _, _, hr, _, _, _ => absurd hr (Nat.not_lt_zero _)
  | f + 1, r, k, x, z, hrb, hf, hr, hx, hz, q => by
    have h5 := zfac7 hn.2
    have hk : k + 2 ≤ n := by omega
    have hi := zin_lt hv
    have e : zpk n v (f + 1) r k = if r < zdn n v k then (k, r) else zpk n v f (r - zdn n v k) (k + 1) := rfl
    have hw := zx_lt hi hk
    have e2 : zCnt h (zx n k (zin n v) : Int) = (zTl n (zx n k (zin n v)) : Int) := by
      unfold zCnt
      rw [if_pos (by omega), Int.toNat_natCast]
      exact D _ hw
    have hT2 := zTl_le (o := zx n k (zin n v)) hn.2
    have ed := zdn_cls hn.2 hv hk
    have e3 : zsu (fun i => zdn n v (k + (i + 1))) f = zsu (fun j => zdn n v (k + 1 + j)) f := zsu_congr fun i _ => by rw [show k + (i + 1) = k + 1 + i by omega]
    rw [zsu_shift, e3, Nat.add_zero] at hr
    have go : ∀ x' : Int, ¬ r < zdn n v k → x' = ((r - zdn n v k : Nat) : Int) → zAt X 40 48 0 0 [some (zR 3), some (zI (n : Int)), none, none, none, some (zL x5), none, some (zL x'), none, some (zI x9), some (zI x10), some (zI x11), some (zI 0), some (zI x9), some (zI (z + 1)), none, none, none] [] zSHc h Q := fun x' c hx' => by
      rw [e, if_neg c] at q
      exact cx_40b F T hn hr1 D hv h9 h11 f _ (k + 1) _ _ (by omega) (by omega) (by omega) hx' (by omega) q
    have ne : ¬ (zx n k (zin n v) : Int) = x9 := by
      have d1 := zx_desc hi hn.2 hk
      have d2 : zr n (zin n v) k ≠ zr n (zin n v) (k + 1) := fun z => by
        have e1 := zp_eq hi (show k < n by omega) z
        have e2 := zp_eq hi (show k + 1 < n by omega) (rfl : zr n (zin n v) (k + 1) = _)
        omega
      have d3 := zx_desc hw hn.2 hk
      rw [zx_x hi hk, zx_r hi hk, zx_r hi hk, if_neg (by omega), if_pos rfl, if_pos rfl] at d3
      omega
    refine sg_40_48 F (by omega) (fun a => by omega) (fun a => by omega) (fun _ a => absurd rfl a) (fun _ a => absurd rfl a) fun _ _ => ?_
    rw [h9, hz]
    refine cx_86 F T hn.1 hr1 hk hi ?_
    rw [show zsj (n - 2 - k) (zin n v) = zx n k (zin n v) from rfl]
    refine sg_40_75c F (fun _ => by omega) (fun c => ?_) (fun c d => ?_) (fun _ _ => by omega) (fun c d => ?_) (fun _ _ => by omega) (fun c d => ?_)
    · rw [if_neg (by omega)] at ed
      rw [← h9, ← hz]
      exact go x (by omega) (by omega)
    · rw [e2] at d ⊢; omega
    · rw [if_pos (by omega)] at ed
      rw [e2] at d ⊢
      rw [← h9, ← hz]
      exact go _ (by omega) (by omega)
    · rw [if_pos (by omega)] at ed
      rw [e2] at d
      rw [e, if_pos (by omega)] at q
      have q' : zAt X 40 31 0 0 [some (zR 3), some (zI (n : Int)), none, none, none, some (zL (zlor (zlshl x5 3) (k : Int))), none, some (zL x), none, some (zI (zx n k (zin n v) : Int)), some (zI x10), some (zI (x11 + 1)), none, none, none, none, none, none] [] zSHc h Q := by
        rw [hx]; exact q
      exact sg_40_48 F (by omega) (fun _ => by omega) (fun _ => q') (fun _ _ => by omega) (fun _ _ => q') (fun _ a => absurd (a.trans h9.symm) ne)
/-- word -/
theorem cx_40 {n o r : Nat} (F : zFin h) (T : zOT h) (hn : 2 ≤ n ∧ n ≤ 7) (hr1 : (n : Int) ≤ h 1 1) (D : ∀ o, o < zfac n → h 4 o = (zTl n o : Int)) (ho : o < zfac n) (hr : r < zTl n o) (k : K (some (zL (zwv n o r (zinvs n o) : Int))) h) : zC X 40 [zR 3, zI n, zI o, zL r] h K := by
  have h5 := zfac7 hn.2
  have h21 := zinvs_le (o := o) hn.2
  have loop : ∀ (q i : Nat) (x5 x7 x9 x11 : Int), zinvs n o - i = q → i ≤ zinvs n o → x5 = (zwv n o r i : Int) → x7 = ((zun n o r i).2 : Int) → x9 = (zin n (zun n o r i).1 : Int) → x11 = (i : Int) → zAt X 40 31 0 0 [some (zR 3), some (zI (n : Int)), none, none, none, some (zL x5), none, some (zL x7), none, some (zI x9), some (zI (zinvs n o : Int)), some (zI x11), none, none, none, none, none, none] [] zSHc h (fun v sh' h' => sh' = zSHc ∧ K v h') := by
    intro q
    induction q with
    | zero =>
      intro i x5 x7 x9 x11 hq hi e5 e7 e9 e11
      have ei : i = zinvs n o := by omega
      subst ei
      rw [← e5] at k
      exact sg_40_31 (fun _ => ⟨rfl, k⟩) (fun a => by omega)
    | succ q ih =>
      intro i x5 x7 x9 x11 hq hi e5 e7 e9 e11
      obtain ⟨a1, a2, a3⟩ := zun_ok ho hr i hi
      have h0 : (zun n o r i).1 ≠ 0 := fun z => by rw [z, zinvs_0] at a3; omega
      have a4 := zlet_lt ho hr (show i < zinvs n o by omega)
      have hT := zTl_le (o := (zun n o r i).1) hn.2
      have hW := zwv_lt hn.2 ho hr (i + 1) (by omega)
      have hp : 8 ^ (i + 1) ≤ 8 ^ 21 := Nat.pow_le_pow_right (by decide) (by omega)
      have h63 : 8 ^ 21 = 9223372036854775808 := by decide
      have eW : zwv n o r (i + 1) = zwv n o r i * 8 + zlet n o r i := rfl
      refine sg_40_31 (fun a => by omega) fun _ => ?_
      refine cx_40b F T hn hr1 D a1 e9 (by omega) (n - 1) _ 0 _ _ (by omega) (by omega) (by rw [zsu_congr (g := zdn n (zun n o r i).1) (fun i _ => by rw [Nat.zero_add]), ← zTl_dn a1 h0]; exact a2) e7 rfl ?_
      have eL : (zpk n (zun n o r i).1 (n - 1) (zun n o r i).2 0).1 = zlet n o r i := rfl
      have eR : (zpk n (zun n o r i).1 (n - 1) (zun n o r i).2 0).2 = (zun n o r (i + 1)).2 := rfl
      rw [eL, eR]
      refine ih (i + 1) _ _ _ _ (by omega) (by omega) ?_ rfl ?_ (by omega)
      · rw [e5, zlor8 (by omega) (by omega), eW]
      · exact congrArg (fun z : Nat => (z : Int)) (zrn_cls a1 a4.1).symm
  refine sg_40_0 F (cx_84 hn.2 (by omega) (sg_40_15c F (cx_81 hn.2 (by omega) (sg_40_26c ?_))))
  rw [zinvo_in ho]
  exact loop _ 0 0 r (zin n o) 0 rfl (by omega) rfl rfl rfl rfl
/-- rankOf -/
theorem cx_41 {w n m en : Nat} {e : zel} (F : zFin h) (T : zOT h) (C : zCO h) (hp : zLad w) (hw4 : 4 < w) (L : zLC h w n m e) (hl : zlok n m e) (he : en < zfac n) (k : ∀ h', zFin h' → zOT h' → zCO h' → h 1 1 ≤ h' 1 1 → zfr [1, 2, 3, 4] h h' → K (some (zL (zrks n en (fun i => (e i).2.1) m : Int))) h') : zC X 41 [zR 3, zR w, zI en] h K := by
  have h5 := zfac7 hl.1.2
  have hn := hl.1
  have e2 := L.1
  refine sg_41_0 hp ?_
  rw [e2]
  refine cx_39 F T C hn fun h1 F1 T1 C1 r0 r1 fr D => ?_
  have kk := k h1 F1 T1 C1 r0 fr
  have nw : ∀ c, 4 < c → h1 c = h c := fun c a => fr c (by simp; omega)
  have L1 : zLC h1 w n m e := by
    obtain ⟨l1, l2, l3, l4⟩ := L
    refine ⟨by rw [nw w hw4]; exact l1, by rw [nw w hw4]; exact l2, by rw [nw w hw4]; exact l3, fun i hi => by rw [nw (w + 1) (by omega)]; exact l4 i hi⟩
  have e3 := L1.2.1
  have hm := hl.2.1
  clear k
  have hf : ∀ j, j < m → (e j).2.1 + 2 ≤ n := fun j hj => (hl.2.2.2 j hj).2.1
  have loop : ∀ (q i : Nat) (x4 x6 x7 : Int), m - i = q → i ≤ m → x4 = (zrks n en (fun i => (e i).2.1) i : Int) → x6 = (zin n (zrkv n en (fun i => (e i).2.1) i) : Int) → x7 = (i : Int) → zAt X 41 27 0 0 [some (zR 3), some (zR w), none, some (zI (n : Int)), some (zL x4), none, some (zI x6), some (zI x7), none, none, none] [] zSHc h1 (fun v sh' h' => sh' = zSHc ∧ K v h') := by
    intro q
    induction q with
    | zero =>
      intro i x4 x6 x7 hq hi e4 e6 e7
      have ei : i = m := by omega
      subst ei
      rw [← e4] at kk
      exact sg_41_27 F1 hp (fun _ => ⟨rfl, kk⟩) (fun a => by omega)
    | succ q ih =>
      intro i x4 x6 x7 hq hi e4 e6 e7
      have hi' : i < m := by omega
      have a1 := zrkv_lt (f := fun i => (e i).2.1) he i fun j hj => hf j (by omega)
      have b0 := zrks_le (f := fun i => (e i).2.1) he hn.2 i fun j hj => hf j (by omega)
      have b1 : i * 21936950640377856 ≤ 200 * 21936950640377856 := Nat.mul_le_mul_right _ (by omega)
      have hlg := L1.lg hl hi'
      have f1 := hf i hi'
      have hin := zin_lt a1
      have inner : ∀ (s j : Nat) (y z : Int), (e i).2.1 - j = s → j ≤ (e i).2.1 → z = (j : Int) → y = ((zrks n en (fun i => (e i).2.1) i + zsu (zdn n (zrkv n en (fun i => (e i).2.1) i)) j : Nat) : Int) → zAt X 41 47 0 0 [some (zR 3), some (zR w), none, some (zI (n : Int)), some (zL y), none, some (zI x6), some (zI x7), some (zI ((e i).2.1 : Int)), some (zI z), none] [] zSHc h1 (fun v sh' h' => sh' = zSHc ∧ K v h') := by
        intro s
        induction s with
        | zero =>
          intro j y z hs hj ez ey
          have ej : j = (e i).2.1 := by omega
          subst ej
          refine sg_41_47 F1 (fun _ => ?_) (fun a => by omega)
          rw [e6]
          refine cx_86 F1 T1 hn.1 r1 f1 hin (sg_41_104c (by omega) ?_)
          refine ih (i + 1) _ _ _ (by omega) (by omega) ey ?_ (by omega)
          exact congrArg (fun z : Nat => (z : Int)) (zrn_cls a1 f1).symm
        | succ s is =>
          intro j y z hs hj ez ey
          have hj2 : j + 2 ≤ n := by omega
          have hw := zx_lt hin hj2
          have e8 : zCnt h1 (zx n j (zin n (zrkv n en (fun i => (e i).2.1) i)) : Int) = (zTl n (zx n j (zin n (zrkv n en (fun i => (e i).2.1) i))) : Int) := by
            unfold zCnt
            rw [if_pos (by omega), Int.toNat_natCast]
            exact D _ hw
          have hT := zTl_le (o := zx n j (zin n (zrkv n en (fun i => (e i).2.1) i))) hn.2
          have hS := zdn_le a1 hn.2 (l := j) (by omega)
          have es : zsu (zdn n (zrkv n en (fun i => (e i).2.1) i)) (j + 1) = zsu (zdn n (zrkv n en (fun i => (e i).2.1) i)) j + zdn n (zrkv n en (fun i => (e i).2.1) i) j := rfl
          rw [zdn_cls hn.2 a1 hj2] at es
          have nx := is (j + 1)
          refine sg_41_47 F1 (fun a => by omega) (fun _ => ?_)
          rw [e6, ez]
          refine cx_86 F1 T1 hn.1 r1 hj2 hin ?_
          rw [show zsj (n - 2 - j) (zin n (zrkv n en (fun i => (e i).2.1) i)) = zx n j (zin n (zrkv n en (fun i => (e i).2.1) i)) from rfl]
          refine sg_41_66c F1 (fun _ => by omega) (fun c => ?_) (fun c => ?_) (fun _ => by omega) (fun c => ?_)
          · rw [if_neg (by omega)] at es
            rw [← e6, ← ez]
            exact nx _ _ (by omega) (by omega) (by omega) (by omega)
          · rw [e8]; omega
          · rw [if_pos (by omega)] at es
            rw [e8, ← e6, ← ez]
            exact nx _ _ (by omega) (by omega) (by omega) (by omega)
      refine sg_41_27 F1 hp (fun a => by omega) (fun _ => ?_)
      rw [show x7 = (i : Int) from e7, hlg, ← e7]
      exact inner _ 0 _ _ rfl (by omega) rfl (by rw [e4]; rfl)
  refine sg_41_10c F1 (cx_84 hn.2 (by omega) (sg_41_22c ?_))
  rw [zinvo_in he]
  exact loop _ 0 0 (zin n en) 0 rfl (by omega) rfl rfl rfl
end
