/-! THE CLASS: LEAST LADDERS -/
theorem zOT.fr {h h' : zHP} (T : zOT h) (f1 : h' 1 = h 1) (f2 : h' 2 = h 2) : zOT h' := by
  obtain ⟨r, e0, a, b, t⟩ := T
  refine ⟨r, by rw [f1]; exact e0, a, b, ?_⟩
  unfold zOTr at *
  rw [f2]
  exact t
theorem zand7 (y : Nat) : ziand (zw (y : Int)) 7 = ((y % 8 : Nat) : Int) := by
  unfold ziand
  show (Int32.ofInt (zw (y : Int)) &&& Int32.ofInt ((7 : Nat) : Int)).toBitVec.toInt = _
  have e : Int32.ofInt (zw (y : Int)) = Int32.ofInt (y : Int) := by
    apply Int32.toBitVec_inj.mp
    show BitVec.ofInt 32 (zw (y : Int)) = BitVec.ofInt 32 (y : Int)
    apply BitVec.eq_of_toInt_eq
    rw [BitVec.toInt_ofInt, BitVec.toInt_ofInt]
    unfold zw
    exact Int.bmod_bmod
  rw [e, Int32.toBitVec_and, zi_bv, zi_bv, zbvand]
  have e7 : y &&& 7 = y % 8 := Nat.and_two_pow_sub_one_eq_mod y 3
  rw [e7]
  exact zbv32 (by omega)
theorem zinL_sum {n o : Nat} {f : Nat → Nat} (hf : ∀ v, v < n → zlgI n o v = (f v : Int)) (x : Nat) : ∀ (m g a : Nat), g + m = n → zinL n o (x : Int) m g a = a + zsu (fun j => if f (g + j) < x then 1 else 0) m
  | 0, _, _, _ => rfl
  | m + 1, g, a, h => by
    unfold zinL
    rw [zinL_sum hf x m (g + 1) _ (by omega), zsu_shift, hf g (by omega)]
    have e : zsu (fun j => if f (g + 1 + j) < x then 1 else 0) m = zsu (fun i => if f (g + (i + 1)) < x then 1 else 0) m := zsu_congr fun i _ => by rw [show g + 1 + i = g + (i + 1) by omega]
    rw [e]
    by_cases c : f g < x
    · rw [if_pos (by omega), show g + 0 = g from rfl, if_pos c]; omega
    · rw [if_neg (by omega), show g + 0 = g from rfl, if_neg c]; omega
theorem zinv1_hn {n o : Nat} {f : Nat → Nat} (hf : ∀ v, v < n → zlgI n o v = (f v : Int)) : ∀ (m v a : Nat), v + m = n → zinv1 n o m v a = zhn f n m v a
  | 0, _, _, _ => rfl
  | m + 1, v, a, h => by
    unfold zinv1 zhn
    have e : zinL n o (zlgI n o v) (n - 1 - v) (v + 1) 0 = zless f n v := by
      rw [hf v (by omega), zinL_sum hf (f v) (n - 1 - v) (v + 1) 0 (by omega)]
      unfold zless
      obtain ⟨d, hd⟩ : ∃ d, n = (v + 1) + d := ⟨n - (v + 1), by omega⟩
      rw [show n - 1 - v = d by omega]
      have e2 := zsu_split (f := fun k => if v < k ∧ f k < f v then 1 else 0) (a := v + 1) d
      rw [← hd] at e2
      rw [e2, zsu_congr (n := v + 1) (g := fun _ => 0) (fun k hk => if_neg (fun z => by omega)), zsu_0]
      exact congrArg (0 + ·) (zsu_congr fun i _ => by
        by_cases c : f (v + 1 + i) < f v
        · rw [if_pos c, if_pos ⟨by omega, c⟩]
        · rw [if_neg c, if_neg fun z => c z.2])
    rw [e]
    exact zinv1_hn hf m (v + 1) _ (by omega)
theorem zinvo_in {n o : Nat} (ho : o < zfac n) : zinvo n o = zin n o := by
  unfold zinvo
  rw [zinv1_hn (f := zp n o) (fun v hv => zlg_p ho hv) n 0 0 (by omega), zhn_ext (g := zr n (zin n o)) (fun i hi => (zin_r ho hi).symm) n 0 0 (by omega)]
  exact zhn_o (zin_lt ho)
def zls (n v l : Nat) : Nat := (if v = 0 then 1 else 0) + zsu (fun k => if zx n k v < v then zTl n (zx n k v) else 0) l
theorem zls_all {n v : Nat} (hn : n ≤ 7) (hv : v < zfac n) : zls n v (n - 1) = zTl n v := by
  unfold zls
  by_cases h0 : v = 0
  · subst h0
    rw [if_pos rfl, zsu_congr (g := fun _ => 0) (fun k _ => if_neg (Nat.not_lt_zero _)), zsu_0, zTl_0]
  · rw [if_neg h0, zTl_rec hv h0, Nat.zero_add]
    refine zsu_congr fun k hk => ?_
    have := zx_desc hv hn (show k + 2 ≤ n by omega)
    by_cases c : zx n k v < v
    · rw [if_pos c, if_pos (this.mp c)]
    · rw [if_neg c, if_neg fun z => c (this.mpr z)]
theorem zls_le {n v l : Nat} (hn : n ≤ 7) (hv : v < zfac n) (hl : l ≤ n - 1) : zls n v l ≤ 21936950640377856 := by
  have h1 := zls_all hn hv
  have h2 := zTl_le (o := v) hn
  have h3 := zsu_up (f := fun k => if zx n k v < v then zTl n (zx n k v) else 0) hl
  unfold zls at h1 ⊢
  omega
/-- the counts that the class keeps -/
def zCO (h : zHP) : Prop := ∃ q : Nat, h 3 2 = (q : Int) ∧ q ≤ 5040 ∧ ∀ o, o < q → h 4 o = (zTl 7 o : Int)
theorem zdn_cls {n v k : Nat} (hn : n ≤ 7) (hv : v < zfac n) (hk : k + 2 ≤ n) : zdn n v k = if zx n k (zin n v) < zin n v then zTl n (zx n k (zin n v)) else 0 := by
  have h1 := zin_lt hv
  have d := zx_desc h1 hn hk
  rw [zin_r hv (by omega), zin_r hv (by omega)] at d
  unfold zdn
  have e : zTl n (zrn n k v) = zTl n (zx n k (zin n v)) := zTl_in (zx_lt h1 hk)
  by_cases c : zp n v (k + 1) < zp n v k
  · rw [if_pos c, if_pos (d.mpr c), e]
  · rw [if_neg c, if_neg fun z => c (d.mp z)]
section
variable {X : List Int} {h : zHP} {K : Option zAV → zHP → Prop}
/-- letter -/
theorem cx_147 {x m i : Nat} (hx : x < 9223372036854775808) (hi : i < m) (hm : m ≤ 21) (k : K (some (zI (x / 8 ^ (m - 1 - i) % 8 : Nat))) h) : zC X 147 [zL x, zI m, zI i] h K := by
  have e1 : 3 * (((m : Int) - 1) - i) = ((3 * (m - 1 - i) : Nat) : Int) := by omega
  refine sg_147_0 (by omega) (by omega) (by omega) ⟨rfl, ?_⟩
  rw [e1, zlushr_n (by omega) hx, zand7, Nat.pow_mul]
  exact k
/-- reckonCounts -/
theorem cx_39 {n : Nat} (F : zFin h) (T : zOT h) (C : zCO h) (hn : 2 ≤ n ∧ n ≤ 7) (k : ∀ h', zFin h' → zOT h' → zCO h' → h 1 1 ≤ h' 1 1 → (n : Int) ≤ h' 1 1 → zfr [1, 2, 3, 4] h h' → (∀ o, o < zfac n → h' 4 o = (zTl n o : Int)) → K none h') : zC X 39 [zR 3, zI n] h K := by
  have h5 := zfac7 hn.2
  refine sg_39_0 F (cx_85 F T fun ha Fa Ta ra rn fra => ?_)
  obtain ⟨q, c1, c2, c3⟩ := C
  have rn := rn ⟨by omega, by omega⟩
  have eM : min (zHM (n : Int)) 5040 = (zfac n : Int) := by
    unfold zHM
    rw [if_pos ⟨by omega, by omega⟩, Int.toNat_natCast]
    omega
  have a3 : ha 3 2 = (q : Int) := by rw [fra 3 (by decide)]; exact c1
  refine sg_39_8c Fa ?_
  rw [eM, a3]
  have loop : ∀ (p v : Nat) (h1 : zHP) (x : Int), zfac n - v = p → q ≤ v → (v ≤ zfac n ∨ v = q) → x = (v : Int) → zFin h1 → zfr [4] ha h1 → (∀ o, o < v → h1 4 o = (zTl 7 o : Int)) → zAt X 39 30 0 0 [some (zR 3), some (zI (n : Int)), some (zI (zfac n : Int)), some (zI x), none, none, none, none] [] zSHc h1 (fun v sh' h' => sh' = zSHc ∧ K v h') := by
    intro p
    induction p with
    | zero =>
      intro v h1 x hp hq hv hx F1 fr D
      have e3 : h1 3 2 = (q : Int) := by rw [fr 3 (by decide)]; exact a3
      refine sg_39_30 (fun _ => ⟨rfl, ?_⟩) (fun a => by omega) (fun a => by omega)
      refine k _ (F1.up zfn_3_2) (Ta.fr (funext fun j => by rw [zup_c (by decide), fr 1 (by decide)]) (funext fun j => by rw [zup_c (by decide), fr 2 (by decide)])) ⟨max q (zfac n), by rw [zup_eq, e3]; omega, by omega, fun o ho => by rw [zup_c (by decide)]; exact D o (by omega)⟩ (by rw [zup_c (by decide), fr 1 (by decide)]; exact ra) (by rw [zup_c (by decide), fr 1 (by decide)]; exact rn) (((fra.mono (by simp)).trans (fr.mono (by simp))).up (by simp)) fun o ho => ?_
      rw [zup_c (by decide), D o (by omega), zTl_7 (by omega) hn.2 ho]
    | succ p ih =>
      intro v h1 x hp hq hv hx F1 fr D
      have hv' : v < zfac n := by omega
      have T1 : zOT h1 := Ta.fr (fr 1 (by decide)) (fr 2 (by decide))
      have r1 : (n : Int) ≤ h1 1 1 := by rw [fr 1 (by decide)]; exact rn
      have inner : ∀ (s l : Nat) (y z : Int), n - 1 - l = s → l ≤ n - 1 → z = (l : Int) → y = (zls n v l : Int) → zAt X 39 49 0 0 [some (zR 3), some (zI (n : Int)), some (zI (zfac n : Int)), some (zI x), some (zL y), none, some (zI z), none] [] zSHc h1 (fun v sh' h' => sh' = zSHc ∧ K v h') := by
        intro s
        induction s with
        | zero =>
          intro l y z hs hl hz hy
          have el : l = n - 1 := by omega
          rw [el, zls_all hn.2 hv', ← zTl_7 (by omega) hn.2 hv'] at hy
          refine sg_39_49 F1 (by omega) (fun _ => by omega) (fun _ => by omega) (fun _ => ?_) (fun a => by omega)
          refine ih (v + 1) _ _ (by omega) (by omega) (by omega) (by omega) (F1.upA zfa_4) (fr.up (by simp)) fun o ho => ?_
          by_cases c : o = v
          · rw [c, show x.toNat = v by omega, zup_eq]; exact hy
          · rw [zup_k (by omega)]; exact D o (by omega)
        | succ s is =>
          intro l y z hs hl hz hy
          have hl2 : l + 2 ≤ n := by omega
          have hw := zx_lt hv' hl2
          have es : zls n v (l + 1) = zls n v l + (if zx n l v < v then zTl n (zx n l v) else 0) := by unfold zls; rw [Nat.add_assoc]; rfl
          have b1 := zls_le (l := l + 1) hn.2 hv' (by omega)
          have nx := is (l + 1)
          have ec : zx n l v < v → zCnt h1 (zx n l v : Int) = (zTl n (zx n l v) : Int) := fun c => by
            unfold zCnt
            rw [if_pos (by omega), Int.toNat_natCast, D _ c, zTl_7 (by omega) hn.2 hw]
          refine sg_39_49 F1 (by omega) (fun a => by omega) (fun a => by omega) (fun a => by omega) fun _ => ?_
          rw [hx, hz]
          refine cx_86 F1 T1 hn.1 r1 hl2 hv' ?_
          rw [show zsj (n - 2 - l) v = zx n l v from rfl]
          refine sg_39_68c F1 (fun _ => by omega) (fun c => ?_) (fun c => ?_) (fun _ => by omega) (fun c => ?_)
          · rw [if_neg (by omega)] at es
            rw [← hx]
            exact nx y _ (by omega) (by omega) (by omega) (by omega)
          · rw [if_pos (by omega)] at es
            rw [ec (by omega)]
            omega
          · rw [if_pos (by omega)] at es
            rw [ec (by omega), ← hx]
            exact nx _ _ (by omega) (by omega) (by omega) (by omega)
      have e0 : zls n v 0 = if v = 0 then 1 else 0 := rfl
      refine sg_39_30 (fun a => by omega) (fun _ c => ?_) (fun _ c => ?_)
      · rw [if_neg (by omega)] at e0
        exact inner _ 0 0 0 rfl (by omega) rfl (by omega)
      · rw [if_pos (by omega)] at e0
        exact inner _ 0 1 0 rfl (by omega) rfl (by omega)
  exact loop _ q ha _ rfl (by omega) (by omega) rfl Fa zfr.rfl fun o ho => by rw [fra 4 (by decide)]; exact c3 o ho
/-- howMany -/
theorem cx_37 {n o : Nat} (F : zFin h) (T : zOT h) (C : zCO h) (hn : 2 ≤ n ∧ n ≤ 7) (ho : o < zfac n) (k : ∀ h', zFin h' → zOT h' → zCO h' → h 1 1 ≤ h' 1 1 → (n : Int) ≤ h' 1 1 → zfr [1, 2, 3, 4] h h' → (∀ o, o < zfac n → h' 4 o = (zTl n o : Int)) → K (some (zL (zTl n o : Int))) h') : zC X 37 [zR 3, zI n, zI o] h K := by
  have h5 := zfac7 hn.2
  refine sg_37_0 F (fun _ => ?_) (fun c => absurd ⟨⟨by omega, by omega⟩, by omega, zFc_c ho⟩ c)
  refine cx_39 F T C hn fun h' F' T' C' r1 r2 fr D => sg_37_19c F' ⟨rfl, ?_⟩
  have e : zCnt h' (o : Int) = (zTl n o : Int) := by
    unfold zCnt
    rw [if_pos (by omega), Int.toNat_natCast]
    exact D o ho
  rw [e]
  exact k h' F' T' C' r1 r2 fr D
end
