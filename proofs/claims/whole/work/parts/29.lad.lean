/-! WHAT THE METHODS OF A LADDER DO -/
theorem zcod (x : Int) (k : Nat) (hk : k ≤ 31) : ziand x ((2 ^ k - 1 : Nat) : Int) = x % ((2 ^ k : Nat) : Int) := by
  have hp : 2 ^ k ≤ 2 ^ 31 := Nat.pow_le_pow_right (by omega) hk
  have hp0 : 0 < 2 ^ k := Nat.two_pow_pos k
  unfold ziand
  show (Int32.ofInt x &&& Int32.ofInt ((2 ^ k - 1 : Nat) : Int)).toBitVec.toInt = _
  rw [Int32.toBitVec_and, zi_bv]
  show (BitVec.ofInt 32 x &&& BitVec.ofNat 32 (2 ^ k - 1)).toInt = _
  have e : (BitVec.ofInt 32 x &&& BitVec.ofNat 32 (2 ^ k - 1)).toNat = (BitVec.ofInt 32 x).toNat % 2 ^ k := by
    rw [BitVec.toNat_and, BitVec.toNat_ofNat, Nat.mod_eq_of_lt (show 2 ^ k - 1 < 2 ^ 32 by omega), Nat.and_two_pow_sub_one_eq_mod]
  have hlt : (BitVec.ofInt 32 x).toNat % 2 ^ k < 2 ^ k := Nat.mod_lt _ hp0
  rw [BitVec.toInt_eq_toNat_of_lt (by omega), e, BitVec.toNat_ofInt, Int.natCast_emod, Int.toNat_of_nonneg (Int.emod_nonneg _ (by decide))]
  have hd : ((2 ^ k : Nat) : Int) ∣ ((2 ^ 32 : Nat) : Int) := Int.natCast_dvd_natCast.mpr (Nat.pow_dvd_pow 2 (by omega))
  exact Int.emod_emod_of_dvd x hd
theorem zcod3 (x : Int) : ziand x 3 = x % 4 := zcod x 2 (by decide)
theorem zcod7 (x : Int) : ziand x 7 = x % 8 := zcod x 3 (by decide)
theorem zenc_or {k l a b : Nat} (hk : k < 4) (hl : l < 8) (ha : a < 8) (hb : b < 8) : zior (zior (zior (k : Int) (zishl (l : Int) 2)) (zishl (a : Int) 5)) (zishl (b : Int) 8) = ((k + l * 4 + a * 32 + b * 256 : Nat) : Int) := by
  rw [show (2 : Int) = ((2 : Nat) : Int) from rfl, show (5 : Int) = ((5 : Nat) : Int) from rfl, show (8 : Int) = ((8 : Nat) : Int) from rfl, zishl_n (by omega) (by omega), zishl_n (by omega) (by omega), zishl_n (by omega) (by omega)]
  rw [zior_n (by omega) (by omega), zor_add 2 (by omega), zior_n (by omega) (by omega), zor_add 5 (by omega), zior_n (by omega) (by omega), zor_add 8 (by omega)]
section
variable {X : List Int} {h : zHP} {K : Option zAV → zHP → Prop}
theorem cx_29 {o s b kd : Nat} {c : Int} (F : zFin h) (hp : zLad o) (h3 : h o 3 = (s : Int)) (h4 : h o 4 = (b : Int)) (hs : s ≤ 100000) (hb : b ≤ 100000) (hc : ziand c 3 = (kd : Int)) (k : ∀ h', zFin h' → zfr [o, o + 1] h h' → h' o 2 = h o 2 → h' o 5 = h o 5 → h' o 3 = ((min (s + 1) 100000 : Nat) : Int) → h' o 4 = ((if kd = 3 then min (b + 1) 100000 else b : Nat) : Int) → (∀ i, i ≠ s → h' (o + 1) i = h (o + 1) i) → (s < 200 → h' (o + 1) s = c) → K none h') : zC X 29 [zR o, zI c] h K := by
  have e3 : (h o 3).toNat = s := by omega
  have ho : ¬ o + 1 = o := by omega
  have ho2 : ¬ o = o + 1 := by omega
  apply sg_29_0 F hp <;> intros <;> (try omega)
  · refine ⟨rfl, k _ (zLad.up F hp rfl) (zfr.rfl.up (by simp)) (zup_k (by decide)) (zup_k (by decide)) ?_ ?_ (fun i _ => zup_c ho) (fun _ => by omega)⟩
    · rw [zup_eq]; omega
    · rw [zup_k (by decide), if_neg (by omega)]; exact h4
  · rw [zup_k (by decide)]; omega
  · refine ⟨rfl, k _ (zLad.up (zLad.up F hp rfl) hp rfl) ((zfr.rfl.up (by simp)).up (by simp)) ((zup_k (by decide)).trans (zup_k (by decide))) ((zup_k (by decide)).trans (zup_k (by decide))) ?_ ?_ (fun i _ => (zup_c ho).trans (zup_c ho)) (fun _ => by omega)⟩
    · rw [zup_k (by decide), zup_eq]; omega
    · rw [zup_eq, zup_k (by decide), if_pos (by omega)]; omega
  · rw [zup_c ho2]; omega
  · refine ⟨rfl, k _ (zLad.up (F.upV hp.a1) hp rfl) ((zfr.rfl.up (by simp)).up (by simp)) ((zup_k (by decide)).trans (zup_c ho2)) ((zup_k (by decide)).trans (zup_c ho2)) ?_ ?_ (fun i hi => (zup_c ho).trans (zup_k (by omega))) (fun _ => ?_)⟩
    · rw [zup_eq, zup_c ho2]; omega
    · rw [zup_k (by decide), zup_c ho2, if_neg (by omega)]; exact h4
    · rw [zup_c ho, e3, zup_eq]
  · rw [zup_k (by decide), zup_c ho2]; omega
  · refine ⟨rfl, k _ (zLad.up (zLad.up (F.upV hp.a1) hp rfl) hp rfl) (((zfr.rfl.up (by simp)).up (by simp)).up (by simp)) ((zup_k (by decide)).trans ((zup_k (by decide)).trans (zup_c ho2))) ((zup_k (by decide)).trans ((zup_k (by decide)).trans (zup_c ho2))) ?_ ?_ (fun i hi => (zup_c ho).trans ((zup_c ho).trans (zup_k (by omega)))) (fun _ => ?_)⟩
    · rw [zup_k (by decide), zup_eq, zup_c ho2]; omega
    · rw [zup_eq, zup_k (by decide), zup_c ho2, if_pos (by omega)]; omega
    · rw [zup_c ho, zup_c ho, e3, zup_eq]
/-- add: only the last bits of what is told are held -/
theorem cx_28 {o s b kd : Nat} {l a c : Int} (F : zFin h) (hp : zLad o) (h3 : h o 3 = (s : Int)) (h4 : h o 4 = (b : Int)) (hs : s ≤ 100000) (hb : b ≤ 100000) (hk : kd < 4) (k : ∀ h', zFin h' → zfr [o, o + 1] h h' → h' o 2 = h o 2 → h' o 5 = h o 5 → h' o 3 = ((min (s + 1) 100000 : Nat) : Int) → h' o 4 = ((if kd = 3 then min (b + 1) 100000 else b : Nat) : Int) → (∀ i, i ≠ s → h' (o + 1) i = h (o + 1) i) → (s < 200 → h' (o + 1) s = ((kd + (l % 8).toNat * 4 + (a % 8).toNat * 32 + (c % 8).toNat * 256 : Nat) : Int)) → K none h') : zC X 28 [zR o, zI kd, zI l, zI a, zI c] h K := by
  refine sg_28_0 hp ?_
  have e : zior (zior (zior (ziand (kd : Int) 3) (zishl (ziand l 7) 2)) (zishl (ziand a 7) 5)) (zishl (ziand c 7) 8) = ((kd + (l % 8).toNat * 4 + (a % 8).toNat * 32 + (c % 8).toNat * 256 : Nat) : Int) := by
    rw [zcod3, zcod7, zcod7, zcod7, show (kd : Int) % 4 = (kd : Int) by omega, show l % 8 = (((l % 8).toNat : Nat) : Int) by omega, show a % 8 = (((a % 8).toNat : Nat) : Int) by omega, show c % 8 = (((c % 8).toNat : Nat) : Int) by omega]
    exact zenc_or hk (by omega) (by omega) (by omega)
  rw [e]
  refine cx_29 F hp h3 h4 hs hb (kd := kd) ?_ fun h' F' fr a1 a2 a3 a4 a5 a6 => sg_28_30c ⟨rfl, k h' F' fr a1 a2 a3 a4 a5 a6⟩
  rw [zcod3]
  omega
/-- isPlain -/
theorem cx_32 {o n m : Nat} {e : zel} (F : zFin h) (hp : zLad o) (L : zLC h o n m e) (hl : zlok n m e) (k1 : zplain e m → K (some (zI 1)) h) (k0 : ¬ zplain e m → K (some (zI 0)) h) : zC X 32 [zR o] h K := by
  have hm := hl.2.1
  have e3 := L.2.1
  have loop : ∀ (q i : Nat) (x : Int), m - i = q → i ≤ m → x = (i : Int) → (∀ j, j < i → (e j).1 = 0) → zAt X 32 2 0 0 [some (zR o), some (zI x)] [] zSHc h (fun v sh' h' => sh' = zSHc ∧ K v h') := by
    intro q
    induction q with
    | zero =>
      intro i x hq hi hx hz
      apply sg_32_2 F hp <;> intros <;> (try omega)
      exact ⟨rfl, k1 fun j hj => hz j (by omega)⟩
    | succ q ih =>
      intro i x hq hi hx hz
      have hk := L.kd hl (show i < m by omega)
      rw [← hx] at hk
      apply sg_32_2 F hp <;> intros <;> (try omega)
      · refine ih (i + 1) _ (by omega) (by omega) (by omega) fun j hj => ?_
        by_cases c : j = i
        · subst c; omega
        · exact hz j (by omega)
      · refine ⟨rfl, k0 fun z => ?_⟩
        have := z i (by omega)
        omega
  exact sg_32_0 (loop m 0 0 (by omega) (by omega) rfl (fun j hj => by omega))
/-- allWays -/
theorem cx_33 {o n m : Nat} {e : zel} (F : zFin h) (hp : zLad o) (L : zLC h o n m e) (hl : zlok n m e) (k : K (some (zL (zways e m : Int))) h) : zC X 33 [zR o] h K := by
  have hm := hl.2.1
  have e3 := L.2.1
  have loop : ∀ (q i : Nat) (x y : Int), m - i = q → i ≤ m → x = (i : Int) → y = (zways e i : Int) → zAt X 33 4 0 0 [some (zR o), some (zL y), none, some (zI x)] [] zSHc h (fun v sh' h' => sh' = zSHc ∧ K v h') := by
    intro q
    induction q with
    | zero =>
      intro i x y hq hi hx hy
      have ei : i = m := by omega
      subst ei
      apply sg_33_4 F hp <;> intros <;> (try omega)
      subst hy
      exact ⟨rfl, k⟩
    | succ q ih =>
      intro i x y hq hi hx hy
      have hk := L.kd hl (show i < m by omega)
      have hb := L.wb hl (show i < m by omega)
      have b1 := zways_b hl (show i ≤ m by omega)
      have b2 := zways_b hl (show i + 1 ≤ m by omega)
      rw [← hx] at hk hb
      have es : zways e (i + 1) = if (e i).1 = 3 then zways e i * (e i).2.2.2 else zways e i := rfl
      by_cases c : (e i).1 = 3
      · rw [if_pos c] at es hb
        have em : y * zWb h o x = (zways e (i + 1) : Int) := by rw [hb, hy, es]; exact (Int.natCast_mul _ _).symm
        apply sg_33_4 F hp <;> intros <;> (try omega)
        exact ih (i + 1) _ _ (by omega) (by omega) (by omega) em
      · rw [if_neg c] at es
        apply sg_33_4 F hp <;> intros <;> (try omega)
        exact ih (i + 1) _ _ (by omega) (by omega) (by omega) (by omega)
  exact sg_33_0 (loop m 0 0 1 (by omega) (by omega) rfl rfl)
/-- layerAt: the tops behind -/
theorem cx_34 {o n m last : Nat} {x : Int} {e : zel} (F : zFin h) (hp : zLad o) (L : zLC h o n m e) (hl : zlok n m e) (hx : x = (last : Int) - 1) (hla : last ≤ m) (k : ∀ h' v, zFin h' → zfr [o + 2] h h' → (∀ q, q < 9 → h' (o + 2) q = (ztop e last q : Int)) → (∀ i, i + 1 = last → v = (zlyr e i : Int)) → K (some (zI v)) h') : zC X 34 [zR o, zI x] h K := by
  have hm := hl.2.1
  have loop : ∀ (q i : Nat) (h1 : zHP) (y v : Int), last - i = q → i ≤ last → y = (i : Int) → zFin h1 → zfr [o + 2] h h1 → (∀ q, q < 9 → h1 (o + 2) q = (ztop e i q : Int)) → (∀ j, j + 1 = i → v = (zlyr e j : Int)) → zAt X 34 12 0 0 [some (zR o), some (zI x), some (zI v), some (zI y), none] [] zSHc h1 (fun v sh' h' => sh' = zSHc ∧ K v h') := by
    intro q
    induction q with
    | zero =>
      intro i h1 y v hq hi hy F1 fr T V
      have ei : i = last := by omega
      subst ei
      apply sg_34_12 F1 hp <;> intros <;> (try omega)
      exact ⟨rfl, k h1 v F1 fr T V⟩
    | succ q ih =>
      intro i h1 y v hq hi hy F1 fr T V
      have c0 : h1 o = h o := fr o (by simp)
      have c1 : h1 (o + 1) = h (o + 1) := fr (o + 1) (by simp)
      have L1 : zLC h1 o n m e := by unfold zLC; rw [c0, c1]; exact L
      have hg := L1.lg hl (show i < m by omega)
      have hs := L1.2.1
      rw [← hy] at hg
      have hx2 := (hl.2.2.2 i (by omega)).2.1
      have hn := hl.1
      have t1 := T (e i).2.1 (by omega)
      have t2 := T ((e i).2.1 + 1) (by omega)
      have b1 := ztop_le e i (e i).2.1
      have b2 := ztop_le e i ((e i).2.1 + 1)
      have n1 : (zLg h1 o y).toNat = (e i).2.1 := by omega
      have n2 : (zLg h1 o y + 1).toNat = (e i).2.1 + 1 := by omega
      have nv : max (h1 (o + 2) ((zLg h1 o y).toNat)) (h1 (o + 2) ((zLg h1 o y + 1).toNat)) + 1 = (zlyr e i : Int) := by
        rw [n1, n2, t1, t2]; unfold zlyr; omega
      have ly : zlyr e i ≤ 201 := by unfold zlyr; omega
      apply sg_34_12 F1 hp <;> intros <;> (try omega)
      rw [nv, n1, n2]
      refine ih (i + 1) _ _ _ (by omega) (by omega) (by omega) ((F1.upV hp.a2).upV hp.a2) ((fr.up (by simp)).up (by simp)) (fun q hq9 => ?_) (fun j hj => ?_)
      · have et : ztop e (i + 1) q = if q = (e i).2.1 ∨ q = (e i).2.1 + 1 then max (ztop e i (e i).2.1) (ztop e i ((e i).2.1 + 1)) + 1 else ztop e i q := rfl
        rw [et]
        by_cases g2 : q = (e i).2.1 + 1
        · subst g2; rw [zup_eq, if_pos (Or.inr rfl)]; rfl
        · rw [zup_k g2]
          by_cases g1 : q = (e i).2.1
          · subst g1; rw [zup_eq, if_pos (Or.inl rfl)]; rfl
          · rw [zup_k g1, if_neg (by omega)]; exact T q hq9
      · have : j = i := by omega
        subst this; rfl
  refine sg_34_0 F hp (zp_fillI hp.l2 hp.s2 (by decide) (sg_34_8c (loop last 0 _ 0 0 (by omega) (by omega) rfl ?_ ?_ ?_ (fun j hj => by omega))))
  · intro q hq
    unfold zfill
    have h5 : ¬ q.1 = o + 2 := fun z => by
      have := List.all_eq_true.mp hp.a2 q hq
      rw [z, Nat.beq_refl] at this
      cases this
    rw [if_neg h5]
    exact F q hq
  · intro c hc
    funext j
    unfold zfill
    rw [if_neg (by simpa using hc)]
  · intro q hq
    unfold zfill
    rw [if_pos rfl, if_pos hq]
    rfl
/-- deepest -/
theorem cx_35 {o n m : Nat} {e : zel} (F : zFin h) (hp : zLad o) (L : zLC h o n m e) (hl : zlok n m e) (k : ∀ h', zFin h' → zfr [o + 2] h h' → K (some (zI (zdeep e m : Int))) h') : zC X 35 [zR o] h K := by
  have hm := hl.2.1
  have e3 := L.2.1
  refine sg_35_0 hp (by omega) (cx_34 F hp L hl (last := m) (by omega) (Nat.le_refl _) fun h1 v F1 fr T V => sg_35_10c ?_)
  have loop : ∀ (q i : Nat) (x y : Int), 9 - i = q → i ≤ 9 → x = (i : Int) → 0 ≤ y → y ≤ (zdeep e m : Int) → (∀ j, j < i → (ztop e m j : Int) ≤ y) → zAt X 35 15 0 0 [some (zR o), some (zI y), some (zI x)] [] zSHc h1 (fun v sh' h' => sh' = zSHc ∧ K v h') := by
    intro q
    induction q with
    | zero =>
      intro i x y hq hi hx h0 hy hz
      apply sg_35_15 F1 hp <;> intros <;> (try omega)
      have ey : y = (zdeep e m : Int) := by
        rcases zdeep_top e (n := 9) m (fun j hj => by have := (hl.2.2.2 j hj).2.1; have := hl.1; omega) with g | ⟨q, g1, g2⟩
        · omega
        · have := hz q (by omega); omega
      subst ey
      exact ⟨rfl, k h1 F1 fr⟩
    | succ q ih =>
      intro i x y hq hi hx h0 hy hz
      have t := T i (by omega)
      have d := ztop_deep e m i
      have ex : x.toNat = i := by omega
      apply sg_35_15 F1 hp <;> intros <;> (try omega)
      rw [ex]
      refine ih (i + 1) _ _ (by omega) (by omega) (by omega) (by omega) (by omega) fun j hj => ?_
      by_cases c : j = i
      · subst c; omega
      · have := hz j (by omega); omega
  exact loop 9 0 0 0 (by omega) (by omega) rfl (by omega) (by omega) (fun j hj => by omega)
end
