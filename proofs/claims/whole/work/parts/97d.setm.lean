/-! THE REFERENCE: SETS OF BIT ROWS -/
theorem zV3_or1 {x w : Nat} (hw : w < 32) : zior (zV3 x) (zishl 1 (w : Int)) = zV3 (x ||| 2 ^ w) := by
  have key : ∀ w : Nat, w < 32 → zishl 1 (w : Int) = zV3 (2 ^ w) := by decide +kernel
  rw [key w hw, zV3_or]
theorem zV3_bit {x k : Nat} (hk : k < 32) : ziand (zishr (zV3 x) (k : Int)) 1 = if x.testBit k then 1 else 0 := by
  have e1 : zishr (zV3 x) (k : Int) = (BitVec.sshiftRight (BitVec.ofNat 32 x) k).toInt := by
    unfold zishr
    show (Int32.ofInt (zV3 x) >>> (Int32.ofInt (k : Int) &&& 31)).toBitVec.toInt = _
    rw [Int32.toBitVec_shiftRight, zV3_ofInt, zsh32 k hk]
    show (BitVec.sshiftRight (BitVec.ofNat 32 x) (BitVec.ofNat 32 k).toNat).toInt = _
    rw [BitVec.toNat_ofNat, Nat.mod_eq_of_lt (show k < 2 ^ 32 by omega)]
  have e2 : BitVec.sshiftRight (BitVec.ofNat 32 x) k &&& 1#32 = if x.testBit k then 1#32 else 0#32 := by
    rw [BitVec.and_one_eq_setWidth_ofBool_getLsbD, BitVec.getLsbD_sshiftRight]
    have e0 : (BitVec.ofNat 32 x)[k] = x.testBit k := by rw [← BitVec.getLsbD_eq_getElem hk, BitVec.getLsbD_ofNat, decide_eq_true hk, Bool.true_and]
    simp [hk]
    rw [e0]
    cases x.testBit k <;> rfl
  rw [e1]
  show (Int32.ofInt (BitVec.sshiftRight (BitVec.ofNat 32 x) k).toInt &&& Int32.ofInt 1).toBitVec.toInt = _
  rw [Int32.toBitVec_and]
  have e3 : (Int32.ofInt (BitVec.sshiftRight (BitVec.ofNat 32 x) k).toInt).toBitVec = BitVec.sshiftRight (BitVec.ofNat 32 x) k := by
    show BitVec.ofInt 32 _ = _
    exact BitVec.ofInt_toInt
  have e4 : (Int32.ofInt 1).toBitVec = 1#32 := by decide
  rw [e3, e4, e2]
  cases x.testBit k <;> decide
def zfil (P : Nat → Bool) (φ : Nat → Nat) : Nat → Nat → Bool
  | 0, _ => false
  | m + 1, a => zfil P φ m a || (P m && decide (φ m = a))
theorem zfil_iff {P : Nat → Bool} {φ : Nat → Nat} : ∀ {m a : Nat}, zfil P φ m a = true ↔ ∃ i, i < m ∧ P i = true ∧ φ i = a := by
  intro m
  induction m with
  | zero => intro a; exact ⟨fun h => (by cases h), fun ⟨i, h, _⟩ => (by omega)⟩
  | succ m ih =>
    intro a
    show (zfil P φ m a || (P m && decide (φ m = a))) = true ↔ _
    rw [Bool.or_eq_true, ih, Bool.and_eq_true, decide_eq_true_iff]
    constructor
    · rintro (⟨i, h1, h2⟩ | h)
      · exact ⟨i, by omega, h2⟩
      · exact ⟨m, by omega, h⟩
    · rintro ⟨i, h1, h2⟩
      by_cases c : i = m
      · exact Or.inr (by rw [← c]; exact h2)
      · exact Or.inl ⟨i, by omega, h2⟩
theorem zrb_or1 {f : Nat → Bool} {w : Nat} (hw : w < 32) : zrb 32 f ||| 2 ^ w = zrb 32 (fun a => f a || decide (w = a)) := by
  apply Nat.eq_of_testBit_eq
  intro j
  rw [Nat.testBit_or, zrb_bit, zrb_bit, Nat.testBit_two_pow]
  by_cases c : j < 32
  · rw [decide_eq_true c, Bool.true_and, Bool.true_and]
  · rw [decide_eq_false c, Bool.false_and, Bool.false_and, decide_eq_false (by omega)]; rfl
/-- the set of what comes out -/
def zSt (n : Nat) (e : zel) (m : Nat) (l : List Nat) : Nat := zrb 32 (zmmb (fun r => zrb n (zim e m l r)) (2 ^ n))
theorem zSt_bit {n m a : Nat} {e : zel} {l : List Nat} (hn : n ≤ 5) : (zSt n e m l).testBit a = true ↔ ∃ r, r < 2 ^ n ∧ zrb n (zim e m l r) = a := by
  unfold zSt
  have p : 2 ^ n ≤ 2 ^ 5 := Nat.pow_le_pow_right (by decide) hn
  rw [zrb_bit, Bool.and_eq_true, decide_eq_true_iff, zmmb_iff]
  constructor
  · exact fun z => z.2
  · rintro ⟨r, h1, h2⟩
    have : zrb n (zim e m l r) < 2 ^ n := zrb_lt n
    exact ⟨by omega, r, h1, h2⟩
theorem zSt_g {n m k r : Nat} {e : zel} {l : List Nat} (hn : n ≤ 5) (hk : k + 2 ≤ n) : zbp (zrb n (zim e m l r)) 1 k = zrb n (zim e m (k :: l) r) := by
  have p : 2 ^ n ≤ 2 ^ 5 := Nat.pow_le_pow_right (by decide) hn
  have lt : zrb n (zim e m l r) < 2 ^ n := zrb_lt n
  rw [zbp_all _ (by omega) k (by omega) 1 (by decide)]
  apply Nat.eq_of_testBit_eq
  intro j
  rw [zrb_bit, zrb_bit]
  show (decide (j < 7) && zga k (zrb n (zim e m l r)).testBit j) = (decide (j < n) && zga k (zim e m l r) j)
  by_cases c : j < n
  · rw [decide_eq_true c, decide_eq_true (by omega), Bool.true_and, Bool.true_and, zga_at, zga_at, zrb_bit, zrb_bit, zrb_bit, decide_eq_true c, decide_eq_true (show k < n by omega), decide_eq_true (show k + 1 < n by omega), Bool.true_and, Bool.true_and, Bool.true_and]
  · rw [decide_eq_false c, Bool.false_and, zga_at, if_neg (by omega), if_neg (by omega), zrb_bit, decide_eq_false c, Bool.false_and, Bool.and_false]
theorem zSt_k {n m k : Nat} {e : zel} {l : List Nat} (hn : n ≤ 5) (hk : k + 2 ≤ n) : zrb 32 (zfil (zSt n e m l).testBit (fun i => zbp i 1 k) (2 ^ n)) = zSt n e m (k :: l) := by
  refine zrb_ext fun a ha => zbool_iff ?_
  rw [zfil_iff, zmmb_iff]
  constructor
  · rintro ⟨i, -, h2, h3⟩
    obtain ⟨r, r1, r2⟩ := (zSt_bit hn).mp h2
    exact ⟨r, r1, by rw [← h3, ← r2]; exact (zSt_g hn hk).symm⟩
  · rintro ⟨r, r1, r2⟩
    exact ⟨zrb n (zim e m l r), zrb_lt n, (zSt_bit hn).mpr ⟨r, r1, rfl⟩, by rw [← r2]; exact zSt_g hn hk⟩
theorem zSt_ok {n m : Nat} {e : zel} {l : List Nat} (hn : 2 ≤ n ∧ n ≤ 5) : (∀ r, r < 2 ^ n → (zSt n e m l).testBit r = true → zsdb r.testBit (n - 1) = true) ↔ zwok n e m l := by
  have key : ∀ r, zsdb (zrb n (zim e m l r)).testBit (n - 1) = zsdb (zim e m l r) (n - 1) := fun r => zsdb_congr fun j hj => by
    rw [zrb_bit, decide_eq_true (show j < n by omega), Bool.true_and]
  constructor
  · intro H r hr
    rw [← key]
    exact H _ (zrb_lt n) ((zSt_bit hn.2).mpr ⟨r, hr, rfl⟩)
  · intro H a ha hb
    obtain ⟨r, r1, r2⟩ := (zSt_bit hn.2).mp hb
    rw [← r2, key]
    exact H r r1
theorem zcd_app {u v p q : List Nat} (hl : u.length = v.length) (hu : ∀ k ∈ u, k < 8) (hv : ∀ k ∈ v, k < 8) (h : zcd p < zcd q) : zcd (u ++ p) < zcd (v ++ q) := by
  induction u generalizing v with
  | nil =>
    cases v with
    | nil => exact h
    | cons k v => cases hl
  | cons a u ih =>
    cases v with
    | nil => cases hl
    | cons b v =>
      have e : u.length = v.length := by simpa using hl
      have := ih e (fun k hk => hu k (List.mem_cons_of_mem _ hk)) (fun k hk => hv k (List.mem_cons_of_mem _ hk))
      have a8 := hu a (List.mem_cons_self ..)
      have b8 := hv b (List.mem_cons_self ..)
      show 8 * zcd (u ++ p) + a < 8 * zcd (v ++ q) + b
      omega
section
variable {X : List Int} {h : zHP} {K : Option zAV → zHP → Prop}
/-- gated -/
theorem cm_320 {S n k : Nat} {a b c : Int} (hn : 2 ≤ n ∧ n ≤ 5) (hk : k + 2 ≤ n) (ha : a = zV3 S) (hb : b = (n : Int)) (hc : c = (k : Int)) (kk : K (some (zI (zV3 (zrb 32 (zfil S.testBit (fun i => zbp i 1 k) (2 ^ n)))))) h) : zC X 320 [zI a, zI b, zI c] h K := by
  have e2 : zishl 1 b = ((2 ^ n : Nat) : Int) := by rw [hb]; exact zpow2 (by omega)
  have p5 : 2 ^ n ≤ 2 ^ 5 := Nat.pow_le_pow_right (by decide) hn.2
  have loop : ∀ (p r : Nat) (x3 x4 : Int), 2 ^ n - r = p → r ≤ 2 ^ n → x4 = (r : Int) → x3 = zV3 (zrb 32 (zfil S.testBit (fun i => zbp i 1 k) r)) → zAt X 320 5 0 0 [some (zI a), some (zI b), some (zI c), some (zI x3), some (zI x4)] [] zSHc h (fun v sh' h' => sh' = zSHc ∧ K v h') := by
    intro p
    induction p with
    | zero =>
      intro r x3 x4 hp hr h4 h3
      have er : r = 2 ^ n := by omega
      rw [er] at h3
      rw [← h3] at kk
      exact sg_320_5 (fun _ => ⟨rfl, kk⟩) (fun z => by omega) (fun z => by omega) (fun z => by omega)
    | succ p ih =>
      intro r x3 x4 hp hr h4 h3
      have hr' : r < 2 ^ n := by omega
      have bit : ziand (zishr a x4) 1 = if S.testBit r then 1 else 0 := by rw [ha, h4]; exact zV3_bit (by omega)
      have es : ∀ t, zfil S.testBit (fun i => zbp i 1 k) (r + 1) t = (zfil S.testBit (fun i => zbp i 1 k) r t || (S.testBit r && decide (zbp r 1 k = t))) := fun t => rfl
      cases cc : S.testBit r with
      | false =>
        rw [cc, if_neg (by decide)] at bit
        refine sg_320_5 (fun z => by omega) (fun _ _ => by omega) (fun _ _ => ih (r + 1) _ _ (by omega) (by omega) (by omega) ?_) (fun _ z => by rw [bit] at z; exact absurd z (by decide))
        rw [h3]
        refine congrArg zV3 (zrb_ext fun t _ => ?_)
        rw [es, cc, Bool.false_and, Bool.or_false]
      | true =>
        rw [cc, if_pos rfl] at bit
        refine sg_320_5 (fun z => by omega) (fun _ z => absurd bit z) (fun _ z => absurd bit z) (fun _ _ => ?_)
        refine cm_313 (r := r) (x := (1, k, 0, 0)) (by omega) (show k < 6 by omega) (show 1 < 3 by decide) h4 rfl hc (sg_320_32c (by omega) ?_)
        have lt : zbp r 1 k < 32 := by
          have := zbp_all r (by omega) k (by omega) 1 (by decide)
          have g := zSt_g (e := fun _ => (0, 0, 0, 0)) (m := 0) (l := []) (r := r) hn.2 hk
          have e1 : zrb n (zim (fun _ => (0, 0, 0, 0)) 0 [] r) = r := zrb_eq hr'
          rw [e1] at g
          rw [g]
          have : zrb n (zim (fun _ => (0, 0, 0, 0)) 0 [k] r) < 2 ^ n := zrb_lt n
          omega
        refine ih (r + 1) _ _ (by omega) (by omega) (by omega) ?_
        rw [h3]
        show zior _ (zishl 1 (zbp r 1 k : Int)) = _
        rw [zV3_or1 lt, zrb_or1 lt]
        refine congrArg zV3 (zrb_ext fun t _ => ?_)
        rw [es, cc, Bool.true_and]
  refine sg_320_0 (loop _ 0 0 0 rfl (Nat.zero_le _) rfl ?_)
  show (0 : Int) = zV3 (zrb 32 fun _ => false)
  decide
/-- isAllSorted -/
theorem cm_321 {S n : Nat} {a b : Int} (hn : 2 ≤ n ∧ n ≤ 5) (ha : a = zV3 S) (hb : b = (n : Int)) (k1 : (∀ r, r < 2 ^ n → S.testBit r = true → zsdb r.testBit (n - 1) = true) → K (some (zI 1)) h) (k0 : ¬ (∀ r, r < 2 ^ n → S.testBit r = true → zsdb r.testBit (n - 1) = true) → K (some (zI 0)) h) : zC X 321 [zI a, zI b] h K := by
  have e2 : zishl 1 b = ((2 ^ n : Nat) : Int) := by rw [hb]; exact zpow2 (by omega)
  have p5 : 2 ^ n ≤ 2 ^ 5 := Nat.pow_le_pow_right (by decide) hn.2
  have loop : ∀ (p r : Nat) (x2 : Int), 2 ^ n - r = p → r ≤ 2 ^ n → x2 = (r : Int) → (∀ q, q < r → S.testBit q = true → zsdb q.testBit (n - 1) = true) → zAt X 321 2 0 0 [some (zI a), some (zI b), some (zI x2)] [] zSHc h (fun v sh' h' => sh' = zSHc ∧ K v h') := by
    intro p
    induction p with
    | zero =>
      intro r x2 hp hr h2 D
      have er : r = 2 ^ n := by omega
      rw [er] at D
      exact sg_321_2 (fun _ => ⟨rfl, k1 D⟩) (fun z => by omega) (fun z => by omega) (fun z => by omega)
    | succ p ih =>
      intro r x2 hp hr h2 D
      have hr' : r < 2 ^ n := by omega
      have bit : ziand (zishr a x2) 1 = if S.testBit r then 1 else 0 := by rw [ha, h2]; exact zV3_bit (by omega)
      have nx : ∀ v : Bool, S.testBit r = v → (v = true → zsdb r.testBit (n - 1) = true) → ∀ q, q < r + 1 → S.testBit q = true → zsdb q.testBit (n - 1) = true := fun v hv hz q hq hb => by
        by_cases d : q = r
        · rw [d] at hb ⊢
          exact hz (hv.symm.trans hb)
        · exact D q (by omega) hb
      cases cc : S.testBit r with
      | false =>
        rw [cc, if_neg (by decide)] at bit
        exact sg_321_2 (fun z => by omega) (fun _ _ => by omega) (fun _ _ => ih (r + 1) _ (by omega) (by omega) (by omega) (nx _ cc fun z => absurd z (by decide))) (fun _ z => by rw [bit] at z; exact absurd z (by decide))
      | true =>
        rw [cc, if_pos rfl] at bit
        refine sg_321_2 (fun z => by omega) (fun _ z => absurd bit z) (fun _ z => absurd bit z) (fun _ _ => ?_)
        refine cm_315 (w := r) ⟨hn.1, by omega⟩ (by omega) hb h2 ?_
        cases dd : zsdb r.testBit (n - 1) with
        | true => exact sg_321_23c (fun _ => by omega) (fun _ => ih (r + 1) _ (by omega) (by omega) (by omega) (nx _ cc fun _ => dd)) (fun z => absurd z (by decide))
        | false => exact sg_321_23c (fun z => absurd rfl z) (fun z => absurd rfl z) (fun _ => ⟨rfl, k0 fun H => by rw [H r hr' cc] at dd; cases dd⟩)
  exact sg_321_0 (loop _ 0 0 rfl (Nat.zero_le _) rfl fun q hq => by omega)
end
