/-! THE CLASS: THE MENDER'S SMALL METHODS -/
def zco (n : Nat) (e : zel) (m : Nat) (l : List Nat) (j : Nat) : Int := zV3 (zrb 32 (fun r => decide (r < 2 ^ n) && zim e m l r j))
theorem zV3_inj {x y : Nat} (hx : x < 2 ^ 32) (hy : y < 2 ^ 32) (h : zV3 x = zV3 y) : x = y := by
  have e : BitVec.ofNat 32 x = BitVec.ofNat 32 y := BitVec.eq_of_toInt_eq h
  have := congrArg BitVec.toNat e
  rw [BitVec.toNat_ofNat, BitVec.toNat_ofNat, Nat.mod_eq_of_lt hx, Nat.mod_eq_of_lt hy] at this
  exact this
theorem zco_eq {n m j : Nat} {e : zel} {l l2 : List Nat} (hn : n ≤ 5) : zco n e m l j = zco n e m l2 j ↔ ∀ r, r < 2 ^ n → zim e m l r j = zim e m l2 r j := by
  have h32 : 2 ^ n ≤ 2 ^ 5 := Nat.pow_le_pow_right (by decide) hn
  constructor
  · intro h r hr
    have a := zV3_inj (zrb_lt 32) (zrb_lt 32) h
    have b := congrArg (fun x => Nat.testBit x r) a
    have b : (zrb 32 (fun r => decide (r < 2 ^ n) && zim e m l r j)).testBit r = (zrb 32 (fun r => decide (r < 2 ^ n) && zim e m l2 r j)).testBit r := b
    rw [zrb_bit, zrb_bit, decide_eq_true (show r < 32 by omega), decide_eq_true hr, Bool.true_and, Bool.true_and, Bool.true_and, Bool.true_and] at b
    exact b
  · intro h
    unfold zco
    rw [zrb_ext (g := fun r => decide (r < 2 ^ n) && zim e m l2 r j) fun r _ => ?_]
    show (decide (r < 2 ^ n) && zim e m l r j) = (decide (r < 2 ^ n) && zim e m l2 r j)
    by_cases c : r < 2 ^ n
    · rw [h r c]
    · rw [decide_eq_false c]; rfl
theorem zco_range {n m j : Nat} {e : zel} {l : List Nat} : -2147483648 ≤ zco n e m l j ∧ zco n e m l j < 2147483648 := by
  unfold zco zV3
  have h1 := BitVec.le_toInt (BitVec.ofNat 32 (zrb 32 (fun r => decide (r < 2 ^ n) && zim e m l r j)))
  have h2 := BitVec.toInt_lt (x := BitVec.ofNat 32 (zrb 32 (fun r => decide (r < 2 ^ n) && zim e m l r j)))
  omega
theorem zrb_and {n : Nat} {f g : Nat → Bool} : zrb n f &&& zrb n g = zrb n (fun r => f r && g r) := by
  apply Nat.eq_of_testBit_eq
  intro j
  rw [Nat.testBit_and, zrb_bit, zrb_bit, zrb_bit]
  cases decide (j < n) <;> simp
theorem zrb_or {n : Nat} {f g : Nat → Bool} : zrb n f ||| zrb n g = zrb n (fun r => f r || g r) := by
  apply Nat.eq_of_testBit_eq
  intro j
  rw [Nat.testBit_or, zrb_bit, zrb_bit, zrb_bit]
  cases decide (j < n) <;> simp
theorem zco_and {n m k : Nat} {e : zel} {l : List Nat} : ziand (zco n e m l k) (zco n e m l (k + 1)) = zco n e m (k :: l) k := by
  unfold zco
  rw [zV3_and, zrb_and]
  congr 1
  refine zrb_ext fun r _ => ?_
  have : zim e m (k :: l) r k = (zim e m l r k && zim e m l r (k + 1)) := by
    show zga k _ k = _
    rw [zga_at, if_pos rfl]
    rfl
  rw [this]
  cases decide (r < 2 ^ n) <;> simp
theorem zco_or {n m k : Nat} {e : zel} {l : List Nat} : zior (zco n e m l k) (zco n e m l (k + 1)) = zco n e m (k :: l) (k + 1) := by
  unfold zco
  rw [zV3_or, zrb_or]
  congr 1
  refine zrb_ext fun r _ => ?_
  have : zim e m (k :: l) r (k + 1) = (zim e m l r k || zim e m l r (k + 1)) := by
    show zga k _ (k + 1) = _
    rw [zga_at, if_neg (by omega), if_pos rfl]
    rfl
  rw [this]
  cases decide (r < 2 ^ n) <;> simp
theorem zco_id {n m k j : Nat} {e : zel} {l : List Nat} (h1 : j ≠ k) (h2 : j ≠ k + 1) : zco n e m (k :: l) j = zco n e m l j := by
  unfold zco
  congr 1
  refine zrb_ext fun r _ => ?_
  have : zim e m (k :: l) r j = zim e m l r j := by
    show zga k _ j = _
    rw [zga_at, if_neg h1, if_neg h2]
    rfl
  rw [this]
/-- the left one without the right one -/
theorem zco_sd {n m k : Nat} {e : zel} {l : List Nat} (hn : n ≤ 5) : ziand (zco n e m l k) (zixor (zco n e m l (k + 1)) (-1)) = 0 ↔ ∀ r, r < 2 ^ n → zim e m l r k = true → zim e m l r (k + 1) = true := by
  have h32 : 2 ^ n ≤ 2 ^ 5 := Nat.pow_le_pow_right (by decide) hn
  unfold zco
  rw [show (-1 : Int) = zV3 4294967295 from by decide, zV3_xor, zV3_and, zV3_zero (Nat.lt_of_le_of_lt Nat.and_le_left (zrb_lt 32))]
  have bo : ∀ j, (4294967295 : Nat).testBit j = decide (j < 32) := fun j => Nat.testBit_two_pow_sub_one 32 j
  constructor
  · intro h r hr h1
    have b := congrArg (fun x => Nat.testBit x r) h
    have b : (zrb 32 (fun r => decide (r < 2 ^ n) && zim e m l r k) &&& (zrb 32 (fun r => decide (r < 2 ^ n) && zim e m l r (k + 1)) ^^^ 4294967295)).testBit r = Nat.testBit 0 r := b
    rw [Nat.testBit_and, Nat.testBit_xor, bo, zrb_bit, zrb_bit, Nat.zero_testBit, decide_eq_true (show r < 32 by omega), decide_eq_true hr, h1] at b
    cases c : zim e m l r (k + 1) with
    | true => rfl
    | false => rw [c] at b; cases b
  · intro h
    apply Nat.eq_of_testBit_eq
    intro r
    rw [Nat.testBit_and, Nat.testBit_xor, bo, zrb_bit, zrb_bit, Nat.zero_testBit]
    by_cases c : r < 2 ^ n
    · rw [decide_eq_true (show r < 32 by omega), decide_eq_true c]
      cases d : zim e m l r k with
      | true => rw [h r c d]; rfl
      | false => rfl
    · rw [decide_eq_false c]
      cases decide (r < 32) <;> simp
theorem zw_B (q : Nat → Bool) : zw (zB q) = zV3 (zrb 32 q) := by
  unfold zB
  rw [zw_V, ← zV3_mod]
  congr 1
  apply Nat.eq_of_testBit_eq
  intro j
  rw [Nat.testBit_mod_two_pow, zrb_bit, zrb_bit]
  by_cases c : j < 32
  · rw [decide_eq_true c, decide_eq_true (show j < 64 by omega)]; simp
  · rw [decide_eq_false c]; rfl
theorem zbrw_out {e : zel} {n sk : Nat} {f : Nat → Bool} : ∀ i j, (∀ q, q < i → (e q).2.1 + 2 ≤ n) → n ≤ j → zbrw e sk i f j = f j := by
  intro i
  induction i with
  | zero => intro j _ _; rfl
  | succ i ih =>
    intro j hl hj
    have a := ih j (fun q hq => hl q (by omega)) hj
    have b := hl i (by omega)
    rw [zbrw_s]
    by_cases c : i = sk
    · rw [if_pos c]; exact a
    · rw [if_neg c]
      unfold zbs
      rw [if_neg (by omega), if_neg (by omega)]
      exact a
/-- the states that are held, the one that is looked at -/
def zMs (h : zHP) (n : Nat) (e : zel) (m S : Nat) (w : Nat → List Nat) : Prop := ∀ s, s < S → ∀ j, j < 5 → h 63 (5 * s + j) = zco n e m (w s) j
def zMn (h : zHP) (n : Nat) (e : zel) (m : Nat) (l : List Nat) : Prop := ∀ j, j < 5 → h 64 j = zco n e m l j
section
variable {X : List Int} {h : zHP} {K : Option zAV → zHP → Prop}
/-- columnAt -/
theorem cx_13 {n m j : Nat} {e : zel} {x : Int} (F : zFin h) (hn : 2 ≤ n ∧ n ≤ 5) (hl : ∀ q, q < m → (e q).2.1 + 2 ≤ n) (B : zBR h 54 n (fun r => zbrw e 9999 m r.testBit)) (hj : j < 5) (hx : x = (j : Int)) (k : K (some (zI (zco n e m [] j))) h) : zC X 13 [zR 54, zI x] h K := by
  have h3 := B.1
  have kz : n ≤ j → zSHc = zSHc ∧ K (some (zI 0)) h := fun c => by
    have e0 : zco n e m [] j = 0 := by
      unfold zco
      rw [zrb_ext (g := fun _ => false) fun r _ => ?_]
      · decide
      · show (decide (r < 2 ^ n) && zbrw e 9999 m r.testBit j) = false
        rw [zbrw_out m j hl c]
        by_cases d : r < 2 ^ n
        · rw [Nat.testBit_lt_two_pow (Nat.lt_of_lt_of_le d (Nat.pow_le_pow_right (by decide) c)), Bool.and_false]
        · rw [decide_eq_false d]; rfl
    rw [e0] at k
    exact ⟨rfl, k⟩
  refine sg_13_0 F (Or.inl rfl) (fun a => by omega) (fun _ a => kz (by omega)) (fun _ _ a => by omega) (fun _ _ _ => by omega) (fun _ a _ => ?_)
  refine cx_4 (n := n) (Or.inl rfl) (by omega) h3 (sg_13_31c ⟨rfl, ?_⟩)
  have v := (B.2 j (by omega)).1
  rw [show x.toNat = j by omega, v, zB_and, zw_B]
  have e1 : zrb 32 (fun r => (fun r => zbrw e 9999 m r.testBit) r j && decide (r < 2 ^ n)) = zrb 32 (fun r => decide (r < 2 ^ n) && zim e m [] r j) := zrb_ext fun r _ => Bool.and_comm _ _
  rw [e1]
  exact k
/-- columnOf -/
theorem cx_60 {s j : Nat} {x y : Int} (F : zFin h) (hs : s < 120) (hj : j < 5) (hx : x = (s : Int)) (hy : y = (j : Int)) (k : K (some (zI (h 63 (5 * s + j)))) h) : zC X 60 [zR 62, zI x, zI y] h K := by
  have e : ((x * 5) + y).toNat = 5 * s + j := by omega
  have nx : zSHc = zSHc ∧ K (some (zI (h 63 (((x * 5) + y).toNat)))) h := ⟨rfl, by rw [e]; exact k⟩
  clear k e
  apply sg_60_0 F <;> intros <;> (try omega)
  all_goals exact nx
/-- takeUp -/
theorem cx_61 {n m s S : Nat} {e : zel} {w : Nat → List Nat} {x : Int} (F : zFin h) (I : zMs h n e m S w) (hs : s < S) (hS : S ≤ 120) (hx : x = (s : Int)) (k : ∀ h', zFin h' → zfr [64] h h' → zMn h' n e m (w s) → K none h') : zC X 61 [zR 62, zI x] h K := by
  have loop : ∀ (r j : Nat) (h1 : zHP) (x2 : Int), 5 - j = r → j ≤ 5 → x2 = (j : Int) → zFin h1 → zfr [64] h h1 → (∀ q, q < j → h1 64 q = zco n e m (w s) q) → zAt X 61 2 0 0 [some (zR 62), some (zI x), some (zI x2)] [] zSHc h1 (fun v sh' h' => sh' = zSHc ∧ K v h') := by
    intro r
    induction r with
    | zero =>
      intro j h1 x2 hr hj h2 F1 fr D
      exact sg_61_2 F1 (fun _ => ⟨rfl, k h1 F1 fr fun q hq => D q (by omega)⟩) (fun c => by omega)
    | succ r ih =>
      intro j h1 x2 hr hj h2 F1 fr D
      refine sg_61_2 F1 (fun c => by omega) (fun _ => ?_)
      refine cx_60 (s := s) (j := j) F1 (by omega) (by omega) hx h2 (sg_61_18c (by omega) (by omega) ?_)
      rw [show x2.toNat = j by omega, fr 63 (by decide), I s hs j (by omega)]
      refine ih (j + 1) _ _ (by omega) (by omega) (by omega) (F1.upA zfa_64) (fr.up (by simp)) fun q hq => ?_
      by_cases c : q = j
      · rw [c, zup_eq]
      · rw [zup_k c]; exact D q (by omega)
  exact sg_61_0 (loop 5 0 h 0 rfl (by omega) rfl F zfr.rfl fun q hq => by omega)
/-- passGate -/
theorem cx_62 {n m c : Nat} {e : zel} {l : List Nat} {x : Int} (F : zFin h) (I : zMn h n e m l) (hc : c < 4) (hx : x = (c : Int)) (k : ∀ h', zFin h' → zfr [64] h h' → zMn h' n e m (c :: l) → K none h') : zC X 62 [zR 62, zI x] h K := by
  have e0 : x.toNat = c := by omega
  have e1 : (x + 1).toNat = c + 1 := by omega
  have kk := k (zup (zup h 64 c (ziand (h 64 c) (h 64 (c + 1)))) 64 (c + 1) (zior (h 64 c) (h 64 (c + 1)))) ((F.upA zfa_64).upA zfa_64) (((zfr.rfl).up (by simp)).up (by simp)) fun j hj => by
    by_cases d : j = c + 1
    · rw [d, zup_eq, I c (by omega), I (c + 1) (by omega)]; exact zco_or
    · rw [zup_k d]
      by_cases d2 : j = c
      · rw [d2, zup_eq, I c (by omega), I (c + 1) (by omega)]; exact zco_and
      · rw [zup_k d2, I j hj]; exact (zco_id d2 d).symm
  rw [← e1, ← e0] at kk
  rw [e0] at kk
  clear k I
  rw [← e0] at kk
  apply sg_62_0 F <;> intros <;> (try omega)
  all_goals (rw [e1, e0] at kk ⊢; exact ⟨rfl, kk⟩)
/-- isNow -/
theorem cx_64 {n m s S : Nat} {e : zel} {w : Nat → List Nat} {l : List Nat} {x : Int} (F : zFin h) (hn : n ≤ 5) (I : zMs h n e m S w) (J : zMn h n e m l) (hs : s < S) (hS : S ≤ 120) (hx : x = (s : Int)) (k1 : zsame n e m (w s) l → K (some (zI 1)) h) (k0 : ¬ zsame n e m (w s) l → K (some (zI 0)) h) : zC X 64 [zR 62, zI x] h K := by
  have loop : ∀ (r j : Nat) (x2 : Int), 5 - j = r → j ≤ 5 → x2 = (j : Int) → (∀ q, q < j → zco n e m (w s) q = zco n e m l q) → zAt X 64 2 0 0 [some (zR 62), some (zI x), some (zI x2)] [] zSHc h (fun v sh' h' => sh' = zSHc ∧ K v h') := by
    intro r
    induction r with
    | zero =>
      intro j x2 hr hj h2 D
      exact sg_64_2 (fun _ => ⟨rfl, k1 fun r hr j hj => (zco_eq hn).mp (D j (by omega)) r hr⟩) (fun c => by omega)
    | succ r ih =>
      intro j x2 hr hj h2 D
      refine sg_64_2 (fun c => by omega) (fun _ => ?_)
      refine cx_60 (s := s) (j := j) F (by omega) (by omega) hx h2 ?_
      rw [I s hs j (by omega)]
      have ej : h 64 x2.toNat = zco n e m l j := by rw [show x2.toNat = j by omega]; exact J j (by omega)
      refine sg_64_13c F (by omega) (fun _ => by omega) (fun c => ?_) (fun c => ⟨rfl, k0 fun z => c ?_⟩)
      · rw [ej] at c
        refine ih (j + 1) _ (by omega) (by omega) (by omega) fun q hq => ?_
        by_cases d : q = j
        · rw [d]; exact c
        · exact D q (by omega)
      · rw [ej]
        exact (zco_eq hn).mpr fun r hr => z r hr j (by omega)
  exact sg_64_0 (loop 5 0 0 rfl (by omega) rfl fun q hq => by omega)
/-- isSorted -/
theorem cx_65 {n m s S : Nat} {e : zel} {w : Nat → List Nat} {x : Int} (F : zFin h) (hn : 2 ≤ n ∧ n ≤ 5) (h5 : h 62 5 = (n : Int)) (I : zMs h n e m S w) (hs : s < S) (hS : S ≤ 120) (hx : x = (s : Int)) (k1 : zwok n e m (w s) → K (some (zI 1)) h) (k0 : ¬ zwok n e m (w s) → K (some (zI 0)) h) : zC X 65 [zR 62, zI x] h K := by
  have loop : ∀ (r j : Nat) (x2 : Int), n - 1 - j = r → j ≤ n - 1 → x2 = (j : Int) → (∀ q, q < j → ∀ r, r < 2 ^ n → zim e m (w s) r q = true → zim e m (w s) r (q + 1) = true) → zAt X 65 2 0 0 [some (zR 62), some (zI x), some (zI x2)] [] zSHc h (fun v sh' h' => sh' = zSHc ∧ K v h') := by
    intro r
    induction r with
    | zero =>
      intro j x2 hr hj h2 D
      exact sg_65_2 (by omega) (fun _ => ⟨rfl, k1 fun r hr => zsdb_iff.mpr fun q hq => D q (by omega) r hr⟩) (fun c => by omega)
    | succ r ih =>
      intro j x2 hr hj h2 D
      refine sg_65_2 (by omega) (fun c => by omega) (fun _ => ?_)
      refine cx_60 (s := s) (j := j) F (by omega) (by omega) hx h2 (sg_65_18c (by omega) ?_)
      refine cx_60 (s := s) (j := j + 1) F (by omega) (by omega) hx (by omega) ?_
      rw [I s hs j (by omega), I s hs (j + 1) (by omega)]
      refine sg_65_26c (fun _ => by omega) (fun c => ?_) (fun c => ⟨rfl, k0 fun z => c ?_⟩)
      · rw [zco_sd hn.2] at c
        refine ih (j + 1) _ (by omega) (by omega) (by omega) fun q hq => ?_
        by_cases d : q = j
        · rw [d]; exact c
        · exact D q (by omega)
      · rw [zco_sd hn.2]
        exact fun r hr => zsdb_iff.mp (z r hr) j (by omega)
  exact sg_65_0 (loop (n - 1) 0 0 rfl (by omega) rfl fun q hq => by omega)
end
