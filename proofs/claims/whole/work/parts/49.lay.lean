/-! THE REFERENCE'S HAND: a row that is led on, numbered -/
def zHd (h : zHP) (n : Nat) (f : Nat → Nat) : Prop := ∀ i, i < n → h 141 i = (f i : Int)
section
variable {X : List Int} {h : zHP} {K : Option zAV → zHP → Prop}
/-- ordersOf -/
theorem cm_256 {n : Nat} (hn : n ≤ 7) (h1 : 1 ≤ n) (k : K (some (zI (zfac n : Int))) h) : zC X 256 [zI n] h K := by
  have loop : ∀ (q i : Nat) (x y : Int), n + 1 - i = q → 2 ≤ i → i ≤ n + 1 → x = (i : Int) → y = (zfac (i - 1) : Int) → zAt X 256 4 0 0 [some (zI (n : Int)), some (zI y), some (zI x)] [] zSHc h (fun v sh' h' => sh' = zSHc ∧ K v h') := by
    intro q
    induction q with
    | zero =>
      intro i x y hq h2 hi hx hy
      have ei : i - 1 = n := by omega
      rw [ei] at hy
      apply sg_256_4 <;> intros <;> (try omega)
      subst hy
      exact ⟨rfl, k⟩
    | succ q ih =>
      intro i x y hq h2 hi hx hy
      have h7 := zfac7 (show i - 1 ≤ 7 by omega)
      have h8 := zfac7 (show i ≤ 7 by omega)
      have em : y * x = (zfac (i + 1 - 1) : Int) := by
        rw [hy, hx, ← Int.natCast_mul, show i + 1 - 1 = (i - 1) + 1 by omega]
        show _ = ((((i - 1) + 1) * zfac (i - 1) : Nat) : Int)
        rw [Nat.mul_comm, show i - 1 + 1 = i by omega]
      have em2 : zfac (i + 1 - 1) ≤ 5040 := by rw [show i + 1 - 1 = i by omega]; exact h8
      apply sg_256_4 <;> intros <;> (try omega)
      exact ih (i + 1) _ _ (by omega) (by omega) (by omega) (by omega) em
  by_cases c : n = 1
  · subst c
    refine sg_256_0 ?_
    apply sg_256_4 <;> intros <;> (try omega)
    exact ⟨rfl, k⟩
  · exact sg_256_0 (loop (n - 1) 2 2 1 (by omega) (by omega) (by omega) rfl rfl)
/-- swapHand -/
theorem cm_259 {n i j : Nat} {x y : Int} {f : Nat → Nat} (F : zFin h) (hn : n ≤ 7) (H : zHd h n f) (hi : i < n) (hj : j < n) (hx : x = (i : Int)) (hy : y = (j : Int)) (k : ∀ h', zFin h' → zfr [141] h h' → zHd h' n (fun a => if a = j then f i else if a = i then f j else f a) → K none h') : zC X 259 [zR 108, zI x, zI y] h K := by
  have ex : x.toNat = i := by omega
  have ey : y.toNat = j := by omega
  apply sg_259_0 F <;> intros <;> (try omega)
  rw [ex, ey]
  refine ⟨rfl, k _ ((F.upA zfa_141).upA zfa_141) ((zfr.rfl.up (by simp)).up (by simp)) fun a ha => ?_⟩
  by_cases c : a = j
  · rw [c, zup_eq]; simp; exact H i hi
  · rw [zup_k c]
    by_cases d : a = i
    · rw [d, zup_eq]
      show h 141 j = ((if i = j then f i else if i = i then f j else f i : Nat) : Int)
      rw [if_neg (fun z => c (d.trans z)), if_pos rfl]; exact H j hj
    · rw [zup_k d]
      show h 141 a = ((if a = j then f i else if a = i then f j else f a : Nat) : Int)
      rw [if_neg c, if_neg d]; exact H a ha
/-- numberOf -/
theorem cm_257 {n : Nat} {f : Nat → Nat} (F : zFin h) (hn : n ≤ 7) (H : zHd h n f) (k : K (some (zI (zhn f n n 0 0 : Int))) h) : zC X 257 [zR 108, zI n] h K := by
  have zl : ∀ i m, zsu (fun k => if i < k ∧ f k < f i then 1 else 0) m ≤ m := fun i m => by
    have := zsu_le (f := fun k => if i < k ∧ f k < f i then 1 else 0) (b := 1) (fun k => by split <;> omega) m
    omega
  have outer : ∀ (m i v : Nat) (x y : Int), n - i = m → i ≤ n → x = (i : Int) → y = (v : Int) → v < 8 ^ i → zhn f n m i v = zhn f n n 0 0 → zAt X 257 4 0 0 [some (zR 108), some (zI (n : Int)), some (zI y), some (zI x), none, none] [] zSHc h (fun v sh' h' => sh' = zSHc ∧ K v h') := by
    intro m
    induction m with
    | zero =>
      intro i v x y hm hi hx hy hv he
      apply sg_257_4 <;> intros <;> (try omega)
      rw [← he] at k
      subst hy
      exact ⟨rfl, k⟩
    | succ m ih =>
      intro i v x y hm hi hx hy hv he
      have hi' : i < n := by omega
      have h8 : 8 ^ i ≤ 8 ^ 6 := Nat.pow_le_pow_right (by omega) (by omega)
      have ex : x.toNat = i := by omega
      have inner : ∀ (q j : Nat) (z w : Int), n - j = q → i < j → j ≤ n → w = (j : Int) → z = (zsu (fun k => if i < k ∧ f k < f i then 1 else 0) j : Nat) → zAt X 257 17 0 0 [some (zR 108), some (zI (n : Int)), some (zI y), some (zI x), some (zI z), some (zI w)] [] zSHc h (fun v sh' h' => sh' = zSHc ∧ K v h') := by
        intro q
        induction q with
        | zero =>
          intro j z w hq hij hj hw hz
          have ej : j = n := by omega
          subst ej
          have zb := zl i j
          have e1 : y * ((j : Int) - x) = ((v * (j - i) : Nat) : Int) := by rw [hy, hx, show ((j : Int) - i) = ((j - i : Nat) : Int) by omega]; exact (Int.natCast_mul _ _).symm
          have e2 : v * (j - i) ≤ v * 7 := Nat.mul_le_mul_left _ (by omega)
          have e3 : 8 ^ (i + 1) = 8 ^ i * 8 := Nat.pow_succ ..
          have nx := ih (i + 1) (v * (j - i) + zless f j i) (x + 1) (y * ((j : Int) - x) + z) (by omega) (by omega) (by omega) (by rw [e1, hz]; rfl) (by unfold zless; omega) he
          have b1 : (v * (j - i) : Nat) ≤ 1835008 := by omega
          clear ih he e2 e3 h8 hv
          apply sg_257_17 F <;> intros <;> (try omega)
          all_goals exact nx
        | succ q iq =>
          intro j z w hq hij hj hw hz
          have zb := zl i j
          have a1 : h 141 x.toNat = (f i : Int) := by rw [ex]; exact H i hi'
          have a2 : h 141 w.toNat = (f j : Int) := by rw [show w.toNat = j by omega]; exact H j (by omega)
          have es : zsu (fun k => if i < k ∧ f k < f i then 1 else 0) (j + 1) = zsu (fun k => if i < k ∧ f k < f i then 1 else 0) j + (if i < j ∧ f j < f i then 1 else 0) := rfl
          have iq1 := iq (j + 1)
          clear ih he h8 hv iq
          apply sg_257_17 F <;> intros <;> (try omega)
          · rw [if_neg (by omega)] at es
            exact iq1 _ _ (by omega) (by omega) (by omega) (by omega) (by omega)
          · rw [if_pos (by omega)] at es
            exact iq1 _ _ (by omega) (by omega) (by omega) (by omega) (by omega)
      have s0 : zsu (fun k => if i < k ∧ f k < f i then 1 else 0) (i + 1) = 0 := by
        rw [zsu_congr (g := fun _ => 0) (fun k hk => if_neg (fun z => by omega)), zsu_0]
      have nx := inner (n - (i + 1)) (i + 1) 0 (x + 1) rfl (by omega) (by omega) (by omega) (by rw [s0]; rfl)
      clear inner ih he
      apply sg_257_4 <;> intros <;> (try omega)
      all_goals exact nx
  exact sg_257_0 (outer n 0 0 0 0 rfl (by omega) rfl rfl (by decide) rfl)
/-- goOn: where the row goes on -/
theorem cm_258 {n o : Nat} {f : Nat → Nat} (F : zFin h) (hn : 2 ≤ n ∧ n ≤ 7) (H : zHd h n f) (ho : o < zfac n) (hf : ∀ i, i < n → f i = zr n o i) (k : ∀ h', zFin h' → zfr [141] h h' → (o + 1 < zfac n → zHd h' n (zr n (o + 1))) → K none h') : zC X 258 [zR 108, zI n] h K := by
  -- the tail is turned round
  have turn : ∀ (i : Nat) (g : Nat → Nat), i < n → ∀ (q a b : Nat) (h1 : zHP) (x y : Int), n - a = q → i + 1 ≤ a → a ≤ n → b < n → a + b = n + i → x = (a : Int) → y = (b : Int) → zFin h1 → zfr [141] h h1 → zHd h1 n (fun c => if i < c ∧ (c < a ∨ b < c) then g (n + i - c) else g c) → (∀ h2, zFin h2 → zfr [141] h h2 → zHd h2 n (fun c => if i < c then g (n + i - c) else g c) → K none h2) → zAt X 258 77 0 0 [some (zR 108), none, none, none, some (zI x), some (zI y)] [] zSHc h1 (fun v sh' h' => sh' = zSHc ∧ K v h') := by
    intro i g hin q
    have fin : ∀ (a b : Nat) (h1 : zHP) (x y : Int), a ≤ n → b < n → a + b = n + i → ¬ a < b → x = (a : Int) → y = (b : Int) → zFin h1 → zfr [141] h h1 → zHd h1 n (fun c => if i < c ∧ (c < a ∨ b < c) then g (n + i - c) else g c) → (∀ h2, zFin h2 → zfr [141] h h2 → zHd h2 n (fun c => if i < c then g (n + i - c) else g c) → K none h2) → zAt X 258 77 0 0 [some (zR 108), none, none, none, some (zI x), some (zI y)] [] zSHc h1 (fun v sh' h' => sh' = zSHc ∧ K v h') := by
      intro a b h1 x y han hb hab c hx hy F1 fr H1 kk
      refine sg_258_77 (fun _ => ⟨rfl, kk h1 F1 fr fun t ht => ?_⟩) (fun z => by omega)
      rw [H1 t ht]
      congr 1
      show (if i < t ∧ (t < a ∨ b < t) then g (n + i - t) else g t) = (if i < t then g (n + i - t) else g t)
      by_cases c3 : i < t ∧ (t < a ∨ b < t)
      · rw [if_pos c3, if_pos c3.1]
      · rw [if_neg c3]
        by_cases c4 : i < t
        · rw [if_pos c4]; congr 1; omega
        · rw [if_neg c4]
    induction q with
    | zero =>
      intro a b h1 x y hq ha han hb hab hx hy F1 fr H1 kk
      exact fin a b h1 x y han hb hab (by omega) hx hy F1 fr H1 kk
    | succ q ih =>
      intro a b h1 x y hq ha han hb hab hx hy F1 fr H1 kk
      by_cases c : a < b
      · refine sg_258_77 (fun z => by omega) (fun _ => ?_)
        refine cm_259 F1 hn.2 H1 (i := a) (j := b) (by omega) hb hx hy fun h2 F2 fr2 H2 => ?_
        apply sg_258_92c <;> intros <;> (try omega)
        refine ih (a + 1) (b - 1) h2 _ _ (by omega) (by omega) (by omega) (by omega) (by omega) (by omega) (by omega) F2 (fr.trans fr2) (fun t ht => ?_) kk
        rw [H2 t ht]
        congr 1
        simp only
        by_cases c1 : t = b
        · subst c1
          rw [if_pos rfl, if_neg (by omega), if_pos (by omega)]
          congr 1; omega
        · by_cases c2 : t = a
          · subst c2
            rw [if_neg c1, if_pos rfl, if_neg (by omega), if_pos (by omega)]
            congr 1; omega
          · rw [if_neg c1, if_neg c2]
            by_cases c3 : i < t ∧ (t < a ∨ b < t)
            · rw [if_pos c3, if_pos (by omega)]
            · rw [if_neg c3, if_neg (by omega)]
      · exact fin a b h1 x y han hb hab c hx hy F1 fr H1 kk
  -- the place j
  have second : ∀ (i : Nat), i + 1 < n → zr n o i < zr n o (i + 1) → (∀ a, i < a → a + 1 < n → zr n o (a + 1) < zr n o a) → ∀ (q j : Nat) (x y : Int), j - i = q + 1 → j < n → x = (i : Int) → y = (j : Int) → (∀ b, j < b → b < n → zr n o b < zr n o i) → zAt X 258 40 0 0 [some (zR 108), some (zI (n : Int)), some (zI x), some (zI y), none, none] [] zSHc h (fun v sh' h' => sh' = zSHc ∧ K v h') := by
    intro i hi hasc hdesc q
    induction q with
    | zero =>
      intro j x y hq hj hx hy hb
      have ej : j = i + 1 := by omega
      subst ej
      have a1 : h 141 x.toNat = (zr n o i : Int) := by rw [show x.toNat = i by omega, H i (by omega), hf i (by omega)]
      have a2 : h 141 y.toNat = (zr n o (i + 1) : Int) := by rw [show y.toNat = i + 1 by omega, H (i + 1) (by omega), hf (i + 1) (by omega)]
      have nx : zC X 259 [zR 108, zI x, zI y] h (fun v h9 => zAt X 258 67 0 0 [some (zR 108), some (zI (n : Int)), some (zI x), none, none, none] (zpush v []) zSHc h9 (fun v sh' h' => sh' = zSHc ∧ K v h')) := by
        refine cm_259 F hn.2 H (i := i) (j := i + 1) (by omega) (by omega) hx hy fun h1 F1 fr1 H1 => ?_
        apply sg_258_67c <;> intros <;> (try omega)
        refine turn i (fun a => if a = i + 1 then f i else if a = i then f (i + 1) else f a) (by omega) (n - (i + 1)) (i + 1) (n - 1) h1 _ _ rfl (by omega) (by omega) (by omega) (by omega) (by omega) (by omega) F1 fr1 (fun t ht => ?_) (fun h2 F2 fr2 H2 => k h2 F2 fr2 fun hlt => ?_)
        · rw [H1 t ht]
          try dsimp only
          rw [if_neg (show ¬ (i < t ∧ (t < i + 1 ∨ n - 1 < t)) by omega)]
        · obtain ⟨-, z2⟩ := znext (f := fun c => if i < c then (if n + i - c = i + 1 then f i else if n + i - c = i then f (i + 1) else f (n + i - c)) else (if c = i + 1 then f i else if c = i then f (i + 1) else f c)) ho hi (show i < i + 1 by omega) (by omega) hasc hdesc hasc hb (fun a ha => by
            try dsimp only
            rw [if_neg (by omega), if_neg (by omega), if_neg (by omega)]; exact hf a (by omega)) (by
            try dsimp only
            rw [if_neg (by omega), if_neg (by omega), if_pos rfl]; exact hf _ (by omega)) (fun a ha han => by
            try dsimp only
            rw [if_pos ha]
            by_cases c : n + i - a = i + 1
            · rw [if_pos c, if_pos c]; exact hf i (by omega)
            · rw [if_neg c, if_neg c, if_neg (by omega)]; exact hf _ (by omega))
          intro t ht
          rw [H2 t ht]
          exact congrArg Nat.cast (z2 t ht)
      clear turn k hf H hb hdesc
      apply sg_258_40 F <;> intros <;> (try omega)
      all_goals exact nx
    | succ q ih =>
      intro j x y hq hj hx hy hb
      have a1 : h 141 x.toNat = (zr n o i : Int) := by rw [show x.toNat = i by omega, H i (by omega), hf i (by omega)]
      have a2 : h 141 y.toNat = (zr n o j : Int) := by rw [show y.toNat = j by omega, H j (by omega), hf j (by omega)]
      have ne : zr n o i ≠ zr n o j := fun z => by have := zr_inj ho (show i < n by omega) hj z; omega
      have nx : zr n o i < zr n o j → zC X 259 [zR 108, zI x, zI y] h (fun v h9 => zAt X 258 67 0 0 [some (zR 108), some (zI (n : Int)), some (zI x), none, none, none] (zpush v []) zSHc h9 (fun v sh' h' => sh' = zSHc ∧ K v h')) := by
        intro hgt
        refine cm_259 F hn.2 H (i := i) (j := j) (by omega) (by omega) hx hy fun h1 F1 fr1 H1 => ?_
        apply sg_258_67c <;> intros <;> (try omega)
        refine turn i (fun a => if a = j then f i else if a = i then f j else f a) (by omega) (n - (i + 1)) (i + 1) (n - 1) h1 _ _ rfl (by omega) (by omega) (by omega) (by omega) (by omega) (by omega) F1 fr1 (fun t ht => ?_) (fun h2 F2 fr2 H2 => k h2 F2 fr2 fun hlt => ?_)
        · rw [H1 t ht]
          try dsimp only
          rw [if_neg (show ¬ (i < t ∧ (t < i + 1 ∨ n - 1 < t)) by omega)]
        · obtain ⟨-, z2⟩ := znext (f := fun c => if i < c then (if n + i - c = j then f i else if n + i - c = i then f j else f (n + i - c)) else (if c = j then f i else if c = i then f j else f c)) ho hi (show i < j by omega) hj hasc hdesc hgt hb (fun a ha => by
            try dsimp only
            rw [if_neg (by omega), if_neg (by omega), if_neg (by omega)]; exact hf a (by omega)) (by
            try dsimp only
            rw [if_neg (by omega), if_neg (by omega), if_pos rfl]; exact hf _ (by omega)) (fun a ha han => by
            try dsimp only
            rw [if_pos ha]
            by_cases c : n + i - a = j
            · rw [if_pos c, if_pos c]; exact hf i (by omega)
            · rw [if_neg c, if_neg c, if_neg (by omega)]; exact hf _ (by omega))
          intro t ht
          rw [H2 t ht]
          exact congrArg Nat.cast (z2 t ht)
      have nx2 : zr n o j < zr n o i → zAt X 258 40 0 0 [some (zR 108), some (zI (n : Int)), some (zI x), some (zI (y + (-1))), none, none] [] zSHc h (fun v sh' h' => sh' = zSHc ∧ K v h') := fun hlt =>
        ih (j - 1) _ _ (by omega) (by omega) hx (by omega) (fun b hb1 hb2 => by
          by_cases c : b = j
          · rw [c]; exact hlt
          · exact hb b (by omega) hb2)
      clear turn k hf H hb hdesc ih
      apply sg_258_40 F <;> intros <;> (try omega)
      · exact nx (by omega)
      · exact nx2 (by omega)
  -- the place i
  have first : ∀ (q : Nat) (x : Int), x = (q : Int) - 1 → q + 1 ≤ n → (∀ a, q ≤ a → a + 1 < n → zr n o (a + 1) < zr n o a) → zAt X 258 4 0 0 [some (zR 108), some (zI (n : Int)), some (zI x), none, none, none] [] zSHc h (fun v sh' h' => sh' = zSHc ∧ K v h') := by
    intro q
    induction q with
    | zero =>
      intro x hx hq hd
      have nx : K none h := k h F zfr.rfl fun hlt => by
        exfalso
        -- all go down: the last row
        have desc : ∀ d a, a + d < n → zr n o (a + d) + d ≤ zr n o a := by
          intro d
          induction d with
          | zero => intro a _; exact Nat.le_refl _
          | succ d ih =>
            intro a hd2
            have := ih a (by omega)
            have := hd (a + d) (by omega) (by omega)
            rw [show a + (d + 1) = a + d + 1 by omega]
            omega
        have dg : ∀ a, a < n → zless (zr n o) n a = n - 1 - a := fun a ha => by
          unfold zless
          rw [← zless_cnt ha]
          refine zsu_congr fun t ht => ?_
          by_cases c : a < t
          · have := desc (t - a) a (by omega)
            rw [show a + (t - a) = t by omega] at this
            rw [if_pos c, if_pos ⟨c, by omega⟩]
          · rw [if_neg c, if_neg (fun z => c z.1)]
        have e1 := znm_r ho
        unfold znm at e1
        rw [zsu_congr (g := fun j => (n - 1 - j) * zfac (n - 1 - j)) (fun a ha => by rw [dg a ha])] at e1
        have e2 := zfac_sum n
        omega
      clear second turn k hf H hd
      apply sg_258_4 F <;> intros <;> (try omega)
      exact ⟨rfl, nx⟩
    | succ q ih =>
      intro x hx hq hd
      have a1 : h 141 x.toNat = (zr n o q : Int) := by rw [show x.toNat = q by omega, H q (by omega), hf q (by omega)]
      have a2 : h 141 (x + 1).toNat = (zr n o (q + 1) : Int) := by rw [show (x + 1).toNat = q + 1 by omega, H (q + 1) (by omega), hf (q + 1) (by omega)]
      have ne : zr n o q ≠ zr n o (q + 1) := fun z => by have := zr_inj ho (show q < n by omega) (show q + 1 < n by omega) z; omega
      have nx : zr n o q < zr n o (q + 1) → zAt X 258 40 0 0 [some (zR 108), some (zI (n : Int)), some (zI x), some (zI ((n : Int) - 1)), none, none] [] zSHc h (fun v sh' h' => sh' = zSHc ∧ K v h') := fun hlt =>
        second q (by omega) hlt (fun a ha hb => hd a (by omega) hb) (n - 1 - q - 1) (n - 1) x _ (by omega) (by omega) (by omega) (by omega) (fun b hb1 hb2 => by omega)
      have nx2 : zr n o (q + 1) < zr n o q → zAt X 258 4 0 0 [some (zR 108), some (zI (n : Int)), some (zI (x + (-1))), none, none, none] [] zSHc h (fun v sh' h' => sh' = zSHc ∧ K v h') := fun hlt =>
        ih _ (by omega) (by omega) (fun a ha hb => by
          by_cases c : a = q
          · rw [c]; exact hlt
          · exact hd a (by omega) hb)
      clear second turn k hf H hd ih
      apply sg_258_4 F <;> intros <;> (try omega)
      · exact nx (by omega)
      · exact nx2 (by omega)
  refine sg_258_0 (by omega) ?_
  exact first (n - 1) _ (by omega) (by omega) (fun a ha hb => by omega)
end
