/-! THE NUMBER OF A ROW, AS THE REFERENCE RECKONS IT; THE NEXT ROW -/
def zless (f : Nat → Nat) (n i : Nat) : Nat := zsu (fun k => if i < k ∧ f k < f i then 1 else 0) n
def zhn (f : Nat → Nat) (n : Nat) : Nat → Nat → Nat → Nat
  | 0, _, v => v
  | m + 1, i, v => zhn f n m (i + 1) (v * (n - i) + zless f n i)
/-- a digit counts the lesser ones behind -/
theorem zless_r : ∀ {n o i : Nat}, o < zfac n → i < n → zless (zr n o) n i = zD (n - 1 - i) o
  | 0, _, _, _, h => by omega
  | n + 1, o, 0, ho, _ => by
    have hp := zrw_pm ho
    have hrow : zrw (n + 1) o = o / zfac n :: zmpd (o / zfac n) (zrw n (o % zfac n)) := rfl
    have c1 := zpm.cls1 (hrow ▸ hp)
    have hd := zD_top ho
    show zless (zr (n + 1) o) (n + 1) 0 = zD (n + 1 - 1 - 0) o
    rw [show n + 1 - 1 - 0 = n by omega, hd, ← c1, zcls_sum, zmpd_len, zrw_len]
    unfold zless
    rw [zsu_shift, if_neg (by omega), Nat.zero_add]
    refine zsu_congr fun k hk => ?_
    have e0 : zr (n + 1) o 0 = o / zfac n := rfl
    have e1 : zr (n + 1) o (k + 1) = (zmpd (o / zfac n) (zrw n (o % zfac n))).getD k 0 := rfl
    rw [e0, e1]
    by_cases c : (zmpd (o / zfac n) (zrw n (o % zfac n))).getD k 0 < o / zfac n
    · rw [if_pos c, if_pos ⟨by omega, c⟩]
    · rw [if_neg c, if_neg (fun z => c z.2)]
  | n + 1, o, i + 1, ho, hi => by
    have hm := Nat.mod_lt o (zfac_pos n)
    have ih := zless_r hm (show i < n by omega)
    have hb : ∀ k, k < n → zr (n + 1) o (k + 1) = if o / zfac n ≤ zr n (o % zfac n) k then zr n (o % zfac n) k + 1 else zr n (o % zfac n) k := fun k hk => by
      unfold zr
      show (zmpd _ (zrw n (o % zfac n))).getD k 0 = _
      unfold zmpd
      have hl : k < (zrw n (o % zfac n)).length := by rw [zrw_len]; exact hk
      rw [List.getD_eq_getElem?_getD, List.getElem?_map, List.getD_eq_getElem?_getD, List.getElem?_eq_getElem hl]
      rfl
    rw [show n + 1 - 1 - (i + 1) = n - 1 - i by omega, ← zD_low (show n - 1 - i < n by omega), ← ih]
    unfold zless
    rw [zsu_shift, if_neg (by omega), Nat.zero_add]
    refine zsu_congr fun k hk => ?_
    rw [hb k hk, hb i (by omega)]
    by_cases c : i < k ∧ zr n (o % zfac n) k < zr n (o % zfac n) i
    · rw [if_pos c, if_pos]
      refine ⟨by omega, ?_⟩
      split <;> split <;> omega
    · rw [if_neg c, if_neg]
      rintro ⟨a, b⟩
      refine c ⟨by omega, ?_⟩
      split at b <;> split at b <;> omega
theorem zhn_r {n o : Nat} (ho : o < zfac n) : ∀ (m i : Nat), i + m = n → zhn (zr n o) n m i (o / zfac (n - i)) = o
  | 0, i, h => by
    have e : n - i = 0 := by omega
    show o / zfac (n - i) = o
    rw [e]
    exact Nat.div_one o
  | m + 1, i, h => by
    show zhn (zr n o) n m (i + 1) (o / zfac (n - i) * (n - i) + zless (zr n o) n i) = o
    have e : o / zfac (n - i) * (n - i) + zless (zr n o) n i = o / zfac (n - (i + 1)) := by
      rw [zless_r ho (by omega)]
      have e1 : zfac (n - i) = (n - i) * zfac (n - 1 - i) := by
        rw [show n - i = (n - 1 - i) + 1 by omega]; rfl
      unfold zD
      rw [e1, Nat.mul_comm (n - i) (zfac (n - 1 - i)), ← Nat.div_div_eq_div_mul, show n - 1 - i + 1 = n - i by omega, show n - (i + 1) = n - 1 - i by omega]
      have := Nat.div_add_mod (o / zfac (n - 1 - i)) (n - i)
      rw [Nat.mul_comm] at this
      exact this
    rw [e]
    exact zhn_r ho m (i + 1) (by omega)
theorem zhn_o {n o : Nat} (ho : o < zfac n) : zhn (zr n o) n n 0 0 = o := by
  have h := zhn_r ho n 0 (by omega)
  rw [show n - 0 = n by omega, Nat.div_eq_of_lt ho] at h
  exact h
theorem zhn_ext {f g : Nat → Nat} {n : Nat} (h : ∀ i, i < n → f i = g i) : ∀ (m i v : Nat), i + m ≤ n → zhn f n m i v = zhn g n m i v
  | 0, _, _, _ => rfl
  | m + 1, i, v, hm => by
    have e : zless f n i = zless g n i := by
      unfold zless
      refine zsu_congr fun k hk => ?_
      rw [h k hk, h i (by omega)]
    show zhn f n m (i + 1) (v * (n - i) + zless f n i) = zhn g n m (i + 1) (v * (n - i) + zless g n i)
    rw [e]
    exact zhn_ext h m (i + 1) _ (by omega)
/-- the number as a sum -/
def znm (f : Nat → Nat) (n : Nat) : Nat := zsu (fun i => zless f n i * zfac (n - 1 - i)) n
theorem zlnum_sum : ∀ (l : List Nat), zlnum l = znm (fun i => l.getD i 0) l.length
  | [] => rfl
  | x :: r => by
    show zcls x r * zfac r.length + zlnum r = zsu (fun i => zless (fun i => (x :: r).getD i 0) (r.length + 1) i * zfac (r.length + 1 - 1 - i)) (r.length + 1)
    rw [zlnum_sum r, zsu_shift]
    have e0 : zless (fun i => (x :: r).getD i 0) (r.length + 1) 0 = zcls x r := by
      unfold zless
      rw [zsu_shift, if_neg (by omega), Nat.zero_add, zcls_sum]
      refine zsu_congr fun k _ => ?_
      show (if 0 < k + 1 ∧ r.getD k 0 < x then 1 else 0) = if r.getD k 0 < x then 1 else 0
      by_cases c : r.getD k 0 < x
      · rw [if_pos c, if_pos ⟨by omega, c⟩]
      · rw [if_neg c, if_neg (fun z => c z.2)]
    rw [e0, show r.length + 1 - 1 - 0 = r.length by omega]
    congr 1
    refine zsu_congr fun i hi => ?_
    have e1 : zless (fun i => (x :: r).getD i 0) (r.length + 1) (i + 1) = zless (fun i => r.getD i 0) r.length i := by
      unfold zless
      rw [zsu_shift, if_neg (by omega), Nat.zero_add]
      refine zsu_congr fun k _ => ?_
      show (if i + 1 < k + 1 ∧ r.getD k 0 < r.getD i 0 then 1 else 0) = if i < k ∧ r.getD k 0 < r.getD i 0 then 1 else 0
      by_cases c : i < k ∧ r.getD k 0 < r.getD i 0
      · rw [if_pos c, if_pos ⟨by omega, c.2⟩]
      · rw [if_neg c, if_neg (fun z => c ⟨by omega, z.2⟩)]
    rw [e1, show r.length + 1 - 1 - (i + 1) = r.length - 1 - i by omega]
/-- a row that is told by its places has its number -/
theorem znm_row {f : Nat → Nat} {n : Nat} (h1 : ∀ i, i < n → f i < n) (h2 : ∀ i j, i < n → j < n → f i = f j → i = j) : znm f n < zfac n ∧ ∀ i, i < n → zr n (znm f n) i = f i := by
  have pm : zpm n ((List.range n).map f) := by
    refine ⟨?_, fun v => ?_⟩
    · refine List.pairwise_map.mpr (List.Pairwise.imp_of_mem (fun {a b} ha hb hab => ?_) List.nodup_range)
      exact fun e => hab (h2 a b (List.mem_range.mp ha) (List.mem_range.mp hb) e)
    · rw [List.mem_map]
      constructor
      · rintro ⟨u, hu, rfl⟩
        exact h1 u (List.mem_range.mp hu)
      · intro hv
        apply Classical.byContradiction
        intro hne
        have := zpig (c := n) (M := n) (E := f) h1 h2 hv (fun i hi e => hne ⟨i, List.mem_range.mpr hi, e⟩)
        omega
  have gd : ∀ i, i < n → ((List.range n).map f).getD i 0 = f i := fun i hi => by
    rw [List.getD_eq_getElem?_getD, List.getElem?_map, List.getElem?_range hi]; rfl
  have e : zlnum ((List.range n).map f) = znm f n := by
    rw [zlnum_sum, List.length_map, List.length_range]
    unfold znm
    refine zsu_congr fun i hi => ?_
    congr 1
    unfold zless
    refine zsu_congr fun k hk => ?_
    simp only [gd k hk, gd i hi]
  obtain ⟨a, b⟩ := zrw_num pm
  rw [e] at a b
  refine ⟨b, fun i hi => ?_⟩
  unfold zr
  rw [a]
  exact gd i hi
theorem znm_r {n o : Nat} (ho : o < zfac n) : znm (zr n o) n = o := by
  obtain ⟨a, b⟩ := znm_row (fun i hi => zr_lt ho hi) (fun i j hi hj e => zr_inj ho hi hj e)
  exact zrw_ext a ho b
theorem zsu_split {f : Nat → Nat} {a : Nat} : ∀ b : Nat, zsu f (a + b) = zsu f a + zsu (fun i => f (a + i)) b
  | 0 => rfl
  | b + 1 => by
    show zsu f (a + b) + f (a + b) = zsu f a + (zsu (fun i => f (a + i)) b + f (a + b))
    rw [zsu_split b]; omega
/-- all digits at their greatest -/
theorem zfac_sum : ∀ m : Nat, zsu (fun j => (m - 1 - j) * zfac (m - 1 - j)) m + 1 = zfac m
  | 0 => rfl
  | m + 1 => by
    rw [zsu_shift]
    have e : zsu (fun i => (m + 1 - 1 - (i + 1)) * zfac (m + 1 - 1 - (i + 1))) m = zsu (fun j => (m - 1 - j) * zfac (m - 1 - j)) m := zsu_congr fun i _ => by
      rw [show m + 1 - 1 - (i + 1) = m - 1 - i by omega]
    have h := zfac_sum m
    show (m + 1 - 1 - 0) * zfac (m + 1 - 1 - 0) + _ + 1 = (m + 1) * zfac m
    rw [e, show m + 1 - 1 - 0 = m by omega, Nat.add_mul, Nat.one_mul]
    omega
theorem zless_cnt {n i : Nat} (h : i < n) : zsu (fun k => if i < k then 1 else 0) n = n - 1 - i := by
  have : ∀ m, zsu (fun k => if i < k then 1 else 0) m = m - 1 - i := by
    intro m
    induction m with
    | zero => show 0 = 0 - 1 - i; omega
    | succ m ih =>
      show zsu _ m + (if i < m then 1 else 0) = _
      rw [ih]
      split <;> omega
  exact this n
/-- the next row: the place i, the place j, what comes of them -/
theorem znext {n o i j : Nat} {f : Nat → Nat} (ho : o < zfac n) (hi : i + 1 < n) (hj : i < j) (hjn : j < n) (h1 : zr n o i < zr n o (i + 1)) (h2 : ∀ a, i < a → a + 1 < n → zr n o (a + 1) < zr n o a) (h3 : zr n o i < zr n o j) (h4 : ∀ b, j < b → b < n → zr n o b < zr n o i) (hf1 : ∀ a, a < i → f a = zr n o a) (hf2 : f i = zr n o j) (hf3 : ∀ a, i < a → a < n → f a = zr n o (if n + i - a = j then i else n + i - a)) : o + 1 < zfac n ∧ ∀ a, a < n → f a = zr n (o + 1) a := by
  -- the places of what f has
  generalize hpi : (fun a => if a < i then a else if a = i then j else if n + i - a = j then i else n + i - a) = pi
  have pe : ∀ a, a < n → f a = zr n o (pi a) := fun a ha => by
    rw [← hpi]
    by_cases c1 : a < i
    · simp only [if_pos c1]; exact hf1 a c1
    · by_cases c2 : a = i
      · simp only [if_neg c1, if_pos c2]; rw [c2]; exact hf2
      · simp only [if_neg c1, if_neg c2]; exact hf3 a (by omega) ha
  have pl : ∀ a, a < n → pi a < n := fun a ha => by
    rw [← hpi]; simp only
    repeat' split
    all_goals omega
  have pj : ∀ a b, a < n → b < n → pi a = pi b → a = b := fun a b ha hb => by
    rw [← hpi]; simp only
    intro e
    repeat' split at e
    all_goals omega
  have desc : ∀ d a, i < a → a + d < n → zr n o (a + d) ≤ zr n o a := by
    intro d
    induction d with
    | zero => intro a _ _; exact Nat.le_refl _
    | succ d ih =>
      intro a ha hd
      have := ih a ha (by omega)
      have := h2 (a + d) (by omega) (by omega)
      rw [show a + (d + 1) = a + d + 1 by omega]
      omega
  have desc2 : ∀ a b, i < a → a < b → b < n → zr n o b < zr n o a := fun a b ha hab hb => by
    have e1 := desc (b - a - 1) (a + 1) (by omega) (by omega)
    have e2 := h2 a ha (by omega)
    rw [show a + 1 + (b - a - 1) = b by omega] at e1
    omega
  -- behind i, f goes up
  have up : ∀ a b, i < a → a < b → b < n → f a < f b := fun a b ha hab hb => by
    rw [hf3 a ha (by omega), hf3 b (by omega) hb]
    have e : ∀ c, j < c → c < n → zr n o c < zr n o i := h4
    by_cases c1 : n + i - a = j
    · rw [if_pos c1, if_neg (by omega)]
      rcases Nat.lt_or_ge (n + i - b) j with g | g
      · have := desc2 (n + i - b) j (by omega) g hjn; omega
      · omega
    · rw [if_neg c1]
      by_cases c2 : n + i - b = j
      · rw [if_pos c2]; exact h4 _ (by omega) (by omega)
      · rw [if_neg c2]; exact desc2 _ _ (by omega) (by omega) (by omega)
  have fl : ∀ a, a < n → f a < n := fun a ha => by rw [pe a ha]; exact zr_lt ho (pl a ha)
  have fj : ∀ a b, a < n → b < n → f a = f b → a = b := fun a b ha hb e => by
    rw [pe a ha, pe b hb] at e
    exact pj a b ha hb (zr_inj ho (pl a ha) (pl b hb) e)
  obtain ⟨q1, q2⟩ := znm_row fl fj
  -- the digits
  have d1 : ∀ a, a < i → zless f n a = zless (zr n o) n a := fun a ha => by
    unfold zless
    rw [hf1 a ha]
    have s := zsu_perm (n := n) (r := pi) (g := fun k => if a < k ∧ zr n o k < zr n o a then 1 else 0) pl pj (fun v hv => by
      apply Classical.byContradiction
      intro hne
      have := zpig (c := n) (M := n) (E := pi) pl pj hv (fun i hi e => hne ⟨i, hi, e⟩)
      omega)
    rw [← s]
    refine zsu_congr fun k hk => ?_
    rw [pe k hk]
    have ea : (a < k ↔ a < pi k) := by
      rw [← hpi]; simp only
      repeat' split
      all_goals omega
    by_cases c : a < k ∧ zr n o (pi k) < zr n o a
    · rw [if_pos c, if_pos ⟨ea.mp c.1, c.2⟩]
    · rw [if_neg c, if_neg (fun z => c ⟨ea.mpr z.1, z.2⟩)]
  have d2 : zless f n i = zless (zr n o) n i + 1 := by
    -- the lesser ones behind i: those behind j, and what was on i
    have l1 : zless (zr n o) n i = n - 1 - j := by
      unfold zless
      rw [← zless_cnt hjn]
      refine zsu_congr fun k hk => ?_
      by_cases c : j < k
      · rw [if_pos c, if_pos ⟨by omega, h4 k c hk⟩]
      · rw [if_neg c, if_neg]
        rintro ⟨a, b⟩
        rcases Nat.lt_or_ge k j with g | g
        · have := desc2 k j a g hjn; omega
        · have : k = j := by omega
          subst this; omega
    have l3 : zless f n i = zsu (fun k => if i < k ∧ k < n + i - j + 1 then 1 else 0) n := by
      unfold zless
      refine zsu_congr fun k hk => ?_
      by_cases c : i < k
      · by_cases d : k < n + i - j + 1
        · have hfk : f k < f i := by
            rw [hf2, hf3 k c hk]
            by_cases e : n + i - k = j
            · rw [if_pos e]; exact h3
            · rw [if_neg e]
              have := h4 (n + i - k) (by omega) (by omega)
              omega
          rw [if_pos ⟨c, hfk⟩, if_pos ⟨c, d⟩]
        · have hfk : ¬ f k < f i := by
            rw [hf2, hf3 k c hk, if_neg (by omega)]
            have := desc2 (n + i - k) j (by omega) (by omega) hjn
            omega
          rw [if_neg (fun z => hfk z.2), if_neg (fun z => d z.2)]
      · rw [if_neg (fun z => c z.1), if_neg (fun z => c z.1)]
    have l4 : ∀ m, m ≤ n → zsu (fun k => if i < k ∧ k < n + i - j + 1 then 1 else 0) m = min m (n + i - j + 1) - 1 - i := by
      intro m hm
      induction m with
      | zero => show 0 = min 0 _ - 1 - i; omega
      | succ m ih =>
        show zsu _ m + (if i < m ∧ m < n + i - j + 1 then 1 else 0) = _
        rw [ih (by omega)]
        split <;> omega
    rw [l1, l3, l4 n (Nat.le_refl _)]
    omega
  have d3 : ∀ a, i < a → a < n → zless f n a = 0 := fun a ha han => by
    unfold zless
    rw [zsu_congr (g := fun _ => 0) (fun k hk => if_neg (fun z => by have := up a k ha z.1 hk; omega)), zsu_0]
  have d4 : ∀ a, i < a → a < n → zless (zr n o) n a = n - 1 - a := fun a ha han => by
    unfold zless
    rw [← zless_cnt han]
    refine zsu_congr fun k hk => ?_
    by_cases c : a < k
    · rw [if_pos c, if_pos ⟨c, desc2 a k ha c hk⟩]
    · rw [if_neg c, if_neg (fun z => c z.1)]
  have eo := znm_r ho
  have sum : znm f n = o + 1 := by
    obtain ⟨m, hm⟩ : ∃ m, n = i + (m + 1) := ⟨n - i - 1, by omega⟩
    have g : ∀ w : Nat → Nat, znm w n = zsu (fun a => zless w n a * zfac (n - 1 - a)) i + (zless w n i * zfac m + zsu (fun b => zless w n (i + (b + 1)) * zfac (m - 1 - b)) m) := by
      intro w
      unfold znm
      have e : zsu (fun i => zless w n i * zfac (n - 1 - i)) n = zsu (fun i => zless w n i * zfac (n - 1 - i)) (i + (m + 1)) := by rw [← hm]
      rw [e, zsu_split, zsu_shift]
      congr 1
      congr 1
      · show zless w n (i + 0) * zfac (n - 1 - (i + 0)) = _
        rw [Nat.add_zero, show n - 1 - i = m by omega]
      · refine zsu_congr fun b hb => ?_
        rw [show n - 1 - (i + (b + 1)) = m - 1 - b by omega]
    rw [← eo, g f, g (zr n o)]
    have e1 : zsu (fun a => zless f n a * zfac (n - 1 - a)) i = zsu (fun a => zless (zr n o) n a * zfac (n - 1 - a)) i := zsu_congr fun a ha => by rw [d1 a ha]
    have e2 : zsu (fun b => zless f n (i + (b + 1)) * zfac (m - 1 - b)) m = 0 := by
      rw [zsu_congr (g := fun _ => 0) (fun b hb => by rw [d3 _ (by omega) (by omega), Nat.zero_mul]), zsu_0]
    have e3 : zsu (fun b => zless (zr n o) n (i + (b + 1)) * zfac (m - 1 - b)) m = zsu (fun b => (m - 1 - b) * zfac (m - 1 - b)) m := zsu_congr fun b hb => by rw [d4 _ (by omega) (by omega), show n - 1 - (i + (b + 1)) = m - 1 - b by omega]
    have e4 := zfac_sum m
    rw [e1, e2, e3, d2, Nat.add_mul, Nat.one_mul]
    omega
  rw [sum] at q1 q2
  exact ⟨q1, fun a ha => (q2 a ha).symm⟩
