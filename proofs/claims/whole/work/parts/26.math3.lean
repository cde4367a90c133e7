/-! ROWS: places, the inverse, sums -/
theorem zx_lt {n o : Nat} (ho : o < zfac n) {k : Nat} (hk : k + 2 ≤ n) : zx n k o < zfac n := by
  rw [← (zx_num hk ho).1]
  exact (zrw_num ((zrw_pm ho).of (zswp_perm k _))).2
theorem zx_row {n o : Nat} (ho : o < zfac n) {k : Nat} (hk : k + 2 ≤ n) : zrw n (zx n k o) = zswp k (zrw n o) := by
  rw [← (zx_num hk ho).1]
  exact (zrw_num ((zrw_pm ho).of (zswp_perm k _))).1
theorem zx_r {n o : Nat} (ho : o < zfac n) {k i : Nat} (hk : k + 2 ≤ n) : zr n (zx n k o) i = zr n o (if i = k then k + 1 else if i = k + 1 then k else i) := by
  unfold zr
  rw [zx_row ho hk, zswp_get _ _ _ _ (by rw [zrw_len]; omega)]
theorem zx_desc {n o : Nat} (ho : o < zfac n) (hn : n ≤ 7) {k : Nat} (hk : k + 2 ≤ n) : zx n k o < o ↔ zr n o (k + 1) < zr n o k := by
  have h5 := zfac7 hn
  have e : n - 2 - k + 1 = n - 1 - k := by omega
  rw [← (zx_num hk ho).2, (zckS_at (show o < 5040 by omega) (show n - 2 - k < 6 by omega)).2.2.1, e]
theorem zr_mem {n o : Nat} {i : Nat} (hi : i < n) : zr n o i ∈ zrw n o := by
  unfold zr
  have hl : i < (zrw n o).length := by rw [zrw_len]; exact hi
  rw [List.getD_eq_getElem?_getD, List.getElem?_eq_getElem hl]
  exact List.getElem_mem hl
theorem zr_lt {n o : Nat} (ho : o < zfac n) {i : Nat} (hi : i < n) : zr n o i < n := ((zrw_pm ho).2 _).mp (zr_mem hi)
theorem zp_lt {n o : Nat} (ho : o < zfac n) {v : Nat} (hv : v < n) : zp n o v < n := by
  have h := List.idxOf_lt_length_of_mem (((zrw_pm ho).2 v).mpr hv)
  rw [zrw_len] at h
  exact h
theorem zr_p {n o : Nat} (ho : o < zfac n) {v : Nat} (hv : v < n) : zr n o (zp n o v) = v := by
  have h := List.idxOf_lt_length_of_mem (((zrw_pm ho).2 v).mpr hv)
  unfold zr zp
  rw [List.getD_eq_getElem?_getD, List.getElem?_eq_getElem h]
  exact List.getElem_idxOf h
theorem zp_r {n o : Nat} (ho : o < zfac n) {i : Nat} (hi : i < n) : zp n o (zr n o i) = i := by
  have hl : i < (zrw n o).length := by rw [zrw_len]; exact hi
  unfold zr zp
  rw [List.getD_eq_getElem?_getD, List.getElem?_eq_getElem hl]
  exact (zrw_pm ho).1.idxOf_getElem i hl
theorem zp_eq {n o : Nat} (ho : o < zfac n) {i v : Nat} (hi : i < n) (e : zr n o i = v) : zp n o v = i := by
  rw [← e]; exact zp_r ho hi
theorem zr_inj {n o : Nat} (ho : o < zfac n) {i j : Nat} (hi : i < n) (hj : j < n) (e : zr n o i = zr n o j) : i = j := by
  rw [← zp_r ho hi, ← zp_r ho hj, e]
theorem zp_inj {n o : Nat} (ho : o < zfac n) {i j : Nat} (hi : i < n) (hj : j < n) (e : zp n o i = zp n o j) : i = j := by
  rw [← zr_p ho hi, ← zr_p ho hj, e]
theorem zposl_pm {n o : Nat} (ho : o < zfac n) : zpm n ((List.range n).map (fun v => zp n o v)) := by
  refine ⟨?_, fun v => ?_⟩
  · refine List.pairwise_map.mpr (List.Pairwise.imp_of_mem (fun {a b} ha hb hab => ?_) List.nodup_range)
    exact fun e => hab (zp_inj ho (List.mem_range.mp ha) (List.mem_range.mp hb) e)
  · rw [List.mem_map]
    constructor
    · rintro ⟨u, hu, rfl⟩
      exact zp_lt ho (List.mem_range.mp hu)
    · intro hv
      exact ⟨zr n o v, List.mem_range.mpr (zr_lt ho hv), zp_r ho hv⟩
theorem zin_lt {n o : Nat} (ho : o < zfac n) : zin n o < zfac n := (zrw_num (zposl_pm ho)).2
theorem zin_r {n o : Nat} (ho : o < zfac n) {v : Nat} (hv : v < n) : zr n (zin n o) v = zp n o v := by
  unfold zr zin
  rw [(zrw_num (zposl_pm ho)).1, List.getD_eq_getElem?_getD, List.getElem?_map, List.getElem?_range hv]
  rfl
/-- a row is told by what is on its legs -/
theorem zrw_ext {n o o2 : Nat} (ho : o < zfac n) (ho2 : o2 < zfac n) (h : ∀ i, i < n → zr n o i = zr n o2 i) : o = o2 := by
  have e : zrw n o = zrw n o2 := by
    refine List.ext_getElem? fun i => ?_
    by_cases hi : i < n
    · have := h i hi
      unfold zr at this
      rw [List.getD_eq_getElem?_getD, List.getD_eq_getElem?_getD] at this
      have l1 : i < (zrw n o).length := by rw [zrw_len]; exact hi
      have l2 : i < (zrw n o2).length := by rw [zrw_len]; exact hi
      rw [List.getElem?_eq_getElem l1, List.getElem?_eq_getElem l2] at this ⊢
      exact congrArg some this
    · rw [List.getElem?_eq_none (by rw [zrw_len]; omega), List.getElem?_eq_none (by rw [zrw_len]; omega)]
  rw [← zlnum_row ho, ← zlnum_row ho2, e]
theorem zin_p {n o v : Nat} (ho : o < zfac n) (hv : v < n) : zp n (zin n o) v = zr n o v := by
  have h1 := zin_lt ho
  have h2 := zr_lt ho hv
  have e := zin_r ho h2
  rw [zp_r ho hv] at e
  have := zp_r h1 h2
  rw [e] at this
  exact this
theorem zin_in {n o : Nat} (ho : o < zfac n) : zin n (zin n o) = o := by
  have h1 := zin_lt ho
  refine zrw_ext (zin_lt h1) ho fun i hi => ?_
  rw [zin_r h1 hi, zin_p ho hi]
theorem zx_x {n o k : Nat} (ho : o < zfac n) (hk : k + 2 ≤ n) : zx n k (zx n k o) = o := by
  have h1 := zx_lt ho hk
  refine zrw_ext (zx_lt h1 hk) ho fun i hi => ?_
  rw [zx_r h1 hk, zx_r ho hk]
  congr 1
  repeat' split
  all_goals omega
theorem zx_p {n o k v : Nat} (ho : o < zfac n) (hk : k + 2 ≤ n) (hv : v < n) : zp n (zx n k o) v = if zp n o v = k then k + 1 else if zp n o v = k + 1 then k else zp n o v := by
  have h1 := zx_lt ho hk
  have h2 := zp_lt ho hv
  refine zp_eq h1 ?_ ?_
  · repeat' split
    all_goals omega
  · rw [zx_r ho hk]
    have e : (if (if zp n o v = k then k + 1 else if zp n o v = k + 1 then k else zp n o v) = k then k + 1 else if (if zp n o v = k then k + 1 else if zp n o v = k + 1 then k else zp n o v) = k + 1 then k else (if zp n o v = k then k + 1 else if zp n o v = k + 1 then k else zp n o v)) = zp n o v := by
      repeat' split
      all_goals omega
    rw [e]
    exact zr_p ho hv
theorem zr_0 {n : Nat} : ∀ {i : Nat}, i < n → zr n 0 i = i := by
  induction n with
  | zero => intro i hi; omega
  | succ n ih =>
    intro i hi
    unfold zr
    have e : zrw (n + 1) 0 = 0 :: zmpd 0 (zrw n 0) := by
      show 0 / zfac n :: zmpd (0 / zfac n) (zrw n (0 % zfac n)) = _
      rw [Nat.zero_div, Nat.zero_mod]
    rw [e]
    cases i with
    | zero => rfl
    | succ i =>
      have h := ih (show i < n by omega)
      unfold zr at h
      show (zmpd 0 (zrw n 0)).getD i 0 = i + 1
      unfold zmpd
      have hl : i < (zrw n 0).length := by rw [zrw_len]; omega
      rw [List.getD_eq_getElem?_getD, List.getElem?_eq_getElem hl] at h
      rw [List.getD_eq_getElem?_getD, List.getElem?_map, List.getElem?_eq_getElem hl]
      change (zrw n 0)[i] = i at h
      show (if 0 ≤ (zrw n 0)[i] then (zrw n 0)[i] + 1 else (zrw n 0)[i]) = i + 1
      rw [h, if_pos (Nat.zero_le _)]
/-! sums over a row and over its inverse -/
theorem zsu_sum (f : Nat → Nat) : ∀ n, zsu f n = ((List.range n).map f).sum
  | 0 => rfl
  | n + 1 => by
    rw [List.range_succ, List.map_append, List.sum_append_nat, ← zsu_sum f n]
    simp [zsu]
theorem zsu_perm {n : Nat} {g r : Nat → Nat} (hr : ∀ i, i < n → r i < n) (hi : ∀ i j, i < n → j < n → r i = r j → i = j) (hs : ∀ v, v < n → ∃ i, i < n ∧ r i = v) : zsu (fun i => g (r i)) n = zsu g n := by
  rw [zsu_sum, zsu_sum]
  have p : ((List.range n).map r).Perm (List.range n) := by
    refine (List.perm_ext_iff_of_nodup ?_ List.nodup_range).mpr fun v => ?_
    · refine List.pairwise_map.mpr (List.Pairwise.imp_of_mem (fun {a b} ha hb hab => ?_) List.nodup_range)
      exact fun e => hab (hi a b (List.mem_range.mp ha) (List.mem_range.mp hb) e)
    · rw [List.mem_map, List.mem_range]
      constructor
      · rintro ⟨u, hu, rfl⟩
        exact hr u (List.mem_range.mp hu)
      · intro hv
        obtain ⟨i, h1, h2⟩ := hs v hv
        exact ⟨i, List.mem_range.mpr h1, h2⟩
  have q := (p.map g).sum_nat
  rw [List.map_map] at q
  exact q
theorem zsu_row {n o : Nat} (ho : o < zfac n) (g : Nat → Nat) : zsu (fun i => g (zr n o i)) n = zsu g n :=
  zsu_perm (fun _ h => zr_lt ho h) (fun _ _ h1 h2 e => zr_inj ho h1 h2 e) (fun v hv => ⟨zp n o v, zp_lt ho hv, zr_p ho hv⟩)
theorem zsu_in {n : Nat} (g : Nat → Nat) : zsu (fun o => g (zin n o)) (zfac n) = zsu g (zfac n) :=
  zsu_perm (fun _ h => zin_lt h) (fun i j h1 h2 e => by rw [← zin_in h1, ← zin_in h2, e]) (fun v hv => ⟨zin n v, zin_lt hv, zin_in hv⟩)
theorem zsu_x {n k : Nat} (hk : k + 2 ≤ n) (g : Nat → Nat) : zsu (fun o => g (zx n k o)) (zfac n) = zsu g (zfac n) :=
  zsu_perm (fun _ h => zx_lt h hk) (fun i j h1 h2 e => by rw [← zx_x h1 hk, ← zx_x h2 hk, e]) (fun v hv => ⟨zx n k v, zx_lt hv hk, zx_x hv hk⟩)
theorem zsu_congr {f g : Nat → Nat} : ∀ {n : Nat}, (∀ i, i < n → f i = g i) → zsu f n = zsu g n
  | 0, _ => rfl
  | n + 1, h => by
    show zsu f n + f n = zsu g n + g n
    rw [zsu_congr (fun i hi => h i (by omega)), h n (by omega)]
theorem zsu_add {f g : Nat → Nat} : ∀ n : Nat, zsu (fun i => f i + g i) n = zsu f n + zsu g n
  | 0 => rfl
  | n + 1 => by
    show zsu (fun i => f i + g i) n + (f n + g n) = zsu f n + f n + (zsu g n + g n)
    rw [zsu_add n]; omega
theorem zsu_0 : ∀ n : Nat, zsu (fun _ => 0) n = 0
  | 0 => rfl
  | n + 1 => by show zsu (fun _ => 0) n + 0 = 0; rw [zsu_0 n]
theorem zsu_swap (f : Nat → Nat → Nat) (m : Nat) : ∀ n : Nat, zsu (fun i => zsu (fun j => f i j) m) n = zsu (fun j => zsu (fun i => f i j) n) m
  | 0 => (zsu_0 m).symm
  | n + 1 => by
    show zsu (fun i => zsu (fun j => f i j) m) n + zsu (fun j => f n j) m = zsu (fun j => zsu (fun i => f i j) n + f n j) m
    rw [zsu_swap f m n, zsu_add]
theorem zsu_mul {f : Nat → Nat} {c : Nat} : ∀ n : Nat, zsu (fun i => f i * c) n = zsu f n * c
  | 0 => (Nat.zero_mul c).symm
  | n + 1 => by
    show zsu (fun i => f i * c) n + f n * c = (zsu f n + f n) * c
    rw [zsu_mul n, Nat.add_mul]
theorem zsu_one {n a : Nat} (f : Nat → Nat) (ha : a < n) (h : ∀ i, i < n → i ≠ a → f i = 0) : zsu f n = f a := by
  induction n with
  | zero => omega
  | succ n ih =>
    show zsu f n + f n = f a
    by_cases c : a = n
    · subst c
      rw [zsu_congr (g := fun _ => 0) (fun i hi => h i (by omega) (by omega)), zsu_0, Nat.zero_add]
    · rw [ih (by omega) (fun i hi => h i (by omega)), h n (by omega) (by omega), Nat.add_zero]
theorem zsu_mono {f g : Nat → Nat} : ∀ {n : Nat}, (∀ i, i < n → f i ≤ g i) → zsu f n ≤ zsu g n
  | 0, _ => Nat.le_refl _
  | n + 1, h => Nat.add_le_add (zsu_mono (fun i hi => h i (by omega))) (h n (by omega))
theorem zsu_ge {f : Nat → Nat} {n a : Nat} (ha : a < n) : f a ≤ zsu f n := by
  induction n with
  | zero => omega
  | succ n ih =>
    show f a ≤ zsu f n + f n
    by_cases c : a = n
    · subst c; omega
    · have := ih (by omega); omega
/-! pairs that are turned -/
theorem zlinv_swp : ∀ (k : Nat) (l : List Nat), l.Nodup → k + 1 < l.length → (l.getD (k + 1) 0 < l.getD k 0 → zlinv (zswp k l) + 1 = zlinv l) ∧ (l.getD k 0 < l.getD (k + 1) 0 → zlinv (zswp k l) = zlinv l + 1)
  | _, [], _, h => by simp at h
  | 0, [_], _, h => by simp at h
  | 0, a :: b :: r, _, _ => by
    have c1 : zcls b (a :: r) = zcls b r + (if a < b then 1 else 0) := by unfold zcls; rw [List.countP_cons]; simp
    have c2 : zcls a (b :: r) = zcls a r + (if b < a then 1 else 0) := by unfold zcls; rw [List.countP_cons]; simp
    show (b < a → zcls b (a :: r) + (zcls a r + zlinv r) + 1 = zcls a (b :: r) + (zcls b r + zlinv r)) ∧ (a < b → zcls b (a :: r) + (zcls a r + zlinv r) = zcls a (b :: r) + (zcls b r + zlinv r) + 1)
    rw [c1, c2]
    constructor <;> intro h
    · rw [if_neg (by omega), if_pos h]; omega
    · rw [if_pos h, if_neg (by omega)]; omega
  | k + 1, a :: r, hn, h => by
    have i := zlinv_swp k r (List.nodup_cons.mp hn).2 (Nat.lt_of_succ_lt_succ h)
    have c : zcls a (zswp k r) = zcls a r := (zswp_perm k r).countP_eq _
    show (r.getD (k + 1) 0 < r.getD k 0 → zcls a (zswp k r) + zlinv (zswp k r) + 1 = zcls a r + zlinv r) ∧ (r.getD k 0 < r.getD (k + 1) 0 → zcls a (zswp k r) + zlinv (zswp k r) = zcls a r + zlinv r + 1)
    rw [c]
    constructor <;> intro h
    · have := i.1 h; omega
    · have := i.2 h; omega
theorem zinvs_x {n o k : Nat} (ho : o < zfac n) (hk : k + 2 ≤ n) : (zr n o (k + 1) < zr n o k → zinvs n (zx n k o) + 1 = zinvs n o) ∧ (zr n o k < zr n o (k + 1) → zinvs n (zx n k o) = zinvs n o + 1) := by
  rw [← zlinv_num (zx_lt ho hk), ← zlinv_num ho, zx_row ho hk]
  exact zlinv_swp k _ (zrw_pm ho).1 (by rw [zrw_len]; omega)
/-- as a sum over pairs -/
theorem zcls_sum (x : Nat) : ∀ (l : List Nat), zcls x l = zsu (fun j => if l.getD j 0 < x then 1 else 0) l.length
  | [] => rfl
  | y :: r => by
    have sh : ∀ (f : Nat → Nat) (m : Nat), zsu f (m + 1) = f 0 + zsu (fun i => f (i + 1)) m := by
      intro f m
      induction m with
      | zero => show 0 + f 0 = f 0 + 0; omega
      | succ m ih =>
        show zsu f (m + 1) + f (m + 1) = f 0 + (zsu (fun i => f (i + 1)) m + f (m + 1))
        rw [ih]; omega
    have e : zcls x (y :: r) = zcls x r + (if y < x then 1 else 0) := by unfold zcls; rw [List.countP_cons]; simp
    rw [e, zcls_sum x r, List.length_cons, sh]
    show _ = (if y < x then 1 else 0) + _
    rw [Nat.add_comm]
    rfl
theorem zsu_shift (f : Nat → Nat) (m : Nat) : zsu f (m + 1) = f 0 + zsu (fun i => f (i + 1)) m := by
  induction m with
  | zero => show 0 + f 0 = f 0 + 0; omega
  | succ m ih =>
    show zsu f (m + 1) + f (m + 1) = f 0 + (zsu (fun i => f (i + 1)) m + f (m + 1))
    rw [ih]; omega
theorem zlinv_sum : ∀ (l : List Nat), zlinv l = zsu (fun i => zsu (fun j => if i < j ∧ l.getD j 0 < l.getD i 0 then 1 else 0) l.length) l.length
  | [] => rfl
  | y :: r => by
    show zcls y r + zlinv r = _
    rw [zlinv_sum r, zcls_sum, List.length_cons, zsu_shift]
    congr 1
    · rw [zsu_shift, if_neg (by omega), Nat.zero_add]
      refine zsu_congr fun i _ => ?_
      show (if r.getD i 0 < y then 1 else 0) = if 0 < i + 1 ∧ r.getD i 0 < y then 1 else 0
      by_cases c : r.getD i 0 < y
      · rw [if_pos c, if_pos ⟨by omega, c⟩]
      · rw [if_neg c, if_neg (fun z => c z.2)]
    · refine zsu_congr fun i _ => ?_
      rw [zsu_shift, if_neg (by omega), Nat.zero_add]
      refine zsu_congr fun j _ => ?_
      show (if i < j ∧ r.getD j 0 < r.getD i 0 then 1 else 0) = if i + 1 < j + 1 ∧ r.getD j 0 < r.getD i 0 then 1 else 0
      by_cases c : i < j ∧ r.getD j 0 < r.getD i 0
      · rw [if_pos c, if_pos ⟨by omega, c.2⟩]
      · rw [if_neg c, if_neg (fun z => c ⟨by omega, z.2⟩)]
theorem zinvs_sum {n o : Nat} (ho : o < zfac n) : zinvs n o = zsu (fun i => zsu (fun j => if i < j ∧ zr n o j < zr n o i then 1 else 0) n) n := by
  rw [← zlinv_num ho, zlinv_sum, zrw_len]
  rfl
theorem zinvs_in {n o : Nat} (ho : o < zfac n) : zinvs n (zin n o) = zinvs n o := by
  have h1 := zin_lt ho
  have s1 := zsu_row ho (fun u => zsu (fun v => if u < v ∧ zr n (zin n o) v < zr n (zin n o) u then 1 else 0) n)
  have s2 := zsu_swap (fun i j => if i < j ∧ zr n o j < zr n o i then 1 else 0) n n
  rw [zinvs_sum h1, zinvs_sum ho, s2, ← s1]
  refine zsu_congr fun i hi => ?_
  have s3 := zsu_row ho (fun v => if zr n o i < v ∧ zr n (zin n o) v < zr n (zin n o) (zr n o i) then 1 else 0)
  refine s3.symm.trans (zsu_congr fun j hj => ?_)
  show (if zr n o i < zr n o j ∧ zr n (zin n o) (zr n o j) < zr n (zin n o) (zr n o i) then 1 else 0) = (if j < i ∧ zr n o i < zr n o j then 1 else 0)
  rw [zin_r ho (zr_lt ho hj), zin_r ho (zr_lt ho hi), zp_r ho hj, zp_r ho hi]
  by_cases c : zr n o i < zr n o j ∧ j < i
  · rw [if_pos c, if_pos c.symm]
  · rw [if_neg c, if_neg (fun z => c z.symm)]
/-! the names that the class has for these -/
theorem znu_last (o : Nat) : ∀ (m j v : Nat), znu o (m + 1) j v = (if zD (j + m + 1) o ≤ znu o m j v then znu o m j v + 1 else znu o m j v)
  | 0, j, v => by
    show cond (Nat.ble (zD (j + 1) o) v) (v + 1) v = if zD (j + 0 + 1) o ≤ v then v + 1 else v
    cases hb : Nat.ble (zD (j + 1) o) v with
    | true => rw [if_pos (Nat.le_of_ble_eq_true hb)]; rfl
    | false =>
      rw [if_neg (fun z => by rw [Nat.ble_eq_true_of_le z] at hb; cases hb)]; rfl
  | m + 1, j, v => by
    show znu o (m + 1) (j + 1) (cond (Nat.ble (zD (j + 1) o) v) (v + 1) v) = _
    rw [znu_last o m (j + 1)]
    rw [show j + 1 + m + 1 = j + (m + 1) + 1 by omega]
    rfl
theorem znu_low {n o : Nat} : ∀ (m j v : Nat), j + m < n → znu (o % zfac n) m j v = znu o m j v
  | 0, _, _, _ => rfl
  | m + 1, j, v, h => by
    show znu _ m (j + 1) (cond (Nat.ble (zD (j + 1) (o % zfac n)) v) (v + 1) v) = znu _ m (j + 1) (cond (Nat.ble (zD (j + 1) o) v) (v + 1) v)
    rw [zD_low (show j + 1 < n by omega), znu_low m (j + 1) _ (by omega)]
theorem zr_on : ∀ {n o i : Nat}, o < zfac n → i < n → zr n o i = zon n o i
  | 0, _, _, _, h => by omega
  | n + 1, o, 0, ho, _ => by
    show o / zfac n = zD n o
    exact (zD_top ho).symm
  | n + 1, o, i + 1, ho, hi => by
    have hm := Nat.mod_lt o (zfac_pos n)
    have ih := zr_on hm (show i < n by omega)
    have e1 : zr (n + 1) o (i + 1) = if o / zfac n ≤ zr n (o % zfac n) i then zr n (o % zfac n) i + 1 else zr n (o % zfac n) i := by
      unfold zr
      show (zmpd _ (zrw n (o % zfac n))).getD i 0 = _
      unfold zmpd
      have hl : i < (zrw n (o % zfac n)).length := by rw [zrw_len]; omega
      rw [List.getD_eq_getElem?_getD, List.getElem?_map, List.getD_eq_getElem?_getD, List.getElem?_eq_getElem hl]
      rfl
    rw [e1, ih]
    unfold zon
    rw [znu_last]
    have e2 : n + 1 - 1 - (i + 1) = n - 1 - i := by omega
    rw [e2, show n - 1 - i + i + 1 = n by omega, zD_top ho, zD_low (show n - 1 - i < n by omega), znu_low _ _ _ (by omega)]
theorem zle1_low {o : Nat} : ∀ (m i s v N : Nat), i + m = N → zle1 N o m i v = (zle1 m (o % zfac m) m 0 v).map (fun x => x + i) := by
  intro m
  induction m generalizing o with
  | zero => intro i s v N h; rfl
  | succ m ih =>
    intro i s v N h
    have hN : N - 1 - i = m := by omega
    have h0 : m + 1 - 1 - 0 = m := by omega
    show cond (Nat.beq (zD (N - 1 - i) o) v) (some i) (zle1 N o m (i + 1) (cond (Nat.blt (zD (N - 1 - i) o) v) (v - 1) v)) = (cond (Nat.beq (zD (m + 1 - 1 - 0) (o % zfac (m + 1))) v) (some 0) (zle1 (m + 1) (o % zfac (m + 1)) m 1 (cond (Nat.blt (zD (m + 1 - 1 - 0) (o % zfac (m + 1))) v) (v - 1) v))).map (fun x => x + i)
    rw [hN, h0, zD_low (show m < m + 1 by omega)]
    cases Nat.beq (zD m o) v with
    | true => simp
    | false =>
      rw [cond_false, cond_false, ih (i + 1) 0 _ N (by omega), ih 1 0 _ (m + 1) (by omega)]
      have hd : zfac m ∣ zfac (m + 1) := Nat.dvd_mul_left _ _
      rw [Nat.mod_mod_of_dvd _ hd, Option.map_map]
      congr 1
      funext x
      simp only [Function.comp]
      omega
theorem zle1_idx : ∀ {n o v : Nat}, o < zfac n → v < n → zle1 n o n 0 v = some ((zrw n o).idxOf v)
  | 0, _, _, _, h => by omega
  | n + 1, o, v, ho, hv => by
    have hm := Nat.mod_lt o (zfac_pos n)
    have hd := zD_top ho
    have hp := zrw_pm ho
    have hrow : zrw (n + 1) o = o / zfac n :: zmpd (o / zfac n) (zrw n (o % zfac n)) := rfl
    show cond (Nat.beq (zD (n + 1 - 1 - 0) o) v) (some 0) (zle1 (n + 1) o n 1 (cond (Nat.blt (zD (n + 1 - 1 - 0) o) v) (v - 1) v)) = _
    rw [show n + 1 - 1 - 0 = n by omega, hd, hrow, List.idxOf_cons]
    cases hb : Nat.beq (o / zfac n) v with
    | true =>
      have := Nat.eq_of_beq_eq_true hb
      rw [cond_true, this, beq_self_eq_true]
      rfl
    | false =>
      have hne : o / zfac n ≠ v := fun z => by rw [z, Nat.beq_refl] at hb; cases hb
      have e9 : (o / zfac n == v) = false := beq_eq_false_iff_ne.mpr hne
      rw [cond_false, e9, cond_false, zle1_low n 1 0 _ (n + 1) (by omega)]
      have hdl := zdiv_le ho
      generalize hw : cond (Nat.blt (o / zfac n) v) (v - 1) v = w
      have hw2 : w < n ∧ v = if o / zfac n ≤ w then w + 1 else w := by
        cases hb2 : Nat.blt (o / zfac n) v with
        | true =>
          have := Nat.blt_eq.mp hb2
          rw [hb2, cond_true] at hw
          refine ⟨by omega, ?_⟩
          rw [if_pos (by omega)]; omega
        | false =>
          have : ¬ o / zfac n < v := fun z => by rw [Nat.blt_eq.mpr z] at hb2; cases hb2
          rw [hb2, cond_false] at hw
          refine ⟨by omega, ?_⟩
          rw [if_neg (by omega)]; omega
      rw [zle1_idx hm hw2.1]
      show some ((zrw n (o % zfac n)).idxOf w + 1) = some ((zmpd (o / zfac n) (zrw n (o % zfac n))).idxOf v + 1)
      congr 2
      have gen : ∀ l : List Nat, l.idxOf w = (zmpd (o / zfac n) l).idxOf v := by
        intro l
        induction l with
        | nil => rfl
        | cons x r ih =>
          show _ = ((if o / zfac n ≤ x then x + 1 else x) :: zmpd (o / zfac n) r).idxOf v
          rw [List.idxOf_cons, List.idxOf_cons, ih]
          by_cases c : x = w
          · have c2 : (if o / zfac n ≤ w then w + 1 else w) = v := hw2.2.symm
            rw [c, c2, beq_self_eq_true, beq_self_eq_true]
          · have c2 : (if o / zfac n ≤ x then x + 1 else x) ≠ v := by rw [hw2.2]; split <;> split <;> omega
            rw [beq_eq_false_iff_ne.mpr c, beq_eq_false_iff_ne.mpr c2]
      exact gen _
theorem zlg_p {n o v : Nat} (ho : o < zfac n) (hv : v < n) : zlgI n o v = (zp n o v : Int) := by
  unfold zlgI
  rw [zle1_idx ho hv]
  rfl
