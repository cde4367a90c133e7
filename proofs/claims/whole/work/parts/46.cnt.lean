/-! HOW MANY LEAST LADDERS: counted from the one end as from the other -/
def zNl (n : Nat) : Nat → Nat → Nat
  | 0, o => if o = 0 then 1 else 0
  | l + 1, o => zsu (fun k => zNl n l (zx n k o)) (n - 1)
def zTl (n o : Nat) : Nat := zNl n (zinvs n o) o
def zrn (n k o : Nat) : Nat := zin n (zx n k (zin n o))
theorem zrn_lt {n k o : Nat} (ho : o < zfac n) (hk : k + 2 ≤ n) : zrn n k o < zfac n := zin_lt (zx_lt (zin_lt ho) hk)
theorem zrn_r {n k o i : Nat} (ho : o < zfac n) (hk : k + 2 ≤ n) (hi : i < n) : zr n (zrn n k o) i = if zr n o i = k then k + 1 else if zr n o i = k + 1 then k else zr n o i := by
  unfold zrn
  rw [zin_r (zx_lt (zin_lt ho) hk) hi, zx_p (zin_lt ho) hk hi, zin_p ho hi]
theorem zrn_p {n k o v : Nat} (ho : o < zfac n) (hk : k + 2 ≤ n) (hv : v < n) : zp n (zrn n k o) v = zp n o (if v = k then k + 1 else if v = k + 1 then k else v) := by
  have hv2 : (if v = k then k + 1 else if v = k + 1 then k else v) < n := by split <;> (try split) <;> omega
  refine zp_eq (zrn_lt ho hk) (zp_lt ho hv2) ?_
  rw [zrn_r ho hk (zp_lt ho hv2), zr_p ho hv2]
  repeat' split
  all_goals omega
/-- exchanges on legs and of numbers go past one another -/
theorem zx_rn {n j k o : Nat} (ho : o < zfac n) (hj : j + 2 ≤ n) (hk : k + 2 ≤ n) : zx n k (zrn n j o) = zrn n j (zx n k o) := by
  have h1 := zrn_lt ho hj
  have h2 := zx_lt ho hk
  refine zrw_ext (zx_lt h1 hk) (zrn_lt h2 hj) fun i hi => ?_
  have hs : (if i = k then k + 1 else if i = k + 1 then k else i) < n := by split <;> (try split) <;> omega
  rw [zx_r h1 hk, zrn_r ho hj hs, zrn_r h2 hj hi, zx_r ho hk]
theorem zx_0 {n k o : Nat} (ho : o < zfac n) (hk : k + 2 ≤ n) : zx n k o = 0 ↔ zrn n k o = 0 := by
  have h0 : 0 < zfac n := zfac_pos n
  have e : zrn n k 0 = zx n k 0 := by
    refine zrw_ext (zrn_lt h0 hk) (zx_lt h0 hk) fun i hi => ?_
    have hs : (if i = k then k + 1 else if i = k + 1 then k else i) < n := by split <;> (try split) <;> omega
    rw [zrn_r h0 hk hi, zx_r h0 hk, zr_0 hi, zr_0 hs]
  have inv : zrn n k (zrn n k o) = o := by
    unfold zrn
    rw [zin_in (zx_lt (zin_lt ho) hk), zx_x (zin_lt ho) hk, zin_in ho]
  constructor
  · intro h
    have : o = zx n k 0 := by rw [← h, zx_x ho hk]
    rw [this, ← e]
    unfold zrn
    rw [zin_in (zx_lt (zin_lt h0) hk), zx_x (zin_lt h0) hk, zin_in h0]
  · intro h
    have : o = zrn n k 0 := by rw [← h, inv]
    rw [this, e, zx_x h0 hk]
theorem zN_first {n : Nat} : ∀ (l : Nat) {o : Nat}, o < zfac n → zNl n (l + 1) o = zsu (fun j => zNl n l (zrn n j o)) (n - 1)
  | 0, o, ho => by
    show zsu (fun k => if zx n k o = 0 then 1 else 0) (n - 1) = zsu (fun j => if zrn n j o = 0 then 1 else 0) (n - 1)
    refine zsu_congr fun k hk => ?_
    have := zx_0 ho (show k + 2 ≤ n by omega)
    by_cases c : zx n k o = 0
    · rw [if_pos c, if_pos (this.mp c)]
    · rw [if_neg c, if_neg (fun z => c (this.mpr z))]
  | l + 1, o, ho => by
    have e1 : zNl n (l + 1 + 1) o = zsu (fun k => zsu (fun j => zNl n l (zrn n j (zx n k o))) (n - 1)) (n - 1) := zsu_congr fun k hk => zN_first l (zx_lt ho (show k + 2 ≤ n by omega))
    rw [e1, zsu_swap]
    refine zsu_congr fun j hj => ?_
    show _ = zsu (fun k => zNl n l (zx n k (zrn n j o))) (n - 1)
    refine zsu_congr fun k hk => ?_
    rw [zx_rn ho (by omega) (by omega)]
theorem zN_in {n : Nat} : ∀ (l : Nat) {o : Nat}, o < zfac n → zNl n l (zin n o) = zNl n l o
  | 0, o, ho => by
    have h0 : 0 < zfac n := zfac_pos n
    have e0 : zin n 0 = 0 := by
      refine zrw_ext (zin_lt h0) h0 fun i hi => ?_
      rw [zin_r h0 hi, zr_0 hi]
      exact zp_eq h0 hi (zr_0 hi)
    show (if zin n o = 0 then 1 else 0) = (if o = 0 then 1 else 0)
    by_cases c : o = 0
    · rw [c, e0]
    · rw [if_neg c, if_neg]
      intro z
      have := zin_in ho
      rw [z, e0] at this
      exact c this.symm
  | l + 1, o, ho => by
    rw [zN_first l ho]
    show zsu (fun k => zNl n l (zx n k (zin n o))) (n - 1) = _
    refine zsu_congr fun k hk => ?_
    exact (zN_in l (zx_lt (zin_lt ho) (show k + 2 ≤ n by omega))).symm
theorem zTl_in {n o : Nat} (ho : o < zfac n) : zTl n (zin n o) = zTl n o := by
  unfold zTl
  rw [zinvs_in ho, zN_in _ ho]
/-- an order that is not the first has a place where the left one is the greater -/
theorem zdesc_ex {n o : Nat} (ho : o < zfac n) (h0 : o ≠ 0) : ∃ k, k + 2 ≤ n ∧ zr n o (k + 1) < zr n o k := by
  apply Classical.byContradiction
  intro hne
  have asc : ∀ k, k + 2 ≤ n → zr n o k < zr n o (k + 1) := fun k hk => by
    rcases Nat.lt_or_ge (zr n o (k + 1)) (zr n o k) with c | c
    · exact absurd ⟨k, hk, c⟩ hne
    · rcases Nat.lt_or_ge (zr n o k) (zr n o (k + 1)) with d | d
      · exact d
      · have := zr_inj ho (show k < n by omega) (show k + 1 < n by omega) (by omega)
        omega
  have lo : ∀ i, i < n → i ≤ zr n o i := by
    intro i
    induction i with
    | zero => intro _; omega
    | succ i ih => intro hi; have := ih (by omega); have := asc i (by omega); omega
  have hi' : ∀ j, j < n → zr n o (n - 1 - j) ≤ n - 1 - j := by
    intro j
    induction j with
    | zero => intro hj; have := zr_lt ho (show n - 1 - 0 < n by omega); omega
    | succ j ih =>
      intro hj
      have a := ih (by omega)
      have b := asc (n - 1 - (j + 1)) (by omega)
      rw [show n - 1 - (j + 1) + 1 = n - 1 - j by omega] at b
      omega
  refine h0 (zrw_ext ho (zfac_pos n) fun i hi => ?_)
  rw [zr_0 hi]
  have a := lo i hi
  have b := hi' (n - 1 - i) (by omega)
  rw [show n - 1 - (n - 1 - i) = i by omega] at b
  omega
theorem zinvs_0 {n : Nat} : zinvs n 0 = 0 := by
  unfold zinvs
  rw [zsu_congr (g := fun _ => 0) (fun i _ => ?_), zsu_0]
  show 0 / _ % _ = 0
  rw [Nat.zero_div, Nat.zero_mod]
theorem zinvs_pos {n o : Nat} (ho : o < zfac n) (h0 : o ≠ 0) : 0 < zinvs n o := by
  obtain ⟨k, hk, hd⟩ := zdesc_ex ho h0
  have := (zinvs_x ho hk).1 hd
  omega
theorem zinvs_ge {n o k : Nat} (ho : o < zfac n) (hk : k + 2 ≤ n) : zinvs n o ≤ zinvs n (zx n k o) + 1 := by
  rcases Nat.lt_or_ge (zr n o (k + 1)) (zr n o k) with c | c
  · have := (zinvs_x ho hk).1 c; omega
  · rcases Nat.lt_or_ge (zr n o k) (zr n o (k + 1)) with d | d
    · have := (zinvs_x ho hk).2 d; omega
    · have := zr_inj ho (show k < n by omega) (show k + 1 < n by omega) (by omega)
      omega
theorem zN_big {n : Nat} : ∀ (l : Nat) {o : Nat}, o < zfac n → l < zinvs n o → zNl n l o = 0
  | 0, o, ho, h => by
    show (if o = 0 then 1 else 0) = 0
    rw [if_neg]
    intro z
    rw [z, zinvs_0] at h
    omega
  | l + 1, o, ho, h => by
    show zsu (fun k => zNl n l (zx n k o)) (n - 1) = 0
    rw [zsu_congr (g := fun _ => 0) (fun k hk => ?_), zsu_0]
    have hk2 : k + 2 ≤ n := by omega
    have := zinvs_ge ho hk2
    exact zN_big l (zx_lt ho hk2) (by omega)
theorem zTl_0 {n : Nat} : zTl n 0 = 1 := by
  unfold zTl
  rw [zinvs_0]
  rfl
theorem zTl_rec {n o : Nat} (ho : o < zfac n) (h0 : o ≠ 0) : zTl n o = zsu (fun k => if zr n o (k + 1) < zr n o k then zTl n (zx n k o) else 0) (n - 1) := by
  have hp := zinvs_pos ho h0
  obtain ⟨l, hl⟩ : ∃ l, zinvs n o = l + 1 := ⟨zinvs n o - 1, by omega⟩
  unfold zTl
  rw [hl]
  show zsu (fun k => zNl n l (zx n k o)) (n - 1) = _
  refine zsu_congr fun k hk => ?_
  have hk2 : k + 2 ≤ n := by omega
  by_cases c : zr n o (k + 1) < zr n o k
  · rw [if_pos c]
    have := (zinvs_x ho hk2).1 c
    rw [show zinvs n (zx n k o) = l by omega]
  · rw [if_neg c]
    rcases Nat.lt_or_ge (zr n o k) (zr n o (k + 1)) with d | d
    · have := (zinvs_x ho hk2).2 d
      exact zN_big l (zx_lt ho hk2) (by omega)
    · have := zr_inj ho (show k < n by omega) (show k + 1 < n by omega) (by omega)
      omega
/-- the same from the other side -/
theorem zTl_rec2 {n o : Nat} (ho : o < zfac n) (h0 : o ≠ 0) : zTl n o = zsu (fun k => if zp n o (k + 1) < zp n o k then zTl n (zrn n k o) else 0) (n - 1) := by
  have h1 := zin_lt ho
  have hn0 : zin n o ≠ 0 := fun z => by
    have e := zin_in ho
    have e0 : zin n 0 = 0 := by
      refine zrw_ext (zin_lt (zfac_pos n)) (zfac_pos n) fun i hi => ?_
      rw [zin_r (zfac_pos n) hi, zr_0 hi]
      exact zp_eq (zfac_pos n) hi (zr_0 hi)
    rw [z, e0] at e
    exact h0 e.symm
  rw [← zTl_in ho, zTl_rec h1 hn0]
  refine zsu_congr fun k hk => ?_
  rw [zin_r ho (show k + 1 < n by omega), zin_r ho (show k < n by omega)]
  unfold zrn
  rw [zTl_in (zx_lt h1 (show k + 2 ≤ n by omega))]
theorem zN_le {n : Nat} (hn : n ≤ 7) : ∀ (l o : Nat), zNl n l o ≤ 6 ^ l
  | 0, o => by show (if o = 0 then 1 else 0) ≤ 1; split <;> omega
  | l + 1, o => by
    show zsu (fun k => zNl n l (zx n k o)) (n - 1) ≤ 6 ^ (l + 1)
    have h := zsu_le (f := fun k => zNl n l (zx n k o)) (fun k => zN_le hn l (zx n k o)) (n - 1)
    rw [Nat.pow_succ]
    have : (n - 1) * 6 ^ l ≤ 6 ^ l * 6 := by rw [Nat.mul_comm]; exact Nat.mul_le_mul_left _ (by omega)
    omega
theorem zinvs_le {n o : Nat} (hn : n ≤ 7) : zinvs n o ≤ 21 := by
  have : ∀ m, m ≤ n → 2 * zsu (fun i => zD (n - 1 - i) o) m ≤ m * (2 * n - 1 - m) := by
    intro m hm
    induction m with
    | zero => show 2 * 0 ≤ 0 * _; omega
    | succ m ih =>
      have h1 := ih (by omega)
      have h2 := zD_lt (n - 1 - m) o
      show 2 * (zsu _ m + zD (n - 1 - m) o) ≤ _
      have e1 : (m + 1) * (2 * n - 1 - (m + 1)) = m * (2 * n - 1 - m) + (2 * (n - 1 - m)) := by
        obtain ⟨d, hd⟩ : ∃ d, n = m + 1 + d := ⟨n - (m + 1), by omega⟩
        subst hd
        rw [show 2 * (m + 1 + d) - 1 - (m + 1) = m + 2 * d by omega, show 2 * (m + 1 + d) - 1 - m = m + 1 + 2 * d by omega, show m + 1 + d - 1 - m = d by omega]
        grind
      rw [e1]
      omega
  have h := this n (Nat.le_refl n)
  unfold zinvs
  have : n * (2 * n - 1 - n) ≤ 7 * 6 := Nat.mul_le_mul hn (by omega)
  omega
theorem zTl_le {n o : Nat} (hn : n ≤ 7) : zTl n o ≤ 21936950640377856 := by
  unfold zTl
  have h1 := zN_le hn (zinvs n o) o
  have h2 : 6 ^ zinvs n o ≤ 6 ^ 21 := Nat.pow_le_pow_right (by omega) (zinvs_le hn)
  have h3 : 6 ^ 21 = 21936950640377856 := by decide
  omega
/-- orders of n as orders of n + 1 -/
theorem zr_up {n o : Nat} (ho : o < zfac n) : zr (n + 1) o 0 = 0 ∧ ∀ i, i < n → zr (n + 1) o (i + 1) = zr n o i + 1 := by
  have e : zrw (n + 1) o = 0 :: zmpd 0 (zrw n o) := by
    show o / zfac n :: zmpd (o / zfac n) (zrw n (o % zfac n)) = _
    rw [Nat.div_eq_of_lt ho, Nat.mod_eq_of_lt ho]
  unfold zr
  rw [e]
  refine ⟨rfl, fun i hi => ?_⟩
  show (zmpd 0 (zrw n o)).getD i 0 = _
  unfold zmpd
  have hl : i < (zrw n o).length := by rw [zrw_len]; exact hi
  rw [List.getD_eq_getElem?_getD, List.getElem?_map, List.getD_eq_getElem?_getD, List.getElem?_eq_getElem hl]
  rfl
theorem zTl_up {n : Nat} (hn : 1 ≤ n) : ∀ (b o : Nat), o < b → o < zfac n → n + 1 ≤ 7 → zTl (n + 1) o = zTl n o
  | 0, _, h, _, _ => by omega
  | b + 1, o, hb, ho, h7 => by
    by_cases h0 : o = 0
    · rw [h0, zTl_0, zTl_0]
    have ho1 : o < zfac (n + 1) := Nat.lt_of_lt_of_le ho (zfac_mono (by omega))
    obtain ⟨u0, u1⟩ := zr_up ho
    rw [zTl_rec ho h0, zTl_rec ho1 h0, show n + 1 - 1 = (n - 1) + 1 by omega, zsu_shift, u0, if_neg (by omega), Nat.zero_add]
    refine zsu_congr fun k hk => ?_
    have ex : zx (n + 1) (k + 1) o = zx n k o := by unfold zx; rw [show n + 1 - 2 - (k + 1) = n - 2 - k by omega]
    rw [u1 (k + 1) (by omega), u1 k (by omega), ex]
    by_cases c : zr n o (k + 1) < zr n o k
    · rw [if_pos c, if_pos (by omega)]
      have hlt := (zx_desc ho (by omega) (show k + 2 ≤ n by omega)).mpr c
      exact zTl_up hn b _ (by omega) (zx_lt ho (by omega)) h7
    · rw [if_neg c, if_neg (by omega)]
theorem zTl_7 {n o : Nat} (hn : 1 ≤ n) (h7 : n ≤ 7) (ho : o < zfac n) : zTl 7 o = zTl n o := by
  have : ∀ d, n + d ≤ 7 → zTl (n + d) o = zTl n o := by
    intro d
    induction d with
    | zero => intro _; rfl
    | succ d ih =>
      intro hd
      rw [← ih (by omega)]
      exact zTl_up (n := n + d) (by omega) (o + 1) o (by omega) (Nat.lt_of_lt_of_le ho (zfac_mono (by omega))) (by omega)
  have h := this (7 - n) (by omega)
  rw [show n + (7 - n) = 7 by omega] at h
  exact h
