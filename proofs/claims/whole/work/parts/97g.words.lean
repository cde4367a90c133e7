/-! LEAST LADDERS AS WORDS: ranks and words fit; slides and turns -/
/-- a walk down that comes to the first order -/
def zvw (n v : Nat) (f : Nat → Nat) (m : Nat) : Prop := zinvs n v = m ∧ ∀ j, j < m → f j + 2 ≤ n ∧ zp n (zrkv n v f j) (f j + 1) < zp n (zrkv n v f j) (f j)
theorem zrkv_sh {n v : Nat} {f : Nat → Nat} : ∀ i, zrkv n v f (i + 1) = zrkv n (zrn n (f 0) v) (fun j => f (j + 1)) i
  | 0 => rfl
  | i + 1 => by
    show zrn n (f (i + 1)) (zrkv n v f (i + 1)) = zrn n (f (i + 1)) _
    rw [zrkv_sh i]
theorem zrkv_congr {n v : Nat} {f g : Nat → Nat} : ∀ m, (∀ j, j < m → f j = g j) → zrkv n v f m = zrkv n v g m
  | 0, _ => rfl
  | m + 1, h => by
    show zrn n (f m) (zrkv n v f m) = zrn n (g m) (zrkv n v g m)
    rw [h m (by omega), zrkv_congr m fun j hj => h j (by omega)]
theorem zvw_sh {n v m : Nat} {f : Nat → Nat} (hv : v < zfac n) (V : zvw n v f (m + 1)) : zvw n (zrn n (f 0) v) (fun j => f (j + 1)) m := by
  refine ⟨?_, fun j hj => ?_⟩
  · have a := V.2 0 (by omega)
    have b := zrn_inv hv a.1 a.2
    have c := V.1
    omega
  · have a := V.2 (j + 1) (by omega)
    rw [zrkv_sh] at a
    exact a
theorem zvw_congr {n v m : Nat} {f g : Nat → Nat} (h : ∀ j, j < m → f j = g j) (V : zvw n v f m) : zvw n v g m := by
  refine ⟨V.1, fun j hj => ?_⟩
  have a := V.2 j hj
  rw [zrkv_congr j (fun i hi => h i (by omega)), h j hj] at a
  exact a
theorem zrks_sh {n v m : Nat} {f : Nat → Nat} : zrks n v f (m + 1) = zsu (zdn n v) (f 0) + zrks n (zrn n (f 0) v) (fun j => f (j + 1)) m := by
  unfold zrks
  rw [zsu_shift]
  have e : zsu (fun i => zsu (zdn n (zrkv n v f (i + 1))) (f (i + 1))) m = zsu (fun i => zsu (zdn n (zrkv n (zrn n (f 0) v) (fun j => f (j + 1)) i)) (f (i + 1))) m := zsu_congr fun i _ => by rw [zrkv_sh]
  rw [e]
  rfl
theorem zrks_congr {n v m : Nat} {f g : Nat → Nat} (h : ∀ j, j < m → f j = g j) : zrks n v f m = zrks n v g m := by
  unfold zrks
  exact zsu_congr fun i hi => by rw [zrkv_congr i (fun j hj => h j (by omega)), h i hi]
theorem zun_sh {n v r : Nat} : ∀ i, zun n v r (i + 1) = zun n (zrn n (zlet n v r 0) v) (zpk n v (n - 1) r 0).2 i
  | 0 => rfl
  | i + 1 => by
    show (zrn n (zpk n (zun n v r (i + 1)).1 (n - 1) (zun n v r (i + 1)).2 0).1 (zun n v r (i + 1)).1, (zpk n (zun n v r (i + 1)).1 (n - 1) (zun n v r (i + 1)).2 0).2) = _
    rw [zun_sh i]
    rfl
theorem zlet_sh {n v r i : Nat} : zlet n v r (i + 1) = zlet n (zrn n (zlet n v r 0) v) (zpk n v (n - 1) r 0).2 i := by
  show (zpk n (zun n v r (i + 1)).1 (n - 1) (zun n v r (i + 1)).2 0).1 = _
  rw [zun_sh]
  rfl
theorem zdn_mono {n v : Nat} {a b : Nat} (h : a ≤ b) : zsu (zdn n v) a ≤ zsu (zdn n v) b := by
  induction b with
  | zero => rw [Nat.le_zero.mp h]; exact Nat.le_refl _
  | succ b ih =>
    by_cases c : a = b + 1
    · rw [c]; exact Nat.le_refl _
    · have := ih (by omega)
      have e : zsu (zdn n v) (b + 1) = zsu (zdn n v) b + zdn n v b := rfl
      omega
theorem zpk_one {n v k r : Nat} (hk : k + 2 ≤ n) (hr : r < zdn n v k) : zpk n v (n - 1) (r + zsu (zdn n v) k) 0 = (k, r) := by
  have key : ∀ (f s a : Nat), a ≤ k → k < a + f → s + zsu (zdn n v) a = r + zsu (zdn n v) k → zpk n v f s a = (k, r) := by
    intro f
    induction f with
    | zero => intro s a h1 h2; omega
    | succ f ih =>
      intro s a ha hf hs
      have e : zpk n v (f + 1) s a = if s < zdn n v a then (a, s) else zpk n v f (s - zdn n v a) (a + 1) := rfl
      have e2 : zsu (zdn n v) (a + 1) = zsu (zdn n v) a + zdn n v a := rfl
      by_cases c : a = k
      · rw [c] at hs
        have : s = r := by omega
        rw [e, c, this, if_pos hr]
      · have mono : zsu (zdn n v) (a + 1) ≤ zsu (zdn n v) k := zdn_mono (by omega)
        rw [e, if_neg (by omega)]
        exact ih _ _ (by omega) (by omega) (by omega)
  exact key (n - 1) _ 0 (Nat.zero_le _) (by omega) rfl
theorem zinvs_z {n v : Nat} (hv : v < zfac n) (h : zinvs n v = 0) : v = 0 := by
  by_cases c : v = 0
  · exact c
  · have := zinvs_pos hv c
    omega
/-- a word's rank, and that rank's word -/
theorem zrks_lt {n : Nat} : ∀ (m v : Nat) (f : Nat → Nat), v < zfac n → zvw n v f m → zrks n v f m < zTl n v ∧ ∀ i, i < m → zlet n v (zrks n v f m) i = f i := by
  intro m
  induction m with
  | zero =>
    intro v f hv V
    have v0 := zinvs_z hv V.1
    refine ⟨?_, fun i hi => by omega⟩
    rw [v0, zTl_0]
    exact Nat.one_pos
  | succ m ih =>
    intro v f hv V
    obtain ⟨f1, f2⟩ := V.2 0 (by omega)
    have f2 : zp n v (f 0 + 1) < zp n v (f 0) := f2
    obtain ⟨a1, a2⟩ := ih _ _ (zrn_lt hv f1) (zvw_sh hv V)
    have dn : zdn n v (f 0) = zTl n (zrn n (f 0) v) := if_pos f2
    have p := zpk_one f1 (show zrks n (zrn n (f 0) v) (fun j => f (j + 1)) m < zdn n v (f 0) by rw [dn]; exact a1)
    have e : zrks n v f (m + 1) = zrks n (zrn n (f 0) v) (fun j => f (j + 1)) m + zsu (zdn n v) (f 0) := zrks_sh.trans (Nat.add_comm _ _)
    have h0 : v ≠ 0 := fun z => by
      have := V.1
      rw [z, zinvs_0] at this
      omega
    rw [← e] at p
    have p0 : zlet n v (zrks n v f (m + 1)) 0 = f 0 := by
      show (zpk n v (n - 1) (zrks n v f (m + 1)) 0).1 = _
      rw [p]
    refine ⟨?_, fun i hi => ?_⟩
    · have m1 : zsu (zdn n v) (f 0 + 1) ≤ zsu (zdn n v) (n - 1) := zdn_mono (by omega)
      have m2 : zsu (zdn n v) (f 0 + 1) = zsu (zdn n v) (f 0) + zdn n v (f 0) := rfl
      rw [e, zTl_dn hv h0]
      omega
    · cases i with
      | zero => exact p0
      | succ i =>
        rw [zlet_sh, p0, p]
        exact a2 i (by omega)
theorem zrks_let {n : Nat} : ∀ (m v r : Nat), v < zfac n → r < zTl n v → zinvs n v = m → zrks n v (zlet n v r) m = r := by
  intro m
  induction m with
  | zero =>
    intro v r hv hr hm
    rw [zinvs_z hv hm, zTl_0] at hr
    show 0 = r
    omega
  | succ m ih =>
    intro v r hv hr hm
    have h0 : v ≠ 0 := fun z => by rw [z, zinvs_0] at hm; omega
    obtain ⟨b1, b2, b3, b4⟩ := zpk_at hv h0 hr
    have b1 : zlet n v r 0 + 2 ≤ n := b1
    have b2 : zp n v (zlet n v r 0 + 1) < zp n v (zlet n v r 0) := b2
    have b5 := zrn_inv hv b1 b2
    rw [zrks_sh]
    have e : zrks n (zrn n (zlet n v r 0) v) (fun j => zlet n v r (j + 1)) m = zrks n (zrn n (zlet n v r 0) v) (zlet n (zrn n (zlet n v r 0) v) (zpk n v (n - 1) r 0).2) m := zrks_congr fun j _ => zlet_sh
    rw [e, ih _ _ (zrn_lt hv b1) b3 (by omega)]
    exact (Nat.add_comm _ _).trans b4.symm
theorem zun_rkv {n v r : Nat} : ∀ i, (zun n v r i).1 = zrkv n v (zlet n v r) i
  | 0 => rfl
  | i + 1 => by
    show zrn n (zlet n v r i) (zun n v r i).1 = zrn n (zlet n v r i) (zrkv n v (zlet n v r) i)
    rw [zun_rkv i]
theorem zvw_let {n v r : Nat} (hv : v < zfac n) (hr : r < zTl n v) : zvw n v (zlet n v r) (zinvs n v) := ⟨rfl, fun j hj => by
  have a := zlet_lt hv hr hj
  rw [zun_rkv] at a
  exact a⟩
/-- what a swap of numbers does to places -/
theorem zrp0 {n k o : Nat} (ho : o < zfac n) (hk : k + 2 ≤ n) : zp n (zrn n k o) k = zp n o (k + 1) := by
  rw [zrn_p ho hk (by omega), if_pos rfl]
theorem zrp1 {n k o : Nat} (ho : o < zfac n) (hk : k + 2 ≤ n) : zp n (zrn n k o) (k + 1) = zp n o k := by
  rw [zrn_p ho hk (by omega), if_neg (by omega), if_pos rfl]
theorem zrp2 {n k o v : Nat} (ho : o < zfac n) (hk : k + 2 ≤ n) (hv : v < n) (a : v ≠ k) (b : v ≠ k + 1) : zp n (zrn n k o) v = zp n o v := by
  rw [zrn_p ho hk hv, if_neg a, if_neg b]
theorem zrn_far {n k l o : Nat} (ho : o < zfac n) (hk : k + 2 ≤ n) (hl : l + 2 ≤ n) (d : k + 1 < l ∨ l + 1 < k) : zrn n l (zrn n k o) = zrn n k (zrn n l o) := by
  refine zrw_ext (zrn_lt (zrn_lt ho hk) hl) (zrn_lt (zrn_lt ho hl) hk) fun i hi => ?_
  rw [zrn_r (zrn_lt ho hk) hl hi, zrn_r (zrn_lt ho hl) hk hi, zrn_r ho hk hi, zrn_r ho hl hi]
  generalize zr n o i = x
  repeat' split
  all_goals omega
theorem zrn_near {n k o : Nat} (ho : o < zfac n) (hk : k + 3 ≤ n) : zrn n k (zrn n (k + 1) (zrn n k o)) = zrn n (k + 1) (zrn n k (zrn n (k + 1) o)) := by
  have h1 : k + 2 ≤ n := by omega
  have h2 : k + 1 + 2 ≤ n := by omega
  have a1 := zrn_lt ho h1
  have a2 := zrn_lt ho h2
  have b1 := zrn_lt a1 h2
  have b2 := zrn_lt a2 h1
  refine zrw_ext (zrn_lt b1 h1) (zrn_lt b2 h2) fun i hi => ?_
  rw [zrn_r b1 h1 hi, zrn_r b2 h2 hi, zrn_r a1 h2 hi, zrn_r a2 h1 hi, zrn_r ho h1 hi, zrn_r ho h2 hi]
  generalize zr n o i = x
  repeat' split
  all_goals omega
theorem ztn_up {n k o : Nat} (ho : o < zfac n) (hk : k + 3 ≤ n) : (zp n o (k + 1) < zp n o k ∧ zp n (zrn n k o) (k + 2) < zp n (zrn n k o) (k + 1) ∧ zp n (zrn n (k + 1) (zrn n k o)) (k + 1) < zp n (zrn n (k + 1) (zrn n k o)) k) ↔ (zp n o (k + 2) < zp n o (k + 1) ∧ zp n (zrn n (k + 1) o) (k + 1) < zp n (zrn n (k + 1) o) k ∧ zp n (zrn n k (zrn n (k + 1) o)) (k + 2) < zp n (zrn n k (zrn n (k + 1) o)) (k + 1)) := by
  have h1 : k + 2 ≤ n := by omega
  have h2 : k + 1 + 2 ≤ n := by omega
  have a1 := zrn_lt ho h1
  have a2 := zrn_lt ho h2
  have e1 : zp n (zrn n k o) (k + 2) = zp n o (k + 2) := zrp2 ho h1 (by omega) (by omega) (by omega)
  have e2 : zp n (zrn n k o) (k + 1) = zp n o k := zrp1 ho h1
  have e3 : zp n (zrn n k o) k = zp n o (k + 1) := zrp0 ho h1
  have e4 : zp n (zrn n (k + 1) (zrn n k o)) (k + 1) = zp n (zrn n k o) (k + 2) := zrp0 a1 h2
  have e5 : zp n (zrn n (k + 1) (zrn n k o)) k = zp n (zrn n k o) k := zrp2 a1 h2 (by omega) (by omega) (by omega)
  have g1 : zp n (zrn n (k + 1) o) (k + 1) = zp n o (k + 2) := zrp0 ho h2
  have g2 : zp n (zrn n (k + 1) o) k = zp n o k := zrp2 ho h2 (by omega) (by omega) (by omega)
  have g3 : zp n (zrn n (k + 1) o) (k + 2) = zp n o (k + 1) := zrp1 ho h2
  have g4 : zp n (zrn n k (zrn n (k + 1) o)) (k + 2) = zp n (zrn n (k + 1) o) (k + 2) := zrp2 a2 h1 (by omega) (by omega) (by omega)
  have g5 : zp n (zrn n k (zrn n (k + 1) o)) (k + 1) = zp n (zrn n (k + 1) o) k := zrp1 a2 h1
  rw [e4, e5, g4, g5, e1, e2, e3, g1, g2, g3]
  omega
