/-! ORDERS AS CHAINS OF BIT ROWS, counted -/
def zskd (d x : Nat) : Nat := if d ≤ x then x + 1 else x
theorem zr_head {m d o : Nat} (ho : o < zfac m) : zr (m + 1) (d * zfac m + o) 0 = d := by
  show (d * zfac m + o) / zfac m = d
  have := zfac_pos m
  rw [Nat.mul_comm, Nat.mul_add_div this, Nat.div_eq_of_lt ho, Nat.add_zero]
theorem zr_tail {m d o v : Nat} (ho : o < zfac m) (hv : v < m) : zr (m + 1) (d * zfac m + o) (v + 1) = zskd d (zr m o v) := by
  have hp := zfac_pos m
  have e1 : (d * zfac m + o) / zfac m = d := by rw [Nat.mul_comm, Nat.mul_add_div hp, Nat.div_eq_of_lt ho, Nat.add_zero]
  have e2 : (d * zfac m + o) % zfac m = o := by rw [Nat.mul_comm, Nat.mul_add_mod, Nat.mod_eq_of_lt ho]
  show (zmpd ((d * zfac m + o) / zfac m) (zrw m ((d * zfac m + o) % zfac m))).getD v 0 = _
  rw [e1, e2]
  unfold zmpd zr zskd
  have hl : v < (zrw m o).length := by rw [zrw_len]; exact hv
  rw [List.getD_eq_getElem?_getD, List.getElem?_map, List.getD_eq_getElem?_getD, List.getElem?_eq_getElem hl]
  rfl
theorem zsu_mulsplit {f : Nat → Nat} {b : Nat} : ∀ a, zsu f (a * b) = zsu (fun d => zsu (fun i => f (d * b + i)) b) a := by
  intro a
  induction a with
  | zero => rw [Nat.zero_mul]; rfl
  | succ a ih =>
    rw [Nat.succ_mul, zsu_split, ih]
    rfl
def zmmb (φ : Nat → Nat) : Nat → Nat → Bool
  | 0, _ => false
  | m + 1, a => zmmb φ m a || decide (φ m = a)
theorem zmmb_iff {φ : Nat → Nat} : ∀ {m a : Nat}, zmmb φ m a = true ↔ ∃ i, i < m ∧ φ i = a := by
  intro m
  induction m with
  | zero => intro a; exact ⟨fun h => (by cases h), fun ⟨i, h, _⟩ => (by omega)⟩
  | succ m ih =>
    intro a
    show (zmmb φ m a || decide (φ m = a)) = true ↔ _
    rw [Bool.or_eq_true, ih, decide_eq_true_iff]
    constructor
    · rintro (⟨i, h1, h2⟩ | h)
      · exact ⟨i, by omega, h2⟩
      · exact ⟨m, by omega, h⟩
    · rintro ⟨i, h1, h2⟩
      by_cases c : i = m
      · exact Or.inr (by rw [← c]; exact h2)
      · exact Or.inl ⟨i, by omega, h2⟩
theorem zbool_iff {a b : Bool} (h : a = true ↔ b = true) : a = b := by
  cases a <;> cases b <;> simp at h <;> rfl
def zsuf (m : Nat) (φ : Nat → Nat) (o j a : Nat) : Bool := zmmb (fun i => φ (zr m o (j + i))) (m - j) a
def zchc (P : Nat → Bool) (N m : Nat) (φ : Nat → Nat) : Nat := zsu (fun o => if (∀ j, j ≤ m → P (zrb N (zsuf m φ o j)) = true) then 1 else 0) (zfac m)
theorem zsuf_0 {m o : Nat} {φ : Nat → Nat} (ho : o < zfac m) (a : Nat) : zsuf m φ o 0 a = zmmb φ m a := by
  apply zbool_iff
  unfold zsuf
  rw [zmmb_iff, zmmb_iff]
  constructor
  · rintro ⟨i, h1, h2⟩
    exact ⟨_, zr_lt7 ho (show 0 + i < m by omega), h2⟩
  · rintro ⟨i, h1, h2⟩
    refine ⟨zp m o i, ?_, ?_⟩
    · have := zp_lt ho h1; omega
    · rw [Nat.zero_add, zr_p ho h1]; exact h2
theorem zsuf_s {m d o j : Nat} {φ : Nat → Nat} (ho : o < zfac m) (a : Nat) : zsuf (m + 1) φ (d * zfac m + o) (j + 1) a = zsuf m (fun i => φ (zskd d i)) o j a := by
  apply zbool_iff
  unfold zsuf
  rw [zmmb_iff, zmmb_iff, show m + 1 - (j + 1) = m - j by omega]
  constructor
  · rintro ⟨i, h1, h2⟩
    refine ⟨i, h1, ?_⟩
    rw [show j + 1 + i = j + i + 1 by omega, zr_tail ho (by omega)] at h2
    exact h2
  · rintro ⟨i, h1, h2⟩
    refine ⟨i, h1, ?_⟩
    rw [show j + 1 + i = j + i + 1 by omega, zr_tail ho (by omega)]
    exact h2
theorem zchc_s {P : Nat → Bool} {N m : Nat} {φ : Nat → Nat} : zchc P N (m + 1) φ = if P (zrb N (zmmb φ (m + 1))) = true then zsu (fun d => zchc P N m (fun i => φ (zskd d i))) (m + 1) else 0 := by
  show zsu _ ((m + 1) * zfac m) = _
  rw [zsu_mulsplit]
  have hf : zfac (m + 1) = (m + 1) * zfac m := rfl
  have key : ∀ d o, d < m + 1 → o < zfac m → ((∀ j, j ≤ m + 1 → P (zrb N (zsuf (m + 1) φ (d * zfac m + o) j)) = true) ↔ P (zrb N (zmmb φ (m + 1))) = true ∧ ∀ j, j ≤ m → P (zrb N (zsuf m (fun i => φ (zskd d i)) o j)) = true) := fun d o hd ho => by
    have hb : d * zfac m + o < zfac (m + 1) := by
      rw [hf]
      have : (d + 1) * zfac m ≤ (m + 1) * zfac m := Nat.mul_le_mul_right _ hd
      rw [Nat.add_mul, Nat.one_mul] at this
      omega
    have z0 : zrb N (zsuf (m + 1) φ (d * zfac m + o) 0) = zrb N (zmmb φ (m + 1)) := zrb_ext fun a _ => zsuf_0 hb a
    have zs : ∀ j, zrb N (zsuf (m + 1) φ (d * zfac m + o) (j + 1)) = zrb N (zsuf m (fun i => φ (zskd d i)) o j) := fun j => zrb_ext fun a _ => zsuf_s ho a
    constructor
    · intro H
      refine ⟨by rw [← z0]; exact H 0 (by omega), fun j hj => by rw [← zs j]; exact H (j + 1) (by omega)⟩
    · rintro ⟨H0, H⟩ j hj
      cases j with
      | zero => rw [z0]; exact H0
      | succ j => rw [zs j]; exact H j (by omega)
  by_cases c : P (zrb N (zmmb φ (m + 1))) = true
  · rw [if_pos c]
    refine zsu_congr fun d hd => zsu_congr fun o ho => ?_
    by_cases c2 : ∀ j, j ≤ m → P (zrb N (zsuf m (fun i => φ (zskd d i)) o j)) = true
    · rw [if_pos c2, if_pos ((key d o hd ho).mpr ⟨c, c2⟩)]
    · rw [if_neg c2, if_neg (fun z => c2 ((key d o hd ho).mp z).2)]
  · rw [if_neg c]
    refine Eq.trans (zsu_congr (g := fun _ => 0) fun d hd => ?_) (zsu_0 _)
    refine Eq.trans (zsu_congr (g := fun _ => 0) fun o ho => ?_) (zsu_0 _)
    exact if_neg fun z => c ((key d o hd ho).mp z).1
theorem zsu_img {φ G : Nat → Nat} {N : Nat} : ∀ {m : Nat}, (∀ i, i < m → φ i < N) → (∀ i j, i < m → j < m → φ i = φ j → i = j) → zsu (fun a => if zmmb φ m a then G a else 0) N = zsu (fun d => G (φ d)) m := by
  intro m
  induction m with
  | zero =>
    intro _ _
    exact Eq.trans (zsu_congr (g := fun _ => 0) fun a _ => if_neg (fun z => absurd (show false = true from z) (by decide))) (zsu_0 _)
  | succ m ih =>
    intro h1 h2
    have i1 := ih (fun i hi => h1 i (by omega)) (fun i j hi hj => h2 i j (by omega) (by omega))
    show _ = zsu (fun d => G (φ d)) m + G (φ m)
    rw [← i1, ← zsu_pick2 G (h1 m (by omega)), ← zsu_add]
    refine zsu_congr fun a _ => ?_
    show (if (zmmb φ m a || decide (φ m = a)) = true then G a else 0) = _
    by_cases c : φ m = a
    · have n : zmmb φ m a = false := by
        cases z : zmmb φ m a with
        | false => rfl
        | true =>
          obtain ⟨i, hi, e⟩ := zmmb_iff.mp z
          have := h2 i m (by omega) (by omega) (e.trans c.symm)
          omega
      rw [n, decide_eq_true c, if_pos (by rfl), if_neg (by decide), if_pos c]
      omega
    · rw [decide_eq_false c, Bool.or_false, if_neg c, Nat.add_zero]
theorem zskd_ne {d x : Nat} : zskd d x ≠ d := by unfold zskd; split <;> omega
theorem zskd_ex {d i m : Nat} (h : i ≠ d) (hi : i < m + 1) (hd : d < m + 1) : ∃ x, x < m ∧ zskd d x = i := by
  unfold zskd
  by_cases c : i < d
  · exact ⟨i, by omega, if_neg (by omega)⟩
  · exact ⟨i - 1, by omega, by rw [if_pos (by omega)]; omega⟩
theorem zskd_lt {d x m : Nat} (h : x < m) : zskd d x < m + 1 := by unfold zskd; split <;> omega
theorem zskd_inj {d x y : Nat} (h : zskd d x = zskd d y) : x = y := by
  unfold zskd at h
  split at h <;> split at h <;> omega
theorem zchain {P : Nat → Bool} {Z : Nat → Nat} {N : Nat} (hZ : ∀ row, row < 2 ^ N → Z row = if P row = true then (if row = 0 then 1 else 0) + zsu (fun a => if row.testBit a then Z (row ^^^ 2 ^ a) else 0) N else 0) : ∀ (m : Nat) (φ : Nat → Nat), (∀ i, i < m → φ i < N) → (∀ i j, i < m → j < m → φ i = φ j → i = j) → Z (zrb N (zmmb φ m)) = zchc P N m φ := by
  intro m
  induction m with
  | zero =>
    intro φ _ _
    have e0 : zrb N (zmmb φ 0) = 0 := by
      apply Nat.eq_of_testBit_eq
      intro j
      rw [zrb_bit, Nat.zero_testBit]
      exact Bool.and_false _
    rw [e0, hZ 0 (Nat.two_pow_pos N), if_pos rfl]
    have s0 : zsu (fun a => if Nat.testBit 0 a then Z (0 ^^^ 2 ^ a) else 0) N = 0 := Eq.trans (zsu_congr (g := fun _ => 0) fun a _ => by
      show (if Nat.testBit 0 a then _ else 0) = 0
      rw [Nat.zero_testBit]
      exact if_neg (by decide)) (zsu_0 _)
    rw [s0]
    have e1 : zrb N (zsuf 0 φ 0 0) = 0 := e0
    unfold zchc
    show _ = 0 + _
    rw [Nat.zero_add]
    by_cases c : P 0 = true
    · rw [if_pos c]
      exact (if_pos (fun j hj => by rw [show j = 0 by omega, e1]; exact c)).symm
    · rw [if_neg c]
      exact (if_neg (fun z => c (by have := z 0 (Nat.le_refl _); rw [e1] at this; exact this))).symm
  | succ m ih =>
    intro φ h1 h2
    have hb : ∀ a, (zrb N (zmmb φ (m + 1))).testBit a = (decide (a < N) && zmmb φ (m + 1) a) := fun a => zrb_bit N a
    have nz : zrb N (zmmb φ (m + 1)) ≠ 0 := fun z => by
      have := hb (φ m)
      rw [z, Nat.zero_testBit, decide_eq_true (h1 m (by omega)), zmmb_iff.mpr ⟨m, by omega, rfl⟩] at this
      cases this
    rw [hZ _ (zrb_lt N), if_neg nz, Nat.zero_add, zchc_s]
    by_cases c : P (zrb N (zmmb φ (m + 1))) = true
    · rw [if_pos c, if_pos c]
      have e1 : zsu (fun a => if (zrb N (zmmb φ (m + 1))).testBit a then Z (zrb N (zmmb φ (m + 1)) ^^^ 2 ^ a) else 0) N = zsu (fun a => if zmmb φ (m + 1) a then Z (zrb N (zmmb φ (m + 1)) ^^^ 2 ^ a) else 0) N := zsu_congr fun a ha => by
        rw [hb, decide_eq_true ha, Bool.true_and]
      rw [e1, zsu_img (G := fun a => Z (zrb N (zmmb φ (m + 1)) ^^^ 2 ^ a)) h1 h2]
      refine zsu_congr fun d hd => ?_
      rw [← ih (fun i => φ (zskd d i)) (fun i hi => h1 _ (zskd_lt hi)) (fun i j hi hj e => zskd_inj (h2 _ _ (zskd_lt hi) (zskd_lt hj) e))]
      congr 1
      apply Nat.eq_of_testBit_eq
      intro j
      rw [Nat.testBit_xor, hb, zrb_bit, Nat.testBit_two_pow]
      by_cases cj : j < N
      · rw [decide_eq_true cj, Bool.true_and, Bool.true_and]
        by_cases ce : φ d = j
        · have a1 : zmmb φ (m + 1) j = true := zmmb_iff.mpr ⟨d, hd, ce⟩
          have a2 : zmmb (fun i => φ (zskd d i)) m j = false := by
            cases z : zmmb (fun i => φ (zskd d i)) m j with
            | false => rfl
            | true =>
              obtain ⟨i, hi, e⟩ := zmmb_iff.mp z
              have := h2 _ _ (zskd_lt hi) hd (e.trans ce.symm)
              exact absurd this zskd_ne
          rw [a1, a2, decide_eq_true ce]; rfl
        · rw [decide_eq_false ce, Bool.xor_false]
          apply zbool_iff
          rw [zmmb_iff, zmmb_iff]
          constructor
          · rintro ⟨i, hi, e⟩
            obtain ⟨x, hx, ex⟩ := zskd_ex (d := d) (fun z => ce (by rw [← z]; exact e)) hi hd
            exact ⟨x, hx, by rw [ex]; exact e⟩
          · rintro ⟨i, hi, e⟩
            exact ⟨_, zskd_lt hi, e⟩
      · have : ¬ φ d = j := fun z => cj (by rw [← z]; exact h1 d hd)
        rw [decide_eq_false cj, decide_eq_false this]; rfl
    · rw [if_neg c, if_neg c]
/-- the chains are the orders all of whose bit rows are marked -/
theorem zchain_n {P : Nat → Bool} {Z : Nat → Nat} {n : Nat} (hZ : ∀ row, row < 2 ^ n → Z row = if P row = true then (if row = 0 then 1 else 0) + zsu (fun a => if row.testBit a then Z (row ^^^ 2 ^ a) else 0) n else 0) : Z (2 ^ n - 1) = zsu (fun o => if (∀ c, c ≤ n → P (zrb n (zth n o c)) = true) then 1 else 0) (zfac n) := by
  have a1 := zchain hZ n (fun i => i) (fun i hi => hi) (fun i j _ _ e => e)
  have e1 : zrb n (zmmb (fun i => i) n) = 2 ^ n - 1 := by
    apply Nat.eq_of_testBit_eq
    intro j
    rw [zrb_bit, Nat.testBit_two_pow_sub_one]
    by_cases c : j < n
    · rw [decide_eq_true c, zmmb_iff.mpr ⟨j, c, rfl⟩]; rfl
    · rw [decide_eq_false c]; rfl
  rw [e1] at a1
  rw [a1]
  unfold zchc
  rw [← zsu_in]
  refine zsu_congr fun o ho => ?_
  have e2 : ∀ j, zrb n (zsuf n (fun i => i) (zin n o) j) = zrb n (zth n o j) := fun j => zrb_ext fun a ha => by
    apply zbool_iff
    unfold zsuf zth
    rw [zmmb_iff, decide_eq_true_iff]
    constructor
    · rintro ⟨i, h1, h2⟩
      have h2 : zr n (zin n o) (j + i) = a := h2
      rw [zin_r ho (show j + i < n by omega)] at h2
      rw [← h2, zr_p ho (by omega)]
      omega
    · intro h
      have hl := zr_lt7 ho ha
      refine ⟨zr n o a - j, by omega, ?_⟩
      show zr n (zin n o) (j + (zr n o a - j)) = a
      rw [show j + (zr n o a - j) = zr n o a by omega, zin_r ho hl, zp_r ho ha]
  by_cases c : ∀ j, j ≤ n → P (zrb n (zth n o j)) = true
  · rw [if_pos c, if_pos (fun j hj => by rw [e2]; exact c j hj)]
  · rw [if_neg c, if_neg (fun z => c fun j hj => by rw [← e2]; exact z j hj)]
