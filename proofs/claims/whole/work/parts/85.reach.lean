/-! RUNGS DRAWN IN FOR A WHOLE ORDER: the greatest that changes by one at most from neighbour to neighbour -/
def zlz (n : Nat) (g : Nat → Nat) : Prop := ∀ o k, o < zfac n → k + 2 ≤ n → g o ≤ g (zx n k o) + 1
def zgm (n : Nat) (f f' : Nat → Nat) : Prop := zlz n f' ∧ (∀ o, o < zfac n → f' o ≤ f o) ∧ ∀ g, zlz n g → (∀ o, o < zfac n → g o ≤ f o) → ∀ o, o < zfac n → g o ≤ f' o
theorem zgm_one {n : Nat} {f f2 a b : Nat → Nat} (hf : ∀ o, o < zfac n → f o = f2 o) (ha : zgm n f a) (hb : zgm n f2 b) : ∀ o, o < zfac n → a o = b o := fun o ho =>
  Nat.le_antisymm (hb.2.2 a ha.1 (fun o ho => by rw [← hf o ho]; exact ha.2.1 o ho) o ho) (ha.2.2 b hb.1 (fun o ho => by rw [hf o ho]; exact hb.2.1 o ho) o ho)
/-- a way of so many exchanges -/
def zpt (n : Nat) : Nat → Nat → Nat → Prop
  | 0, o, o' => o = o'
  | l + 1, o, o' => ∃ k, k + 2 ≤ n ∧ zpt n l (zx n k o) o'
theorem zpt_0 {n : Nat} (hn : n ≤ 7) : ∀ (b o : Nat), o < b → o < zfac n → zpt n (zinvs n o) o 0 := by
  intro b
  induction b with
  | zero => intro o h; omega
  | succ b ih =>
    intro o h ho
    by_cases c : o = 0
    · subst c
      rw [zinvs_0]
      rfl
    · obtain ⟨k, hk, hd⟩ := zdesc_ex ho c
      have e1 := (zinvs_x ho hk).1 hd
      have e2 := (zx_desc ho hn hk).mpr hd
      rw [← e1]
      exact ⟨k, hk, ih _ (by omega) (zx_lt ho hk)⟩
theorem zpt_rn {n j : Nat} (hj : j + 2 ≤ n) : ∀ (l o o' : Nat), o < zfac n → zpt n l o o' → zpt n l (zrn n j o) (zrn n j o') := by
  intro l
  induction l with
  | zero => intro o o' _ h; have h : o = o' := h
            rw [h]; rfl
  | succ l ih =>
    intro o o' ho h
    obtain ⟨k, hk, h⟩ := h
    refine ⟨k, hk, ?_⟩
    rw [zx_rn ho hj hk]
    exact ih _ _ (zx_lt ho hk) h
theorem zrn_rn {n j o : Nat} (ho : o < zfac n) (hj : j + 2 ≤ n) : zrn n j (zrn n j o) = o := by
  unfold zrn
  rw [zin_in (zx_lt (zin_lt ho) hj), zx_x (zin_lt ho) hj, zin_in ho]
theorem zrn_ex {n o : Nat} (ho : o < zfac n) (h0 : o ≠ 0) : ∃ j, j + 2 ≤ n ∧ zinvs n (zrn n j o) + 1 = zinvs n o := by
  have hp := zinvs_pos ho h0
  have hz : zin n o ≠ 0 := fun z => by
    have := zinvs_in ho
    rw [z, zinvs_0] at this
    omega
  obtain ⟨k, hk, hd⟩ := zdesc_ex (zin_lt ho) hz
  have e1 := (zinvs_x (zin_lt ho) hk).1 hd
  refine ⟨k, hk, ?_⟩
  unfold zrn
  rw [zinvs_in (zx_lt (zin_lt ho) hk), e1, zinvs_in ho]
theorem zpt_all {n : Nat} (hn : n ≤ 7) : ∀ (b o' o : Nat), zinvs n o' ≤ b → o' < zfac n → o < zfac n → ∃ l, 2 * l ≤ n * (n - 1) ∧ zpt n l o o' := by
  intro b
  induction b with
  | zero =>
    intro o' o hb ho' ho
    have : o' = 0 := by
      by_cases c : o' = 0
      · exact c
      · have := zinvs_pos ho' c; omega
    subst this
    exact ⟨_, zinvs_le2, zpt_0 hn (o + 1) o (by omega) ho⟩
  | succ b ih =>
    intro o' o hb ho' ho
    by_cases c : o' = 0
    · subst c
      exact ⟨_, zinvs_le2, zpt_0 hn (o + 1) o (by omega) ho⟩
    · obtain ⟨j, hj, e⟩ := zrn_ex ho' c
      obtain ⟨l, h1, h2⟩ := ih (zrn n j o') (zrn n j o) (by omega) (zrn_lt ho' hj) (zrn_lt ho hj)
      refine ⟨l, h1, ?_⟩
      have := zpt_rn hj l _ _ (zrn_lt ho hj) h2
      rw [zrn_rn ho hj, zrn_rn ho' hj] at this
      exact this
/-- every value is one of the first, and a way to it -/
def zatt (n : Nat) (f R : Nat → Nat) : Prop := ∀ o, o < zfac n → ∃ o' l, o' < zfac n ∧ zpt n l o o' ∧ R o = f o' + l
/-- what is reached behind the first i rungs -/
def zDA (n : Nat) (e : zel) : Nat → (Nat → Nat) → Prop
  | 0, R => ∀ o, o < zfac n → R o = zinvs n o
  | i + 1, R => ∃ R0, zDA n e i R0 ∧ zgm n (fun o => R0 (zx n (e i).2.1 o)) R
theorem zDA_one {n : Nat} {e : zel} : ∀ (i : Nat) (a b : Nat → Nat), (∀ j, j < i → (e j).2.1 + 2 ≤ n) → zDA n e i a → zDA n e i b → ∀ o, o < zfac n → a o = b o := by
  intro i
  induction i with
  | zero => intro a b _ ha hb o ho; rw [ha o ho, hb o ho]
  | succ i ih =>
    intro a b hl ha hb
    obtain ⟨a0, a1, a2⟩ := ha
    obtain ⟨b0, b1, b2⟩ := hb
    exact zgm_one (fun o ho => ih a0 b0 (fun j hj => hl j (by omega)) a1 b1 _ (zx_lt ho (hl i (by omega)))) a2 b2
theorem zDA_le {n : Nat} {e : zel} (hn : n ≤ 7) : ∀ (i : Nat) (a : Nat → Nat), (∀ j, j < i → (e j).2.1 + 2 ≤ n) → zDA n e i a → ∀ o, o < zfac n → a o ≤ 21 := by
  intro i
  induction i with
  | zero => intro a _ ha o ho; rw [ha o ho]; exact zinvs_le hn
  | succ i ih =>
    intro a hl ha o ho
    obtain ⟨a0, a1, a2⟩ := ha
    exact Nat.le_trans (a2.2.1 o ho) (ih a0 (fun j hj => hl j (by omega)) a1 _ (zx_lt ho (hl i (by omega))))
/-- from nothing but the first order -/
theorem zgm_inv {n : Nat} (hn : n ≤ 7) : zgm n (fun o => if o = 0 then 0 else 10000) (zinvs n) := by
  refine ⟨fun o k ho hk => zinvs_ge ho hk, fun o ho => ?_, fun g hg h0 => ?_⟩
  · show zinvs n o ≤ if o = 0 then 0 else 10000
    by_cases c : o = 0
    · rw [if_pos c, c, zinvs_0]; exact Nat.le_refl _
    · rw [if_neg c]
      have := zinvs_le (o := o) hn
      omega
  · have : ∀ b o, o < b → o < zfac n → g o ≤ zinvs n o := by
      intro b
      induction b with
      | zero => intro o h; omega
      | succ b ih =>
        intro o h ho
        by_cases c : o = 0
        · have a0 : g o ≤ if o = 0 then 0 else 10000 := h0 o ho
          rw [if_pos c] at a0
          omega
        · obtain ⟨k, hk, hd⟩ := zdesc_ex ho c
          have e1 := (zinvs_x ho hk).1 hd
          have e2 := (zx_desc ho hn hk).mpr hd
          have a1 := ih _ (by omega) (zx_lt ho hk)
          have a2 := hg o k ho hk
          omega
    exact fun o ho => this (o + 1) o (by omega) ho
theorem zsu_upd {C : Nat → Nat} {a x : Nat} : ∀ {N : Nat}, a < N → zsu (fun o => if o = a then x else C o) N + C a = zsu C N + x := by
  intro N
  induction N with
  | zero => intro h; omega
  | succ N ih =>
    intro h
    show zsu (fun o => if o = a then x else C o) N + (if N = a then x else C N) + C a = zsu C N + C N + x
    by_cases c : N = a
    · rw [if_pos c]
      have : zsu (fun o => if o = a then x else C o) N = zsu C N := zsu_congr fun i hi => by
        show (if i = a then x else C i) = C i
        rw [if_neg (by omega)]
      rw [this, c]
      omega
    · rw [if_neg c]
      have := ih (by omega)
      omega
theorem zfac5 {n : Nat} (hn : n ≤ 5) : zfac n ≤ 120 := zfac_mono hn
