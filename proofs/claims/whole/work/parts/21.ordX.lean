/-! THE CLASS'S ORDERS: what its methods give -/
section
variable {X : List Int} {h : zHP} {K : Option zAV → zHP → Prop}
theorem zck_fac {j : Nat} (hj : j < 8) : zCk X 1000 j = (zfac j : Int) := by
  rcases (show j = 0 ∨ j = 1 ∨ j = 2 ∨ j = 3 ∨ j = 4 ∨ j = 5 ∨ j = 6 ∨ j = 7 by omega) with e | e | e | e | e | e | e | e <;> subst e <;> rfl
theorem zfac_pos : ∀ n, 0 < zfac n
  | 0 => Nat.one_pos
  | n + 1 => Nat.mul_pos (Nat.succ_pos n) (zfac_pos n)
abbrev zfits (n : Int) : Prop := 2 ≤ n ∧ n ≤ 7
abbrev zhas (n o : Int) : Prop := (2 ≤ n ∧ n ≤ 7) ∧ 0 ≤ o ∧ o < (zfac n.toNat : Int)
theorem cx_77 {x : Int} (k : K (some (zI (if zfits x then 1 else 0))) h) : zC X 77 [zI x] h K := by
  refine sg_77_0 (fun a => ⟨rfl, ?_⟩) (fun a b => ⟨rfl, ?_⟩) (fun a b => ⟨rfl, ?_⟩)
  · rwa [if_neg (by omega)] at k
  · rwa [if_neg (by omega)] at k
  · rwa [if_pos (by omega)] at k
theorem cx_78 {n : Int} (k : K (some (zI (if zfits n then (zfac n.toNat : Int) else 0))) h) : zC X 78 [zR 1, zI n] h K := by
  refine sg_78_0 (cx_77 (sg_78_4c (fun a => ⟨rfl, ?_⟩) (fun a => ?_) (fun a => ⟨rfl, ?_⟩)))
  · rw [zb0] at a; rwa [if_neg a] at k
  · rw [zb1] at a; omega
  · rw [zb1] at a; rw [if_pos a] at k; rwa [zck_fac (by omega)]
theorem cx_79 {n o : Int} (k : K (some (zI (if zhas n o then 1 else 0))) h) : zC X 79 [zR 1, zI n, zI o] h K := by
  refine sg_79_0 (cx_77 (sg_79_4c (fun a => ⟨rfl, ?_⟩) (fun a b => ⟨rfl, ?_⟩) (fun a b => ?_) (fun a b c => ⟨rfl, ?_⟩) (fun a b c => ⟨rfl, ?_⟩)))
  · rw [zb0] at a; rwa [if_neg (fun z => a z.1)] at k
  · rwa [if_neg (fun z => by omega)] at k
  · rw [zb1] at a; omega
  · rw [zb1] at a; rw [zck_fac (by omega)] at c; rwa [if_neg (fun z => by omega)] at k
  · rw [zb1] at a; rw [zck_fac (by omega)] at c; rwa [if_pos ⟨a, b, c⟩] at k
/-- lesserBehind -/
theorem cx_80 {n o i : Nat} (hn : n ≤ 7) (hi : i < n) (ho : o < 2147483648) (k : K (some (zI (zD (n - 1 - i) o : Int))) h) : zC X 80 [zR 1, zI n, zI o, zI i] h K := by
  have e1 : ((n : Int) - 1 - i).toNat = n - 1 - i := by omega
  have ef : zCk X 1000 (((n : Int) - 1 - i).toNat) = (zfac (n - 1 - i) : Int) := by rw [e1]; exact zck_fac (by omega)
  have hp := zfac_pos (n - 1 - i)
  have hd : o / zfac (n - 1 - i) < 2147483648 := Nat.lt_of_le_of_lt (Nat.div_le_self _ _) ho
  refine sg_80_0 (fun a => by omega) (fun a b => by omega) (fun _ _ _ => by omega) (fun _ _ _ => by omega) (fun _ _ _ => by omega) (fun _ _ _ => by rw [ef]; omega) (fun _ _ _ => by omega) (fun _ _ _ => ?_) (fun _ _ _ => ⟨rfl, ?_⟩) (fun a b c => by omega)
  · rw [ef, ← Int.natCast_ediv]; exact ⟨⟨Int.natCast_nonneg _, Int.ofNat_lt.mpr hd⟩, by omega⟩
  · rw [ef, ← Int.natCast_ediv]
    have e2 : ((n : Int) - i) = ((n - 1 - i + 1 : Nat) : Int) := by omega
    rw [e2, ← Int.natCast_emod]
    exact k
end
section
variable {X : List Int} {h : zHP} {K : Option zAV → zHP → Prop}
theorem zD_lt (j o : Nat) : zD j o < j + 1 := Nat.mod_lt _ (Nat.succ_pos j)
theorem zsu_le {f : Nat → Nat} {b : Nat} (hf : ∀ i, f i ≤ b) : ∀ n, zsu f n ≤ n * b
  | 0 => Nat.zero_le _
  | n + 1 => by
    have := zsu_le hf n
    have := hf n
    show zsu f n + f n ≤ (n + 1) * b
    rw [Nat.add_mul]; omega
/-- inversions -/
theorem cx_81 {n o : Nat} (hn : n ≤ 7) (ho : o < 2147483648) (k : K (some (zI (zinvs n o : Int))) h) : zC X 81 [zR 1, zI n, zI o] h K := by
  have hb : ∀ i, zsu (fun i => zD (n - 1 - i) o) i ≤ i * 7 := zsu_le fun i => by have := zD_lt (n - 1 - i) o; omega
  have loop : ∀ (m i : Nat), n - i = m → i ≤ n → zAt X 81 5 0 0 [some (zR 1), some (zI n), some (zI o), some (zI (zsu (fun i => zD (n - 1 - i) o) i : Nat)), some (zI i)] [] zSHc h (fun v sh' h' => sh' = zSHc ∧ K v h') := by
    intro m
    induction m with
    | zero =>
      intro i hm hi
      have e : i = n := by omega
      subst e
      exact sg_81_5 (fun _ => ⟨rfl, k⟩) (fun a => by omega)
    | succ m ih =>
      intro i hm hi
      have b1 := hb (i + 1)
      have e1 : zsu (fun i => zD (n - 1 - i) o) (i + 1) = zsu (fun i => zD (n - 1 - i) o) i + zD (n - 1 - i) o := rfl
      refine sg_81_5 (fun a => by omega) (fun a => cx_80 hn (by omega) ho (sg_81_20c (by omega) (by omega) ?_))
      have := ih (i + 1) (by omega) (by omega)
      rw [e1] at this
      exact this
  exact sg_81_0 (loop n 0 (by omega) (by omega))
end
section
variable {X : List Int} {h : zHP} {K : Option zAV → zHP → Prop}
/-- numberOn -/
theorem cx_82 {n o i : Nat} (hn : n ≤ 7) (ho : o < 2147483648) (hi : i < n) (k : K (some (zI (zon n o i : Int))) h) : zC X 82 [zR 1, zI n, zI o, zI i] h K := by
  have loop : ∀ (m v : Nat), m ≤ i → v + m < 100 → K (some (zI (znu o m (n - 1 - m) v : Int))) h → zAt X 82 14 0 0 [some (zR 1), some (zI n), some (zI o), none, some (zI v), some (zI ((m : Int) - 1))] [] zSHc h (fun v sh' h' => sh' = zSHc ∧ K v h') := by
    intro m
    induction m with
    | zero =>
      intro v hm hv k
      exact sg_82_14 (fun _ => ⟨rfl, k⟩) (fun a => by omega)
    | succ m ih =>
      intro v hm hv k
      have e0 : ((m + 1 : Nat) : Int) - 1 = (m : Int) := by omega
      have ej : n - 1 - (m + 1) + 1 = n - 1 - m := by omega
      have ez : znu o (m + 1) (n - 1 - (m + 1)) v = znu o m (n - 1 - m) (cond (Nat.ble (zD (n - 1 - m) o) v) (v + 1) v) := by
        show znu o m (n - 1 - (m + 1) + 1) (cond (Nat.ble (zD (n - 1 - (m + 1) + 1) o) v) (v + 1) v) = _
        rw [ej]
      rw [ez] at k
      rw [e0]
      refine sg_82_14 (fun a => by omega) (fun a => cx_80 hn (by omega) ho (sg_82_27c (fun _ => by omega) (fun a => ?_) (fun _ => by omega) (fun _ => by omega) (fun a => ?_)))
      · have e : Nat.ble (zD (n - 1 - m) o) v = false := by
          cases hb : Nat.ble (zD (n - 1 - m) o) v with
          | false => rfl
          | true => have := Nat.le_of_ble_eq_true hb; omega
        rw [e] at k
        exact ih v (by omega) (by omega) k
      · have e : Nat.ble (zD (n - 1 - m) o) v = true := Nat.ble_eq_true_of_le (by omega)
        rw [e] at k
        exact ih (v + 1) (by omega) (by omega) k
  refine sg_82_0 (cx_80 hn hi ho (sg_82_7c (by omega) ?_))
  exact loop i (zD (n - 1 - i) o) (Nat.le_refl _) (by have := zD_lt (n - 1 - i) o; omega) k
def zlgI (n o v : Nat) : Int := match zle1 n o n 0 v with
  | some i => (i : Int)
  | none => -1
/-- legOf -/
theorem cx_83 {n o v : Nat} (hn : n ≤ 7) (ho : o < 2147483648) (hv : v < 100) (k : K (some (zI (zlgI n o v))) h) : zC X 83 [zR 1, zI n, zI o, zI v] h K := by
  have loop : ∀ (m i v : Nat), n - i = m → i ≤ n → v < 100 → K (some (zI (match zle1 n o m i v with | some i => (i : Int) | none => -1))) h → zAt X 83 6 0 0 [some (zR 1), some (zI n), some (zI o), none, some (zI v), some (zI i), none] [] zSHc h (fun v sh' h' => sh' = zSHc ∧ K v h') := by
    intro m
    induction m with
    | zero =>
      intro i v hm hi hv k
      exact sg_83_6 (fun _ => ⟨rfl, k⟩) (fun a => by omega)
    | succ m ih =>
      intro i v hm hi hv k
      unfold zle1 at k
      refine sg_83_6 (fun a => by omega) (fun a => cx_80 hn (by omega) ho (sg_83_20c (fun _ _ => by omega) (fun a b => ?_) (fun _ _ => by omega) (fun _ _ => by omega) (fun a b => ?_) (fun a => ⟨rfl, ?_⟩)))
      · have e1 : Nat.beq (zD (n - 1 - i) o) v = false := by
          cases hb : Nat.beq (zD (n - 1 - i) o) v with
          | false => rfl
          | true => have := Nat.eq_of_beq_eq_true hb; omega
        have e2 : Nat.blt (zD (n - 1 - i) o) v = false := by
          cases hb : Nat.blt (zD (n - 1 - i) o) v with
          | false => rfl
          | true => have := Nat.blt_eq.mp hb; omega
        rw [e1, e2] at k
        exact ih (i + 1) v (by omega) (by omega) hv k
      · have e1 : Nat.beq (zD (n - 1 - i) o) v = false := by
          cases hb : Nat.beq (zD (n - 1 - i) o) v with
          | false => rfl
          | true => have := Nat.eq_of_beq_eq_true hb; omega
        have e2 : Nat.blt (zD (n - 1 - i) o) v = true := Nat.blt_eq.mpr (by omega)
        rw [e1, e2] at k
        have ev : (v : Int) + -1 = ((v - 1 : Nat) : Int) := by omega
        rw [ev]
        exact ih (i + 1) (v - 1) (by omega) (by omega) (by omega) k
      · have e1 : Nat.beq (zD (n - 1 - i) o) v = true := by
          rw [Int.ofNat.inj a]; exact Nat.beq_refl v
        rw [e1] at k
        exact k
  exact sg_83_0 (loop n 0 v (by omega) (by omega) hv k)
end
def zinL (n o : Nat) (leg : Int) : Nat → Nat → Nat → Nat
  | 0, _, a => a
  | m + 1, g, a => zinL n o leg m (g + 1) (if zlgI n o g < leg then a + 1 else a)
def zinv1 (n o : Nat) : Nat → Nat → Nat → Nat
  | 0, _, a => a
  | m + 1, v, a => zinv1 n o m (v + 1) (a * (n - v) + zinL n o (zlgI n o v) (n - 1 - v) (v + 1) 0)
def zinvo (n o : Nat) : Nat := zinv1 n o n 0 0
theorem zinL_le {n o : Nat} {leg : Int} : ∀ (m g a : Nat), zinL n o leg m g a ≤ a + m
  | 0, _, a => Nat.le_refl _
  | m + 1, g, a => by
    unfold zinL
    split
    · have := zinL_le (n := n) (o := o) (leg := leg) m (g + 1) (a + 1); omega
    · have := zinL_le (n := n) (o := o) (leg := leg) m (g + 1) a; omega
section
variable {X : List Int} {h : zHP} {K : Option zAV → zHP → Prop}
/-- inverse -/
theorem cx_84 {n o : Nat} (hn : n ≤ 7) (ho : o < 2147483648) (k : K (some (zI (zinvo n o : Int))) h) : zC X 84 [zR 1, zI n, zI o] h K := by
  have inner : ∀ (m g a r v : Nat) (leg : Int), n - g = m → g ≤ n → a + m ≤ n → r < 8 ^ v → v < n → v < 7 →
      (zAt X 84 5 0 0 [some (zR 1), some (zI n), some (zI o), some (zI ((r * (n - v) + zinL n o leg m g a : Nat) : Int)), some (zI ((v + 1 : Nat) : Int)), none, none, none] [] zSHc h (fun v sh' h' => sh' = zSHc ∧ K v h')) →
      zAt X 84 30 0 0 [some (zR 1), some (zI n), some (zI o), some (zI r), some (zI v), some (zI leg), some (zI a), some (zI g)] [] zSHc h (fun v sh' h' => sh' = zSHc ∧ K v h') := by
    intro m
    induction m with
    | zero =>
      intro g a r v leg hm hg ha hr hv h7 k
      have e : g = n := by omega
      subst e
      have h8 : r < 8 ^ 6 := Nat.lt_of_lt_of_le hr (Nat.pow_le_pow_right (by omega) (by omega))
      have hp : r * (g - v) ≤ 8 ^ 6 * 7 := Nat.mul_le_mul (Nat.le_of_lt h8) (by omega)
      have e1 : (g : Int) - v = ((g - v : Nat) : Int) := by omega
      have e2 : (r : Int) * ((g - v : Nat) : Int) = ((r * (g - v) : Nat) : Int) := (Int.natCast_mul _ _).symm
      refine sg_84_30 (fun _ => by omega) (fun _ => by rw [e1, e2]; omega) (fun _ => by rw [e1, e2]; omega) (fun _ => by omega) (fun _ => ?_) (fun a => by omega)
      rw [e1, e2]
      exact k
    | succ m ih =>
      intro g a r v leg hm hg ha hr hv h7 k
      refine sg_84_30 (fun _ => by omega) (fun _ => by omega) (fun _ => by omega) (fun _ => by omega) (fun _ => by omega) (fun _ => cx_83 hn ho (by omega) (sg_84_44c (fun _ => by omega) (fun b => ?_) (fun _ => by omega) (fun _ => by omega) (fun b => ?_)))
      · unfold zinL at k
        rw [if_neg (by omega)] at k
        exact ih (g + 1) a r v leg (by omega) (by omega) (by omega) hr hv h7 k
      · unfold zinL at k
        rw [if_pos b] at k
        exact ih (g + 1) (a + 1) r v leg (by omega) (by omega) (by omega) hr hv h7 k
  have outer : ∀ (m v r : Nat), n - v = m → v ≤ n → r < 8 ^ v → K (some (zI (zinv1 n o m v r : Int))) h → zAt X 84 5 0 0 [some (zR 1), some (zI n), some (zI o), some (zI r), some (zI v), none, none, none] [] zSHc h (fun v sh' h' => sh' = zSHc ∧ K v h') := by
    intro m
    induction m with
    | zero =>
      intro v r hm hv hr k
      exact sg_84_5 (fun _ => ⟨rfl, k⟩) (fun a => by omega)
    | succ m ih =>
      intro v r hm hv hr k
      refine sg_84_5 (fun a => by omega) (fun a => cx_83 hn ho (by omega) (sg_84_19c (by omega) ?_))
      refine inner (n - 1 - v) (v + 1) 0 r v (zlgI n o v) (by omega) (by omega) (by omega) hr (by omega) (by omega) ?_
      refine ih (v + 1) _ (by omega) (by omega) ?_ k
      have h1 := zinL_le (n := n) (o := o) (leg := zlgI n o v) (n - 1 - v) (v + 1) 0
      have h2 : r * (n - v) ≤ r * 7 := Nat.mul_le_mul_left _ (by omega)
      rw [Nat.pow_succ]
      omega
  exact sg_84_0 (outer n 0 0 (by omega) (by omega) (by decide) k)
end
