/-! THE CLASS'S ORDERS: what its methods give -/
section
variable {X : List Int} {h : zHP} {K : Option zAV → zHP → Prop}
theorem zck_fac {j : Nat} (hj : j < 8) : zCk X 1000 j = (zfac j : Int) := by
  rcases (show j = 0 ∨ j = 1 ∨ j = 2 ∨ j = 3 ∨ j = 4 ∨ j = 5 ∨ j = 6 ∨ j = 7 by omega) with e | e | e | e | e | e | e | e <;> subst e <;> rfl
theorem zfac_pos : ∀ n, 0 < zfac n
  | 0 => Nat.one_pos
  | n + 1 => Nat.mul_pos (Nat.succ_pos n) (zfac_pos n)
abbrev zfits (n : Int) : Prop := 2 ≤ n ∧ n ≤ 7
abbrev zhas (n o : Int) : Prop := (2 ≤ n ∧ n ≤ 7) ∧ 0 ≤ o ∧ o < (zfac n.toNat : Int)
theorem cx_77 {x : Int} (k : K (some (zI (if zfits x then 1 else 0))) h) : zC X 77 [zI x] h K := by
  refine sg_77_0 (fun a => ⟨rfl, ?_⟩) (fun a b => ⟨rfl, ?_⟩) (fun a b => ⟨rfl, ?_⟩)
  · rwa [if_neg (by omega)] at k
  · rwa [if_neg (by omega)] at k
  · rwa [if_pos (by omega)] at k
theorem cx_78 {n : Int} (k : K (some (zI (if zfits n then (zfac n.toNat : Int) else 0))) h) : zC X 78 [zR 1, zI n] h K := by
  refine sg_78_0 (cx_77 (sg_78_4c (fun a => ⟨rfl, ?_⟩) (fun a => ?_) (fun a => ⟨rfl, ?_⟩)))
  · rw [zb0] at a; rwa [if_neg a] at k
  · rw [zb1] at a; omega
  · rw [zb1] at a; rw [if_pos a] at k; rwa [zck_fac (by omega)]
theorem cx_79 {n o : Int} (k : K (some (zI (if zhas n o then 1 else 0))) h) : zC X 79 [zR 1, zI n, zI o] h K := by
  refine sg_79_0 (cx_77 (sg_79_4c (fun a => ⟨rfl, ?_⟩) (fun a b => ⟨rfl, ?_⟩) (fun a b => ?_) (fun a b c => ⟨rfl, ?_⟩) (fun a b c => ⟨rfl, ?_⟩)))
  · rw [zb0] at a; rwa [if_neg (fun z => a z.1)] at k
  · rwa [if_neg (fun z => by omega)] at k
  · rw [zb1] at a; omega
  · rw [zb1] at a; rw [zck_fac (by omega)] at c; rwa [if_neg (fun z => by omega)] at k
  · rw [zb1] at a; rw [zck_fac (by omega)] at c; rwa [if_pos ⟨a, b, c⟩] at k
/-- lesserBehind -/
theorem cx_80 {n o i : Nat} (hn : n ≤ 7) (hi : i < n) (ho : o < 2147483648) (k : K (some (zI (zD (n - 1 - i) o : Int))) h) : zC X 80 [zR 1, zI n, zI o, zI i] h K := by
  have e1 : ((n : Int) - 1 - i).toNat = n - 1 - i := by omega
  have ef : zCk X 1000 (((n : Int) - 1 - i).toNat) = (zfac (n - 1 - i) : Int) := by rw [e1]; exact zck_fac (by omega)
  have hp := zfac_pos (n - 1 - i)
  have hd : o / zfac (n - 1 - i) < 2147483648 := Nat.lt_of_le_of_lt (Nat.div_le_self _ _) ho
  refine sg_80_0 (fun a => by omega) (fun a b => by omega) (fun _ _ _ => by omega) (fun _ _ _ => by omega) (fun _ _ _ => by omega) (fun _ _ _ => by rw [ef]; omega) (fun _ _ _ => by omega) (fun _ _ _ => ?_) (fun _ _ _ => ⟨rfl, ?_⟩) (fun a b c => by omega)
  · rw [ef, ← Int.natCast_ediv]; exact ⟨⟨Int.natCast_nonneg _, Int.ofNat_lt.mpr hd⟩, by omega⟩
  · rw [ef, ← Int.natCast_ediv]
    have e2 : ((n : Int) - i) = ((n - 1 - i + 1 : Nat) : Int) := by omega
    rw [e2, ← Int.natCast_emod]
    exact k
end
section
variable {X : List Int} {h : zHP} {K : Option zAV → zHP → Prop}
theorem zD_lt (j o : Nat) : zD j o < j + 1 := Nat.mod_lt _ (Nat.succ_pos j)
theorem zsu_le {f : Nat → Nat} {b : Nat} (hf : ∀ i, f i ≤ b) : ∀ n, zsu f n ≤ n * b
  | 0 => Nat.zero_le _
  | n + 1 => by
    have := zsu_le hf n
    have := hf n
    show zsu f n + f n ≤ (n + 1) * b
    rw [Nat.add_mul]; omega
/-- inversions -/
theorem cx_81 {n o : Nat} (hn : n ≤ 7) (ho : o < 2147483648) (k : K (some (zI (zinvs n o : Int))) h) : zC X 81 [zR 1, zI n, zI o] h K := by
  have hb : ∀ i, zsu (fun i => zD (n - 1 - i) o) i ≤ i * 7 := zsu_le fun i => by have := zD_lt (n - 1 - i) o; omega
  have loop : ∀ (m i : Nat), n - i = m → i ≤ n → zAt X 81 5 0 0 [some (zR 1), some (zI n), some (zI o), some (zI (zsu (fun i => zD (n - 1 - i) o) i : Nat)), some (zI i)] [] zSHc h (fun v sh' h' => sh' = zSHc ∧ K v h') := by
    intro m
    induction m with
    | zero =>
      intro i hm hi
      have e : i = n := by omega
      subst e
      exact sg_81_5 (fun _ => ⟨rfl, k⟩) (fun a => by omega)
    | succ m ih =>
      intro i hm hi
      have b1 := hb (i + 1)
      have e1 : zsu (fun i => zD (n - 1 - i) o) (i + 1) = zsu (fun i => zD (n - 1 - i) o) i + zD (n - 1 - i) o := rfl
      refine sg_81_5 (fun a => by omega) (fun a => cx_80 hn (by omega) ho (sg_81_20c (by omega) (by omega) ?_))
      have := ih (i + 1) (by omega) (by omega)
      rw [e1] at this
      exact this
  exact sg_81_0 (loop n 0 (by omega) (by omega))
end
