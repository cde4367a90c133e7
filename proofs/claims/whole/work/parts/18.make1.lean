/-! THE MAKER OF TOKENS -/
theorem zp_letterCode {X : List Int} {sh : zSH} {h : zHP} {K : Option zAV → zHP → Prop} {x : Int} (o : 0 ≤ x ∧ x < 1000) (k : K (some (zI (x - 96))) h) : zKs X 142 [zI x] sh h K :=
  zAt.go (zAt.go (zAt.go (zcI (zw_id (by omega) (by omega)) (zAt.go (zAt.go (zcI (show zw (x - 97 + 1) = x - 96 by rw [zw_id (by omega) (by omega)]; omega) (zAt.go ⟨trivial, rfl, k⟩)))))))
set_option maxRecDepth 100000 in
theorem sk_120_0 {X : List Int} {h : zHP} {Q : zPO} (k1 : zAt X 120 73 0 0 [some (zR 68), some (zI 0), some (zI 1), some (zI 0), none] [] (zSHc.take 75) (zup (zup (zup (znul (zup (znul (zup (znul (zup (znul (zup (znul (zup (znul h 69 0) 68 0 ((69 : Nat) : Int)) 70 0) 68 1 ((70 : Nat) : Int)) 71 0) 68 2 ((71 : Nat) : Int)) 72 0) 68 3 ((72 : Nat) : Int)) 73 0) 68 4 ((73 : Nat) : Int)) 74 0) 68 5 ((74 : Nat) : Int)) 68 8 (-1)) 68 13 ((1100 : Nat) : Int)) Q) : zAt X 120 0 6 3220 [some (zR 68), none, none, none, none] [] (zSHc.take 69) h Q :=
  zAt.go (zAt.go (⟨(by decide), Nat.le_of_ble_eq_true rfl, zAt.go (zAt.go (zAt.go (znewa_go (q := 69) (m := 2000) (c2 := 5) (s2 := 1220) (sh2 := zSHc.take 70) rfl rfl (Nat.le_of_ble_eq_true rfl) (Nat.le_of_ble_eq_true rfl) (Nat.le_of_ble_eq_true rfl) (Nat.le_of_ble_eq_true rfl) (Nat.le_of_ble_eq_true rfl) rfl rfl (zAt.go (⟨by decide, rfl, zAt.go (zAt.go (zAt.go (znewa_go (q := 70) (m := 10) (c2 := 4) (s2 := 1210) (sh2 := zSHc.take 71) rfl rfl (Nat.le_of_ble_eq_true rfl) (Nat.le_of_ble_eq_true rfl) (Nat.le_of_ble_eq_true rfl) (Nat.le_of_ble_eq_true rfl) (Nat.le_of_ble_eq_true rfl) rfl rfl (zAt.go (⟨by decide, rfl, zAt.go (zAt.go (zAt.go (znewa_go (q := 71) (m := 10) (c2 := 3) (s2 := 1200) (sh2 := zSHc.take 72) rfl rfl (Nat.le_of_ble_eq_true rfl) (Nat.le_of_ble_eq_true rfl) (Nat.le_of_ble_eq_true rfl) (Nat.le_of_ble_eq_true rfl) (Nat.le_of_ble_eq_true rfl) rfl rfl (zAt.go (⟨by decide, rfl, zAt.go (zAt.go (zAt.go (znewa_go (q := 72) (m := 400) (c2 := 2) (s2 := 800) (sh2 := zSHc.take 73) rfl rfl (Nat.le_of_ble_eq_true rfl) (Nat.le_of_ble_eq_true rfl) (Nat.le_of_ble_eq_true rfl) (Nat.le_of_ble_eq_true rfl) (Nat.le_of_ble_eq_true rfl) rfl rfl (zAt.go (⟨by decide, rfl, zAt.go (zAt.go (zAt.go (znewa_go (q := 73) (m := 400) (c2 := 1) (s2 := 400) (sh2 := zSHc.take 74) rfl rfl (Nat.le_of_ble_eq_true rfl) (Nat.le_of_ble_eq_true rfl) (Nat.le_of_ble_eq_true rfl) (Nat.le_of_ble_eq_true rfl) (Nat.le_of_ble_eq_true rfl) rfl rfl (zAt.go (⟨by decide, rfl, zAt.go (zAt.go (zAt.go (znewa_go (q := 74) (m := 400) (c2 := 0) (s2 := 0) (sh2 := zSHc.take 75) rfl rfl (Nat.le_of_ble_eq_true rfl) (Nat.le_of_ble_eq_true rfl) (Nat.le_of_ble_eq_true rfl) (Nat.le_of_ble_eq_true rfl) (Nat.le_of_ble_eq_true rfl) rfl rfl (zAt.go (⟨by decide, rfl, zAt.go (zAt.go (zAt.go (⟨by decide, rfl, zAt.go (zAt.go (zAt.go (⟨by decide, rfl, zAt.go (zAt.go (⟨Nat.le_of_ble_eq_true rfl, zAt.go (zAt.go (⟨Nat.le_of_ble_eq_true rfl, zAt.go (zAt.go (⟨Nat.le_of_ble_eq_true rfl, k1⟩))⟩))⟩))⟩)))⟩)))⟩)))))⟩)))))⟩)))))⟩)))))⟩)))))⟩)))))⟩))
theorem sk_120_73 {X : List Int} {h : zHP} {Q : zPO} {x1 x2 x3 : Int} (k1 : (65 ≤ x3) → Q none (zSHc.take 75) h) (k2 : (x3 < 65) → (10 ≤ x1) → Q none (zSHc.take 75) h) (o1 : (x3 < 65) → (x1 < 10) → 0 ≤ x3 ∧ x3 < 65) (o2 : (x3 < 65) → (x1 < 10) → (¬ (zStr.getD 1 []).getD (x3).toNat 0 = 32) → (x2 = 0) → h 68 1 = (70 : Int)) (o3 : (x3 < 65) → (x1 < 10) → (¬ (zStr.getD 1 []).getD (x3).toNat 0 = 32) → (x2 = 0) → 0 ≤ x1 ∧ x1 < 10) (o4 : (x3 < 65) → (x1 < 10) → (¬ (zStr.getD 1 []).getD (x3).toNat 0 = 32) → (x2 = 0) → -9223372036854775808 ≤ (h 70 x1.toNat) * 32 ∧ (h 70 x1.toNat) * 32 < 9223372036854775808) (o5 : (x3 < 65) → (x1 < 10) → (¬ (zStr.getD 1 []).getD (x3).toNat 0 = 32) → (x2 = 0) → 0 ≤ (zStr.getD 1 []).getD (x3).toNat 0 ∧ (zStr.getD 1 []).getD (x3).toNat 0 < 1000) (o6 : (x3 < 65) → (x1 < 10) → (¬ (zStr.getD 1 []).getD (x3).toNat 0 = 32) → (x2 = 0) → -9223372036854775808 ≤ ((h 70 x1.toNat) * 32) + (((zStr.getD 1 []).getD (x3).toNat 0) - 96) ∧ ((h 70 x1.toNat) * 32) + (((zStr.getD 1 []).getD (x3).toNat 0) - 96) < 9223372036854775808) (o7 : (x3 < 65) → (x1 < 10) → (¬ (zStr.getD 1 []).getD (x3).toNat 0 = 32) → (x2 = 0) → -2147483648 ≤ x3 + 1 ∧ x3 + 1 < 2147483648) (k3 : (x3 < 65) → (x1 < 10) → (¬ (zStr.getD 1 []).getD (x3).toNat 0 = 32) → (x2 = 0) → zAt X 120 73 0 0 [some (zR 68), some (zI x1), some (zI x2), some (zI (x3 + 1)), none] [] (zSHc.take 75) (zup h 70 x1.toNat (((h 70 x1.toNat) * 32) + (((zStr.getD 1 []).getD (x3).toNat 0) - 96))) Q) (o8 : (x3 < 65) → (x1 < 10) → (¬ (zStr.getD 1 []).getD (x3).toNat 0 = 32) → (¬ x2 = 0) → h 68 2 = (71 : Int)) (o9 : (x3 < 65) → (x1 < 10) → (¬ (zStr.getD 1 []).getD (x3).toNat 0 = 32) → (¬ x2 = 0) → 0 ≤ x1 ∧ x1 < 10) (o10 : (x3 < 65) → (x1 < 10) → (¬ (zStr.getD 1 []).getD (x3).toNat 0 = 32) → (¬ x2 = 0) → -2147483648 ≤ x3 + 1 ∧ x3 + 1 < 2147483648) (k4 : (x3 < 65) → (x1 < 10) → (¬ (zStr.getD 1 []).getD (x3).toNat 0 = 32) → (¬ x2 = 0) → zAt X 120 73 0 0 [some (zR 68), some (zI x1), some (zI 0), some (zI (x3 + 1)), none] [] (zSHc.take 75) (zup h 71 x1.toNat ((zStr.getD 1 []).getD (x3).toNat 0)) Q) (o11 : (x3 < 65) → (x1 < 10) → ((zStr.getD 1 []).getD (x3).toNat 0 = 32) → -2147483648 ≤ x1 + 1 ∧ x1 + 1 < 2147483648) (o12 : (x3 < 65) → (x1 < 10) → ((zStr.getD 1 []).getD (x3).toNat 0 = 32) → -2147483648 ≤ x3 + 1 ∧ x3 + 1 < 2147483648) (k5 : (x3 < 65) → (x1 < 10) → ((zStr.getD 1 []).getD (x3).toNat 0 = 32) → zAt X 120 73 0 0 [some (zR 68), some (zI (x1 + 1)), some (zI 1), some (zI (x3 + 1)), none] [] (zSHc.take 75) h Q) : zAt X 120 73 0 0 [some (zR 68), some (zI x1), some (zI x2), some (zI x3), none] [] (zSHc.take 75) h Q :=
  zAt.go (zAt.go (zAt.go (zcall1 (r1 := 331) (a := [zR 1101]) (r := [zI x3]) rfl rfl ⟨Nat.le_of_ble_eq_true rfl, Nat.le_of_ble_eq_true rfl, Nat.le_of_ble_eq_true rfl⟩ rfl rfl rfl rfl (zp_length (j := 1) (by decide) (zAt.go (⟨fun z1 => zAt.go ((k1 z1)), fun z1 => zAt.go (zAt.go (zAt.go (⟨fun z2 => zAt.go ((k2 (Int.not_le.mp z1) z2)), fun z2 => zAt.go (zAt.go (zAt.go (zcall1 (r1 := 333) (a := [zR 1101, zI x3]) (r := []) rfl rfl ⟨Nat.le_of_ble_eq_true rfl, Nat.le_of_ble_eq_true rfl, Nat.le_of_ble_eq_true rfl⟩ rfl rfl rfl rfl (zp_charAt (j := 1) (by decide) (o1 (Int.not_le.mp z1) (Int.not_le.mp z2)).1 (o1 (Int.not_le.mp z1) (Int.not_le.mp z2)).2 (zAt.go (⟨Nat.le_of_ble_eq_true rfl, zAt.go (zAt.go (zAt.go (⟨fun z3 => zAt.go (zAt.go (⟨fun z4 => zAt.go (zAt.go (⟨rfl, Or.inl ⟨70, (o2 (Int.not_le.mp z1) (Int.not_le.mp z2) z3 z4), zAt.go (zAt.go (zAt.go (⟨rfl, Or.inl ⟨70, (o2 (Int.not_le.mp z1) (Int.not_le.mp z2) z3 z4), zAt.go (zAt.go (⟨rfl, (o3 (Int.not_le.mp z1) (Int.not_le.mp z2) z3 z4).1, (o3 (Int.not_le.mp z1) (Int.not_le.mp z2) z3 z4).2, zAt.go (zAt.go (zcL (zwl_id (o4 (Int.not_le.mp z1) (Int.not_le.mp z2) z3 z4).1 (o4 (Int.not_le.mp z1) (Int.not_le.mp z2) z3 z4).2) (zAt.go (zAt.go (zcall1 (r1 := 142) (a := [zI ((zStr.getD 1 []).getD (x3).toNat 0)]) (r := [zL ((h 70 x1.toNat) * 32), zI x1, zR 70]) rfl rfl ⟨Nat.le_of_ble_eq_true rfl, Nat.le_of_ble_eq_true rfl, Nat.le_of_ble_eq_true rfl⟩ trivial rfl rfl rfl (zp_letterCode (o5 (Int.not_le.mp z1) (Int.not_le.mp z2) z3 z4) (zAt.go (zAt.go (zcL (zwl_id (o6 (Int.not_le.mp z1) (Int.not_le.mp z2) z3 z4).1 (o6 (Int.not_le.mp z1) (Int.not_le.mp z2) z3 z4).2) (zAt.go (⟨(by decide), rfl, (o3 (Int.not_le.mp z1) (Int.not_le.mp z2) z3 z4).1, (o3 (Int.not_le.mp z1) (Int.not_le.mp z2) z3 z4).2, zAt.go (⟨Nat.le_of_ble_eq_true rfl, zcN (F := fun w9 => [some (zR 68), some (zI x1), some (zI x2), some (zI w9), some (zI ((zStr.getD 1 []).getD (x3).toNat 0))]) (zw_id (o7 (Int.not_le.mp z1) (Int.not_le.mp z2) z3 z4).1 (o7 (Int.not_le.mp z1) (Int.not_le.mp z2) z3 z4).2) (zAt.go ((zAt.le (ls := [some (zR 68), some (zI x1), some (zI x2), some (zI (x3 + 1)), none]) ⟨rfl, ⟨rfl, ⟨rfl, ⟨rfl, trivial⟩⟩⟩⟩ (k3 (Int.not_le.mp z1) (Int.not_le.mp z2) z3 z4))))⟩)⟩)))))))))))⟩))⟩⟩)))⟩⟩)), fun z4 => zAt.go (zAt.go (⟨rfl, Or.inl ⟨71, (o8 (Int.not_le.mp z1) (Int.not_le.mp z2) z3 z4), zAt.go (zAt.go (zAt.go (⟨(by decide), rfl, (o9 (Int.not_le.mp z1) (Int.not_le.mp z2) z3 z4).1, (o9 (Int.not_le.mp z1) (Int.not_le.mp z2) z3 z4).2, zAt.go (zAt.go (⟨Nat.le_of_ble_eq_true rfl, zAt.go (zAt.go (⟨Nat.le_of_ble_eq_true rfl, zcN (F := fun w9 => [some (zR 68), some (zI x1), some (zI 0), some (zI w9), some (zI ((zStr.getD 1 []).getD (x3).toNat 0))]) (zw_id (o10 (Int.not_le.mp z1) (Int.not_le.mp z2) z3 z4).1 (o10 (Int.not_le.mp z1) (Int.not_le.mp z2) z3 z4).2) (zAt.go ((zAt.le (ls := [some (zR 68), some (zI x1), some (zI 0), some (zI (x3 + 1)), none]) ⟨rfl, ⟨rfl, ⟨rfl, ⟨rfl, trivial⟩⟩⟩⟩ (k4 (Int.not_le.mp z1) (Int.not_le.mp z2) z3 z4))))⟩))⟩))⟩)))⟩⟩))⟩)), fun z3 => zAt.go (⟨Nat.le_of_ble_eq_true rfl, zcN (F := fun w9 => [some (zR 68), some (zI w9), some (zI x2), some (zI x3), some (zI ((zStr.getD 1 []).getD (x3).toNat 0))]) (zw_id (o11 (Int.not_le.mp z1) (Int.not_le.mp z2) (Classical.not_not.mp z3)).1 (o11 (Int.not_le.mp z1) (Int.not_le.mp z2) (Classical.not_not.mp z3)).2) (zAt.go (zAt.go (⟨Nat.le_of_ble_eq_true rfl, zAt.go (zAt.go (⟨Nat.le_of_ble_eq_true rfl, zcN (F := fun w9 => [some (zR 68), some (zI (x1 + 1)), some (zI 1), some (zI w9), some (zI ((zStr.getD 1 []).getD (x3).toNat 0))]) (zw_id (o12 (Int.not_le.mp z1) (Int.not_le.mp z2) (Classical.not_not.mp z3)).1 (o12 (Int.not_le.mp z1) (Int.not_le.mp z2) (Classical.not_not.mp z3)).2) (zAt.go ((zAt.le (ls := [some (zR 68), some (zI (x1 + 1)), some (zI 1), some (zI (x3 + 1)), none]) ⟨rfl, ⟨rfl, ⟨rfl, ⟨rfl, trivial⟩⟩⟩⟩ (k5 (Int.not_le.mp z1) (Int.not_le.mp z2) (Classical.not_not.mp z3)))))⟩))⟩)))⟩)⟩)))⟩))))))⟩)))⟩))))))
def zwstep (c : Int) (s : Int × Int × List Int × List Int) : Int × Int × List Int × List Int :=
  if c = 32 then (s.1 + 1, 1, s.2.2.1, s.2.2.2) else if s.2.1 = 0 then (s.1, s.2.1, s.2.2.1.set s.1.toNat (s.2.2.1.getD s.1.toNat 0 * 32 + (c - 96)), s.2.2.2) else (s.1, 0, s.2.2.1, s.2.2.2.set s.1.toNat c)
def zwrun : Nat → Int × Int × List Int × List Int
  | 0 => (0, 1, List.replicate 10 0, List.replicate 10 0)
  | n + 1 => zwstep ((zStr.getD 1 []).getD n 0) (zwrun n)
def zhw (h : zHP) (s : Int × Int × List Int × List Int) : zHP := fun b j => if b = 70 then s.2.2.1.getD j 0 else if b = 71 then s.2.2.2.getD j 0 else h b j
theorem zwfacts : ∀ i, i < 65 → (0 ≤ (zwrun i).1 ∧ (zwrun i).1 < 10) ∧ (0 ≤ (zStr.getD 1 []).getD i 0 ∧ (zStr.getD 1 []).getD i 0 < 1000) ∧ (0 ≤ (zwrun i).2.2.1.getD (zwrun i).1.toNat 0 ∧ (zwrun i).2.2.1.getD (zwrun i).1.toNat 0 < 1125899906842624) ∧ (zwrun i).2.2.1.length = 10 ∧ (zwrun i).2.2.2.length = 10 := by decide +kernel
theorem zset_getD {l : List Int} {w j : Nat} {x : Int} (hw : w < l.length) : (l.set w x).getD j 0 = if j = w then x else l.getD j 0 := by
  rw [List.getD_eq_getElem?_getD, List.getElem?_set]
  by_cases e : w = j
  · subst e; simp [hw]
  · rw [if_neg e, if_neg (fun z => e z.symm), List.getD_eq_getElem?_getD]
theorem zhw_70 {h : zHP} {s : Int × Int × List Int × List Int} {w : Nat} {x a b : Int} (hw : w < s.2.2.1.length) : zup (zhw h s) 70 w x = zhw h (a, b, s.2.2.1.set w x, s.2.2.2) := by
  funext c j
  unfold zup zhw
  by_cases e : c = 70
  · subst e; rw [if_pos rfl, if_pos rfl]; exact zset_getD hw ▸ rfl
  · simp only [if_neg e]
theorem zhw_71 {h : zHP} {s : Int × Int × List Int × List Int} {w : Nat} {x a b : Int} (hw : w < s.2.2.2.length) : zup (zhw h s) 71 w x = zhw h (a, b, s.2.2.1, s.2.2.2.set w x) := by
  funext c j
  unfold zup zhw
  by_cases e : c = 71
  · subst e; simp only [if_pos rfl, zset_getD hw]; rfl
  · simp only [if_neg e]
theorem zw_loop {X : List Int} {h : zHP} {Q : zPO} (h1 : h 68 1 = 70) (h2 : h 68 2 = 71) (q : Q none (zSHc.take 75) (zhw h (zwrun 65))) : ∀ (m i : Nat), 65 - i = m → i ≤ 65 → zAt X 120 73 0 0 [some (zR 68), some (zI (zwrun i).1), some (zI (zwrun i).2.1), some (zI (i : Int)), none] [] (zSHc.take 75) (zhw h (zwrun i)) Q := by
  intro m
  induction m with
  | zero =>
    intro i hm hi
    have e : i = 65 := by omega
    subst e
    refine sk_120_73 (fun _ => q) ?_ ?_ ?_ ?_ ?_ ?_ ?_ ?_ ?_ ?_ ?_ ?_ ?_ ?_ ?_ ?_ <;> (intro z; exact absurd z (by decide))
  | succ m ih =>
    intro i hm hi
    obtain ⟨f1, f2, f3, f4, f5⟩ := zwfacts i (by omega)
    have step := ih (i + 1) (by omega) (by omega)
    have e1 : zhw h (zwrun i) 70 (zwrun i).1.toNat = (zwrun i).2.2.1.getD (zwrun i).1.toNat 0 := rfl
    have es : zwrun (i + 1) = zwstep ((zStr.getD 1 []).getD i 0) (zwrun i) := rfl
    rw [es] at step
    unfold zwstep at step
    have ei : ((i : Int)).toNat = i := Int.toNat_natCast i
    have ep : ((i : Int) + 1) = ((i + 1 : Nat) : Int) := by omega
    refine sk_120_73 (fun z => absurd z (by omega)) (fun _ z => absurd z (by omega)) (fun _ _ => by omega) (fun _ _ _ _ => h1) (fun _ _ _ _ => f1) (fun _ _ _ _ => by rw [e1]; omega) (fun _ _ _ _ => by rw [ei]; exact f2) (fun _ _ _ _ => by rw [e1, ei]; omega) (fun _ _ _ _ => by omega) (fun _ _ z1 z2 => ?_) (fun _ _ _ _ => h2) (fun _ _ _ _ => f1) (fun _ _ _ _ => by omega) (fun _ _ z1 z2 => ?_) (fun _ _ _ => by omega) (fun _ _ _ => by omega) (fun _ _ z1 => ?_)
    · rw [ei] at z1 ⊢
      rw [if_neg z1, if_pos z2] at step
      rw [e1, ep, zhw_70 (a := (zwrun i).1) (b := (zwrun i).2.1) (by rw [f4]; omega)]
      exact step
    · rw [ei] at z1 ⊢
      rw [if_neg z1, if_neg z2] at step
      rw [ep, zhw_71 (a := (zwrun i).1) (b := 0) (by rw [f5]; omega)]
      exact step
    · rw [ei] at z1
      rw [if_pos z1] at step
      rw [ep]
      exact step
def hj_68 (h : zHP) : zHP := zup (zup (zup (znul (zup (znul (zup (znul (zup (znul (zup (znul (zup (znul h 69 0) 68 0 ((69 : Nat) : Int)) 70 0) 68 1 ((70 : Nat) : Int)) 71 0) 68 2 ((71 : Nat) : Int)) 72 0) 68 3 ((72 : Nat) : Int)) 73 0) 68 4 ((73 : Nat) : Int)) 74 0) 68 5 ((74 : Nat) : Int)) 68 8 (-1)) 68 13 ((1100 : Nat) : Int)
def hi_68 (h : zHP) : zHP := zhw (hj_68 h) (zwrun 65)
theorem zrep0 (j : Nat) : (List.replicate 10 (0 : Int)).getD j 0 = 0 := by
  rw [List.getD_eq_getElem?_getD, List.getElem?_replicate]
  split <;> rfl
theorem zhw_0 {h : zHP} (h1 : ∀ j, h 70 j = 0) (h2 : ∀ j, h 71 j = 0) : zhw h (zwrun 0) = h := by
  funext b j
  unfold zhw
  by_cases e : b = 70
  · subst e; rw [if_pos rfl, h1]; exact zrep0 j
  · rw [if_neg e]
    by_cases e2 : b = 71
    · subst e2; rw [if_pos rfl, h2]; exact zrep0 j
    · rw [if_neg e2]
theorem ct_68 {X : List Int} {h : zHP} : zAt X 120 0 6 3220 [some (zR 68), none, none, none, none] [] (zSHc.take 69) h (fun v sh2 h2 => v = none ∧ sh2 = zSHc.take 75 ∧ h2 = hi_68 h) := by
  refine sk_120_0 ?_
  have k := zw_loop (X := X) (h := hj_68 h) (Q := fun v sh2 h2 => v = none ∧ sh2 = zSHc.take 75 ∧ h2 = hi_68 h) rfl rfl ⟨rfl, rfl, rfl⟩ 65 0 rfl (by decide)
  rw [zhw_0 (fun _ => rfl) (fun _ => rfl)] at k
  exact k
