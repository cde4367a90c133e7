/-! METHODS THAT ONLY LOOK: what they answer -/
theorem zKs_show {X : List Int} {j : Nat} {a : List zAV} {sh : zSH} {h : zHP} {K : Option zAV → zHP → Prop} (q : zAt X j 0 0 0 (zent (zinfo j).1 a) [] sh h (fun v sh' h' => sh' = sh ∧ K v h')) : zKs X j a sh h K := q
theorem zstr_ok {X : List Int} {sh : zSH} {j : Nat} (hj : j < 8) : (zsh X sh (1100 + j)).1 = 216 := by
  rcases zj8 hj with e | e | e | e | e | e | e | e <;> subst e <;> rfl
def zKd (h : zHP) (o : Nat) (i : Int) : Int := if 0 ≤ i ∧ i < h o 3 ∧ i < 200 then ziand (h (o + 1) i.toNat) 3 else 0
def zLg (h : zHP) (o : Nat) (i : Int) : Int := if 0 ≤ i ∧ i < h o 3 ∧ i < 200 then ziand (zishr (h (o + 1) i.toNat) 2) 7 else 0
def zWa (h : zHP) (o : Nat) (i : Int) : Int := if 0 ≤ i ∧ i < h o 3 ∧ i < 200 then ziand (zishr (h (o + 1) i.toNat) 5) 7 else 0
def zWb (h : zHP) (o : Nat) (i : Int) : Int := if 0 ≤ i ∧ i < h o 3 ∧ i < 200 then ziand (zishr (h (o + 1) i.toNat) 8) 7 else 0
abbrev zFc (n : Int) : Int := (zfac n.toNat : Int)
def zHM (n : Int) : Int := if zfits n then (zfac n.toNat : Int) else 0
def zByX (h : zHP) (i : Int) : Int := if 0 ≤ i ∧ i < h 68 6 ∧ i < 2000 then h 69 i.toNat else 0
def zTkK (h : zHP) (i : Int) : Int := if 0 ≤ i ∧ i < h 68 7 ∧ i < 400 then h 72 i.toNat else 69
def zTkV (h : zHP) (i : Int) : Int := if 0 ≤ i ∧ i < h 68 7 ∧ i < 400 then h 73 i.toNat else 0
def zTkP (h : zHP) (i : Int) : Int := if 0 ≤ i ∧ i < h 68 7 ∧ i < 400 then h 74 i.toNat else h 68 6
def zCnt (h : zHP) (i : Int) : Int := if 0 ≤ i ∧ i < 5040 then h 4 i.toNat else 0
def zWrd (h : zHP) (i : Int) : Int := if 0 ≤ i ∧ i < 800 then h 25 i.toNat else 0
def zHiM (n : Int) : Int := if 7 ≤ n then -1 else 0
abbrev zSl (j : Nat) : Int := ((zStr.getD j []).length : Int)
abbrev zSc (j : Nat) (i : Int) : Int := (zStr.getD j []).getD i.toNat 0
def zByM (h : zHP) (i : Int) : Int := if i < h 108 12 then h 119 i.toNat else 0
def zapart (x y : Int) : Int := if y < x then x - y else y - x
def zbeside (x y : Int) : Int := if x = y then y + 1 else if x = y + 1 then y else x

theorem sg_16_0 {X : List Int} {h : zHP} {Q : zPO} {o : Nat} (hp_o : zLad o) (k1 : Q (some (zI (h o 2))) zSHc h) : zAt X 16 0 0 0 [some (zR o)] [] zSHc h Q :=
  zAt.go (zAt.go (⟨zLad.s0 hp_o, zcI (zrd_lo (zLad.l0 hp_o)) (zAt.go (⟨trivial, k1⟩))⟩))
section
variable {X : List Int} {h : zHP} {K : Option zAV → zHP → Prop}
theorem zp_16 {o : Nat} (hp : zLad o) (k : K (some (zI (h o 2))) h) : zKs X 16 [zR o] zSHc h K := sg_16_0 hp ⟨rfl, k⟩
end
theorem sg_17_0 {X : List Int} {h : zHP} {Q : zPO} {o : Nat} (hp_o : zLad o) (k1 : Q (some (zI (h o 3))) zSHc h) : zAt X 17 0 0 0 [some (zR o)] [] zSHc h Q :=
  zAt.go (zAt.go (⟨zLad.s0 hp_o, zcI (zrd_lo (zLad.l0 hp_o)) (zAt.go (⟨trivial, k1⟩))⟩))
section
variable {X : List Int} {h : zHP} {K : Option zAV → zHP → Prop}
theorem zp_17 {o : Nat} (hp : zLad o) (k : K (some (zI (h o 3))) h) : zKs X 17 [zR o] zSHc h K := sg_17_0 hp ⟨rfl, k⟩
end
theorem sg_18_0 {X : List Int} {h : zHP} {Q : zPO} {o : Nat} (hp_o : zLad o) (k1 : Q (some (zI (h o 4))) zSHc h) : zAt X 18 0 0 0 [some (zR o)] [] zSHc h Q :=
  zAt.go (zAt.go (⟨zLad.s0 hp_o, zcI (zrd_lo (zLad.l0 hp_o)) (zAt.go (⟨trivial, k1⟩))⟩))
section
variable {X : List Int} {h : zHP} {K : Option zAV → zHP → Prop}
theorem zp_18 {o : Nat} (hp : zLad o) (k : K (some (zI (h o 4))) h) : zKs X 18 [zR o] zSHc h K := sg_18_0 hp ⟨rfl, k⟩
end
theorem sg_19_0 {X : List Int} {h : zHP} {Q : zPO} {o : Nat} (hp_o : zLad o) (k1 : Q (some (zI (h o 5))) zSHc h) : zAt X 19 0 0 0 [some (zR o)] [] zSHc h Q :=
  zAt.go (zAt.go (⟨zLad.s0 hp_o, zcI (zrd_lo (zLad.l0 hp_o)) (zAt.go (⟨trivial, k1⟩))⟩))
section
variable {X : List Int} {h : zHP} {K : Option zAV → zHP → Prop}
theorem zp_19 {o : Nat} (hp : zLad o) (k : K (some (zI (h o 5))) h) : zKs X 19 [zR o] zSHc h K := sg_19_0 hp ⟨rfl, k⟩
end
theorem sg_20_0 {X : List Int} {h : zHP} {Q : zPO} {o : Nat} {x1 : Int} (hF : zFin h) (hp_o : zLad o) (k1 : (x1 < 0) → Q (some (zI 0)) zSHc h) (k2 : (0 ≤ x1) → (h o 3 ≤ x1) → Q (some (zI 0)) zSHc h) (k3 : (0 ≤ x1) → (x1 < h o 3) → (200 ≤ x1) → Q (some (zI 0)) zSHc h) (k4 : (0 ≤ x1) → (x1 < h o 3) → (x1 < 200) → Q (some (zI 1)) zSHc h) : zAt X 20 0 0 0 [some (zR o), some (zI x1)] [] zSHc h Q :=
  zAt.go (zAt.go (⟨fun z1 => zAt.go (zAt.go (⟨Or.inl rfl, (k1 z1)⟩)), fun z1 => zAt.go (zAt.go (zAt.go (⟨zLad.s0 hp_o, zcI (zrd_lo (zLad.l0 hp_o)) (zAt.go (⟨fun z2 => zAt.go (zAt.go (⟨Or.inl rfl, (k2 (Int.not_lt.mp z1) z2)⟩)), fun z2 => zAt.go (zAt.go (zAt.go (⟨zLad.s0 hp_o, Or.inl ⟨o + 1, zLad.f0 hF hp_o, zAt.go (⟨ztag_le (zLad.s1 hp_o) (by decide), zcI (zlen_eq (zLad.s1 hp_o)) (zAt.go (⟨fun z3 => zAt.go (zAt.go (⟨Or.inl rfl, (k3 (Int.not_lt.mp z1) (Int.not_le.mp z2) z3)⟩)), fun z3 => zAt.go (zAt.go (zAt.go (⟨Or.inr rfl, (k4 (Int.not_lt.mp z1) (Int.not_le.mp z2) (Int.not_le.mp z3))⟩)))⟩))⟩)⟩⟩)))⟩))⟩)))⟩))
section
variable {X : List Int} {h : zHP} {K : Option zAV → zHP → Prop}
theorem zp_20 {o : Nat} (hF : zFin h) (hp : zLad o) {i : Int} (k : K (some (zI (if 0 ≤ i ∧ i < h o 3 ∧ i < 200 then 1 else 0))) h) : zKs X 20 [zR o, zI i] zSHc h K := by
  refine zKs_show ?_
  apply sg_20_0 hF hp <;> intros <;> first | omega | (refine ⟨rfl, ?_⟩; first | exact k | (rw [if_pos (by omega)] at k; exact k) | (rw [if_neg (by omega)] at k; exact k))
end
theorem sg_21_0 {X : List Int} {h : zHP} {Q : zPO} {o : Nat} {x1 : Int} (hp_o : zLad o) (k1 : (x1 < 0) → Q (some (zI 0)) zSHc h) (k2 : (0 ≤ x1) → (h o 2 ≤ x1) → Q (some (zI 0)) zSHc h) (k3 : (0 ≤ x1) → (x1 < h o 2) → Q (some (zI 1)) zSHc h) : zAt X 21 0 0 0 [some (zR o), some (zI x1)] [] zSHc h Q :=
  zAt.go (zAt.go (⟨fun z1 => zAt.go (zAt.go (⟨Or.inl rfl, (k1 z1)⟩)), fun z1 => zAt.go (zAt.go (zAt.go (⟨zLad.s0 hp_o, zcI (zrd_lo (zLad.l0 hp_o)) (zAt.go (⟨fun z2 => zAt.go (zAt.go (⟨Or.inl rfl, (k2 (Int.not_lt.mp z1) z2)⟩)), fun z2 => zAt.go (zAt.go (zAt.go (⟨Or.inr rfl, (k3 (Int.not_lt.mp z1) (Int.not_le.mp z2))⟩)))⟩))⟩)))⟩))
section
variable {X : List Int} {h : zHP} {K : Option zAV → zHP → Prop}
theorem zp_21 {o : Nat} (hp : zLad o) {i : Int} (k : K (some (zI (if 0 ≤ i ∧ i < h o 2 then 1 else 0))) h) : zKs X 21 [zR o, zI i] zSHc h K := by
  refine zKs_show ?_
  apply sg_21_0 hp <;> intros <;> first | omega | (refine ⟨rfl, ?_⟩; first | exact k | (rw [if_pos (by omega)] at k; exact k) | (rw [if_neg (by omega)] at k; exact k))
end
theorem sg_22_0 {X : List Int} {h : zHP} {Q : zPO} {o : Nat} {x1 : Int} (hp_o : zLad o) (k1 : (x1 < 0) → Q (some (zI 0)) zSHc h) (k2 : (0 ≤ x1) → (20 < h o 4) → Q (some (zI 0)) zSHc h) (k3 : (0 ≤ x1) → (h o 4 ≤ 20) → (zishl 1 (h o 4) ≤ x1) → Q (some (zI 0)) zSHc h) (k4 : (0 ≤ x1) → (h o 4 ≤ 20) → (x1 < zishl 1 (h o 4)) → Q (some (zI 1)) zSHc h) : zAt X 22 0 0 0 [some (zR o), some (zI x1)] [] zSHc h Q :=
  zAt.go (zAt.go (⟨fun z1 => zAt.go (zAt.go (⟨Or.inl rfl, (k1 z1)⟩)), fun z1 => zAt.go (zAt.go (⟨zLad.s0 hp_o, zcI (zrd_lo (zLad.l0 hp_o)) (zAt.go (zAt.go (⟨fun z2 => zAt.go (zAt.go (⟨Or.inl rfl, (k2 (Int.not_lt.mp z1) z2)⟩)), fun z2 => zAt.go (zAt.go (zAt.go (zAt.go (⟨zLad.s0 hp_o, zcI (zrd_lo (zLad.l0 hp_o)) (zAt.go (zAt.go (⟨fun z3 => zAt.go (zAt.go (⟨Or.inl rfl, (k3 (Int.not_lt.mp z1) (Int.not_lt.mp z2) z3)⟩)), fun z3 => zAt.go (zAt.go (zAt.go (⟨Or.inr rfl, (k4 (Int.not_lt.mp z1) (Int.not_lt.mp z2) (Int.not_le.mp z3))⟩)))⟩)))⟩))))⟩)))⟩))⟩))
section
variable {X : List Int} {h : zHP} {K : Option zAV → zHP → Prop}
theorem zp_22 {o : Nat} (hp : zLad o) {i : Int} (k : K (some (zI (if 0 ≤ i ∧ h o 4 ≤ 20 ∧ i < zishl 1 (h o 4) then 1 else 0))) h) : zKs X 22 [zR o, zI i] zSHc h K := by
  refine zKs_show ?_
  apply sg_22_0 hp <;> intros <;> first | omega | (refine ⟨rfl, ?_⟩; first | exact k | (rw [if_pos (by omega)] at k; exact k) | (rw [if_neg (by omega)] at k; exact k))
end
theorem sg_23_0 {X : List Int} {h : zHP} {Q : zPO} {o : Nat} (hp_o : zLad o) (k1 : (200 < h o 3) → Q (some (zI 1)) zSHc h) (k2 : (h o 3 ≤ 200) → (h o 4 ≤ 20) → Q (some (zI 0)) zSHc h) (k3 : (h o 3 ≤ 200) → (20 < h o 4) → Q (some (zI 1)) zSHc h) : zAt X 23 0 0 0 [some (zR o)] [] zSHc h Q :=
  zAt.go (zAt.go (⟨zLad.s0 hp_o, zcI (zrd_lo (zLad.l0 hp_o)) (zAt.go (zAt.go (⟨fun z1 => zAt.go (zAt.go (zAt.go (⟨Or.inr rfl, (k1 z1)⟩))), fun z1 => zAt.go (zAt.go (⟨zLad.s0 hp_o, zcI (zrd_lo (zLad.l0 hp_o)) (zAt.go (zAt.go (⟨fun z2 => zAt.go (zAt.go (⟨Or.inl rfl, (k2 (Int.not_lt.mp z1) z2)⟩)), fun z2 => zAt.go (zAt.go (zAt.go (⟨Or.inr rfl, (k3 (Int.not_lt.mp z1) (Int.not_le.mp z2))⟩)))⟩)))⟩))⟩)))⟩))
section
variable {X : List Int} {h : zHP} {K : Option zAV → zHP → Prop}
theorem zp_23 {o : Nat} (hp : zLad o) (k : K (some (zI (if 200 < h o 3 ∨ 20 < h o 4 then 1 else 0))) h) : zKs X 23 [zR o] zSHc h K := by
  refine zKs_show ?_
  apply sg_23_0 hp <;> intros <;> first | omega | (refine ⟨rfl, ?_⟩; first | exact k | (rw [if_pos (by omega)] at k; exact k) | (rw [if_neg (by omega)] at k; exact k))
end
theorem sg_24_0 {X : List Int} {h : zHP} {Q : zPO} {o : Nat} {x1 : Int} (hF : zFin h) (hp_o : zLad o) (k1 : (¬ (0 ≤ x1 ∧ x1 < h o 3 ∧ x1 < 200)) → Q (some (zI 0)) zSHc h) (o1 : (0 ≤ x1 ∧ x1 < h o 3 ∧ x1 < 200) → 0 ≤ x1 ∧ x1 < 200) (k2 : (0 ≤ x1 ∧ x1 < h o 3 ∧ x1 < 200) → Q (some (zI (ziand (h (o + 1) x1.toNat) 3))) zSHc h) : zAt X 24 0 0 0 [some (zR o), some (zI x1)] [] zSHc h Q :=
  zAt.go (zAt.go (zAt.go (zcall1 (r1 := 20) (a := [zR o, zI x1]) (r := []) rfl rfl ⟨Nat.le_of_ble_eq_true rfl, Nat.le_of_ble_eq_true rfl, Nat.le_of_ble_eq_true rfl⟩ (zLad.s0 hp_o) rfl rfl rfl (zp_20 hF hp_o (zAt.go (⟨fun z1 => zAt.go (zAt.go (⟨trivial, (k1 (zb0.mp z1))⟩)), fun z1 => zAt.go (zAt.go (⟨zLad.s0 hp_o, Or.inl ⟨o + 1, zLad.f0 hF hp_o, zAt.go (zAt.go (⟨Or.inl (congrArg Prod.fst (zLad.s1 hp_o)), (o1 (zb1.mp z1)).1, zlen_lt (zLad.s1 hp_o) (o1 (zb1.mp z1)).2, zcI (zrd_lo (zLad.l1 hp_o)) (zAt.go (zAt.go (zAt.go (zAt.go (⟨trivial, (k2 (zb1.mp z1))⟩)))))⟩))⟩⟩))⟩))))))
section
variable {X : List Int} {h : zHP} {K : Option zAV → zHP → Prop}
theorem zp_24 {o : Nat} (hF : zFin h) (hp : zLad o) {i : Int} (k : K (some (zI (zKd h o i))) h) : zKs X 24 [zR o, zI i] zSHc h K := by
  refine zKs_show ?_
  apply sg_24_0 hF hp <;> intros <;> first | omega | (refine ⟨rfl, ?_⟩; unfold zKd at k; first | (rw [if_pos (by omega)] at k; exact k) | (rw [if_neg (by omega)] at k; exact k))
end
theorem sg_25_0 {X : List Int} {h : zHP} {Q : zPO} {o : Nat} {x1 : Int} (hF : zFin h) (hp_o : zLad o) (k1 : (¬ (0 ≤ x1 ∧ x1 < h o 3 ∧ x1 < 200)) → Q (some (zI 0)) zSHc h) (o1 : (0 ≤ x1 ∧ x1 < h o 3 ∧ x1 < 200) → 0 ≤ x1 ∧ x1 < 200) (k2 : (0 ≤ x1 ∧ x1 < h o 3 ∧ x1 < 200) → Q (some (zI (ziand (zishr (h (o + 1) x1.toNat) 2) 7))) zSHc h) : zAt X 25 0 0 0 [some (zR o), some (zI x1)] [] zSHc h Q :=
  zAt.go (zAt.go (zAt.go (zcall1 (r1 := 20) (a := [zR o, zI x1]) (r := []) rfl rfl ⟨Nat.le_of_ble_eq_true rfl, Nat.le_of_ble_eq_true rfl, Nat.le_of_ble_eq_true rfl⟩ (zLad.s0 hp_o) rfl rfl rfl (zp_20 hF hp_o (zAt.go (⟨fun z1 => zAt.go (zAt.go (⟨trivial, (k1 (zb0.mp z1))⟩)), fun z1 => zAt.go (zAt.go (⟨zLad.s0 hp_o, Or.inl ⟨o + 1, zLad.f0 hF hp_o, zAt.go (zAt.go (⟨Or.inl (congrArg Prod.fst (zLad.s1 hp_o)), (o1 (zb1.mp z1)).1, zlen_lt (zLad.s1 hp_o) (o1 (zb1.mp z1)).2, zcI (zrd_lo (zLad.l1 hp_o)) (zAt.go (zAt.go (zAt.go (zAt.go (zAt.go (zAt.go (⟨trivial, (k2 (zb1.mp z1))⟩)))))))⟩))⟩⟩))⟩))))))
section
variable {X : List Int} {h : zHP} {K : Option zAV → zHP → Prop}
theorem zp_25 {o : Nat} (hF : zFin h) (hp : zLad o) {i : Int} (k : K (some (zI (zLg h o i))) h) : zKs X 25 [zR o, zI i] zSHc h K := by
  refine zKs_show ?_
  apply sg_25_0 hF hp <;> intros <;> first | omega | (refine ⟨rfl, ?_⟩; unfold zLg at k; first | (rw [if_pos (by omega)] at k; exact k) | (rw [if_neg (by omega)] at k; exact k))
end
theorem sg_26_0 {X : List Int} {h : zHP} {Q : zPO} {o : Nat} {x1 : Int} (hF : zFin h) (hp_o : zLad o) (k1 : (¬ (0 ≤ x1 ∧ x1 < h o 3 ∧ x1 < 200)) → Q (some (zI 0)) zSHc h) (o1 : (0 ≤ x1 ∧ x1 < h o 3 ∧ x1 < 200) → 0 ≤ x1 ∧ x1 < 200) (k2 : (0 ≤ x1 ∧ x1 < h o 3 ∧ x1 < 200) → Q (some (zI (ziand (zishr (h (o + 1) x1.toNat) 5) 7))) zSHc h) : zAt X 26 0 0 0 [some (zR o), some (zI x1)] [] zSHc h Q :=
  zAt.go (zAt.go (zAt.go (zcall1 (r1 := 20) (a := [zR o, zI x1]) (r := []) rfl rfl ⟨Nat.le_of_ble_eq_true rfl, Nat.le_of_ble_eq_true rfl, Nat.le_of_ble_eq_true rfl⟩ (zLad.s0 hp_o) rfl rfl rfl (zp_20 hF hp_o (zAt.go (⟨fun z1 => zAt.go (zAt.go (⟨trivial, (k1 (zb0.mp z1))⟩)), fun z1 => zAt.go (zAt.go (⟨zLad.s0 hp_o, Or.inl ⟨o + 1, zLad.f0 hF hp_o, zAt.go (zAt.go (⟨Or.inl (congrArg Prod.fst (zLad.s1 hp_o)), (o1 (zb1.mp z1)).1, zlen_lt (zLad.s1 hp_o) (o1 (zb1.mp z1)).2, zcI (zrd_lo (zLad.l1 hp_o)) (zAt.go (zAt.go (zAt.go (zAt.go (zAt.go (zAt.go (⟨trivial, (k2 (zb1.mp z1))⟩)))))))⟩))⟩⟩))⟩))))))
section
variable {X : List Int} {h : zHP} {K : Option zAV → zHP → Prop}
theorem zp_26 {o : Nat} (hF : zFin h) (hp : zLad o) {i : Int} (k : K (some (zI (zWa h o i))) h) : zKs X 26 [zR o, zI i] zSHc h K := by
  refine zKs_show ?_
  apply sg_26_0 hF hp <;> intros <;> first | omega | (refine ⟨rfl, ?_⟩; unfold zWa at k; first | (rw [if_pos (by omega)] at k; exact k) | (rw [if_neg (by omega)] at k; exact k))
end
theorem sg_27_0 {X : List Int} {h : zHP} {Q : zPO} {o : Nat} {x1 : Int} (hF : zFin h) (hp_o : zLad o) (k1 : (¬ (0 ≤ x1 ∧ x1 < h o 3 ∧ x1 < 200)) → Q (some (zI 0)) zSHc h) (o1 : (0 ≤ x1 ∧ x1 < h o 3 ∧ x1 < 200) → 0 ≤ x1 ∧ x1 < 200) (k2 : (0 ≤ x1 ∧ x1 < h o 3 ∧ x1 < 200) → Q (some (zI (ziand (zishr (h (o + 1) x1.toNat) 8) 7))) zSHc h) : zAt X 27 0 0 0 [some (zR o), some (zI x1)] [] zSHc h Q :=
  zAt.go (zAt.go (zAt.go (zcall1 (r1 := 20) (a := [zR o, zI x1]) (r := []) rfl rfl ⟨Nat.le_of_ble_eq_true rfl, Nat.le_of_ble_eq_true rfl, Nat.le_of_ble_eq_true rfl⟩ (zLad.s0 hp_o) rfl rfl rfl (zp_20 hF hp_o (zAt.go (⟨fun z1 => zAt.go (zAt.go (⟨trivial, (k1 (zb0.mp z1))⟩)), fun z1 => zAt.go (zAt.go (⟨zLad.s0 hp_o, Or.inl ⟨o + 1, zLad.f0 hF hp_o, zAt.go (zAt.go (⟨Or.inl (congrArg Prod.fst (zLad.s1 hp_o)), (o1 (zb1.mp z1)).1, zlen_lt (zLad.s1 hp_o) (o1 (zb1.mp z1)).2, zcI (zrd_lo (zLad.l1 hp_o)) (zAt.go (zAt.go (zAt.go (zAt.go (zAt.go (zAt.go (⟨trivial, (k2 (zb1.mp z1))⟩)))))))⟩))⟩⟩))⟩))))))
section
variable {X : List Int} {h : zHP} {K : Option zAV → zHP → Prop}
theorem zp_27 {o : Nat} (hF : zFin h) (hp : zLad o) {i : Int} (k : K (some (zI (zWb h o i))) h) : zKs X 27 [zR o, zI i] zSHc h K := by
  refine zKs_show ?_
  apply sg_27_0 hF hp <;> intros <;> first | omega | (refine ⟨rfl, ?_⟩; unfold zWb at k; first | (rw [if_pos (by omega)] at k; exact k) | (rw [if_neg (by omega)] at k; exact k))
end
section
variable {X : List Int} {h : zHP} {K : Option zAV → zHP → Prop}
theorem zp_77 {n : Int} (k : K (some (zI (if 2 ≤ n ∧ n ≤ 7 then 1 else 0))) h) : zKs X 77 [zI n] zSHc h K := cx_77 k
end
section
variable {X : List Int} {h : zHP} {K : Option zAV → zHP → Prop}
theorem zp_78 {n : Int} (k : K (some (zI (zHM n))) h) : zKs X 78 [zR 1, zI n] zSHc h K := cx_78 k
end
section
variable {X : List Int} {h : zHP} {K : Option zAV → zHP → Prop}
theorem zp_79 {n o : Int} (k : K (some (zI (if (2 ≤ n ∧ n ≤ 7) ∧ 0 ≤ o ∧ o < zFc n then 1 else 0))) h) : zKs X 79 [zR 1, zI n, zI o] zSHc h K := cx_79 k
end
theorem sg_121_0 {X : List Int} {h : zHP} {Q : zPO}  (k1 : Q (some (zI (h 68 6))) zSHc h) : zAt X 121 0 0 0 [some (zR 68)] [] zSHc h Q :=
  zAt.go (zAt.go (⟨rfl, zAt.go (⟨trivial, k1⟩)⟩))
section
variable {X : List Int} {h : zHP} {K : Option zAV → zHP → Prop}
theorem zp_121 (k : K (some (zI (h 68 6))) h) : zKs X 121 [zR 68] zSHc h K := sg_121_0 ⟨rfl, k⟩
end
theorem sg_126_0 {X : List Int} {h : zHP} {Q : zPO}  (k1 : Q (some (zI (h 68 7))) zSHc h) : zAt X 126 0 0 0 [some (zR 68)] [] zSHc h Q :=
  zAt.go (zAt.go (⟨rfl, zAt.go (⟨trivial, k1⟩)⟩))
section
variable {X : List Int} {h : zHP} {K : Option zAV → zHP → Prop}
theorem zp_126 (k : K (some (zI (h 68 7))) h) : zKs X 126 [zR 68] zSHc h K := sg_126_0 ⟨rfl, k⟩
end
theorem sg_127_0 {X : List Int} {h : zHP} {Q : zPO}  (k1 : Q (some (zI (h 68 8))) zSHc h) : zAt X 127 0 0 0 [some (zR 68)] [] zSHc h Q :=
  zAt.go (zAt.go (⟨rfl, zAt.go (⟨trivial, k1⟩)⟩))
section
variable {X : List Int} {h : zHP} {K : Option zAV → zHP → Prop}
theorem zp_127 (k : K (some (zI (h 68 8))) h) : zKs X 127 [zR 68] zSHc h K := sg_127_0 ⟨rfl, k⟩
end
theorem sg_44_0 {X : List Int} {h : zHP} {Q : zPO}  (k1 : Q (some (zI (h 40 9))) zSHc h) : zAt X 44 0 0 0 [some (zR 40)] [] zSHc h Q :=
  zAt.go (zAt.go (⟨rfl, zAt.go (⟨trivial, k1⟩)⟩))
section
variable {X : List Int} {h : zHP} {K : Option zAV → zHP → Prop}
theorem zp_44 (k : K (some (zI (h 40 9))) h) : zKs X 44 [zR 40] zSHc h K := sg_44_0 ⟨rfl, k⟩
end
theorem sg_107_0 {X : List Int} {h : zHP} {Q : zPO}  (k1 : Q (some (zI (h 75 15))) zSHc h) : zAt X 107 0 0 0 [some (zR 75)] [] zSHc h Q :=
  zAt.go (zAt.go (⟨rfl, zAt.go (⟨trivial, k1⟩)⟩))
section
variable {X : List Int} {h : zHP} {K : Option zAV → zHP → Prop}
theorem zp_107 (k : K (some (zI (h 75 15))) h) : zKs X 107 [zR 75] zSHc h K := sg_107_0 ⟨rfl, k⟩
end
theorem sg_106_0 {X : List Int} {h : zHP} {Q : zPO}  (hF : zFin h) (k1 : Q (some (zR 76)) zSHc h) : zAt X 106 0 0 0 [some (zR 75)] [] zSHc h Q :=
  zAt.go (zAt.go (⟨rfl, Or.inl ⟨76, zFin.g hF (n := 58) rfl, zAt.go (k1)⟩⟩))
section
variable {X : List Int} {h : zHP} {K : Option zAV → zHP → Prop}
theorem zp_106 (hF : zFin h) (k : K (some (zR 76)) h) : zKs X 106 [zR 75] zSHc h K := sg_106_0 hF ⟨rfl, k⟩
end
theorem sg_125_0 {X : List Int} {h : zHP} {Q : zPO} {x1 : Int} (hF : zFin h) (k1 : (x1 < 0) → Q (some (zI 0)) zSHc h) (k2 : (0 ≤ x1) → (h 68 6 ≤ x1) → Q (some (zI 0)) zSHc h) (k3 : (0 ≤ x1) → (x1 < h 68 6) → (2000 ≤ x1) → Q (some (zI 0)) zSHc h) (o1 : (0 ≤ x1) → (x1 < h 68 6) → (x1 < 2000) → 0 ≤ x1 ∧ x1 < 2000) (k4 : (0 ≤ x1) → (x1 < h 68 6) → (x1 < 2000) → Q (some (zI (h 69 x1.toNat))) zSHc h) : zAt X 125 0 0 0 [some (zR 68), some (zI x1)] [] zSHc h Q :=
  zAt.go (zAt.go (⟨fun z1 => zAt.go (zAt.go (⟨trivial, (k1 z1)⟩)), fun z1 => zAt.go (zAt.go (zAt.go (⟨rfl, zAt.go (⟨fun z2 => zAt.go (zAt.go (⟨trivial, (k2 (Int.not_lt.mp z1) z2)⟩)), fun z2 => zAt.go (zAt.go (zAt.go (⟨rfl, Or.inl ⟨69, zFin.g hF (n := 50) rfl, zAt.go (⟨Nat.le_of_ble_eq_true rfl, zAt.go (⟨fun z3 => zAt.go (zAt.go (⟨trivial, (k3 (Int.not_lt.mp z1) (Int.not_le.mp z2) z3)⟩)), fun z3 => zAt.go (zAt.go (⟨rfl, Or.inl ⟨69, zFin.g hF (n := 50) rfl, zAt.go (zAt.go (⟨Or.inl rfl, (o1 (Int.not_lt.mp z1) (Int.not_le.mp z2) (Int.not_le.mp z3)).1, zlen_lt2 (n := 2000) rfl rfl (o1 (Int.not_lt.mp z1) (Int.not_le.mp z2) (Int.not_le.mp z3)).2, zAt.go (zAt.go (⟨trivial, (k4 (Int.not_lt.mp z1) (Int.not_le.mp z2) (Int.not_le.mp z3))⟩))⟩))⟩⟩))⟩)⟩)⟩⟩)))⟩)⟩)))⟩))
section
variable {X : List Int} {h : zHP} {K : Option zAV → zHP → Prop}
theorem zp_125 (hF : zFin h) {i : Int} (k : K (some (zI (zByX h i))) h) : zKs X 125 [zR 68, zI i] zSHc h K := by
  refine zKs_show ?_
  apply sg_125_0 hF <;> intros <;> first | omega | (refine ⟨rfl, ?_⟩; unfold zByX at k; first | (rw [if_pos (by omega)] at k; exact k) | (rw [if_neg (by omega)] at k; exact k))
end
theorem sg_128_0 {X : List Int} {h : zHP} {Q : zPO} {x1 : Int} (hF : zFin h) (k1 : (x1 < 0) → Q (some (zI 69)) zSHc h) (k2 : (0 ≤ x1) → (h 68 7 ≤ x1) → Q (some (zI 69)) zSHc h) (k3 : (0 ≤ x1) → (x1 < h 68 7) → (400 ≤ x1) → Q (some (zI 69)) zSHc h) (o1 : (0 ≤ x1) → (x1 < h 68 7) → (x1 < 400) → 0 ≤ x1 ∧ x1 < 400) (k4 : (0 ≤ x1) → (x1 < h 68 7) → (x1 < 400) → Q (some (zI (h 72 x1.toNat))) zSHc h) : zAt X 128 0 0 0 [some (zR 68), some (zI x1)] [] zSHc h Q :=
  zAt.go (zAt.go (⟨fun z1 => zAt.go (zAt.go (⟨trivial, (k1 z1)⟩)), fun z1 => zAt.go (zAt.go (zAt.go (⟨rfl, zAt.go (⟨fun z2 => zAt.go (zAt.go (⟨trivial, (k2 (Int.not_lt.mp z1) z2)⟩)), fun z2 => zAt.go (zAt.go (zAt.go (⟨rfl, Or.inl ⟨72, zFin.g hF (n := 53) rfl, zAt.go (⟨Nat.le_of_ble_eq_true rfl, zAt.go (⟨fun z3 => zAt.go (zAt.go (⟨trivial, (k3 (Int.not_lt.mp z1) (Int.not_le.mp z2) z3)⟩)), fun z3 => zAt.go (zAt.go (⟨rfl, Or.inl ⟨72, zFin.g hF (n := 53) rfl, zAt.go (zAt.go (⟨Or.inl rfl, (o1 (Int.not_lt.mp z1) (Int.not_le.mp z2) (Int.not_le.mp z3)).1, zlen_lt2 (n := 400) rfl rfl (o1 (Int.not_lt.mp z1) (Int.not_le.mp z2) (Int.not_le.mp z3)).2, zAt.go (zAt.go (⟨trivial, (k4 (Int.not_lt.mp z1) (Int.not_le.mp z2) (Int.not_le.mp z3))⟩))⟩))⟩⟩))⟩)⟩)⟩⟩)))⟩)⟩)))⟩))
section
variable {X : List Int} {h : zHP} {K : Option zAV → zHP → Prop}
theorem zp_128 (hF : zFin h) {i : Int} (k : K (some (zI (zTkK h i))) h) : zKs X 128 [zR 68, zI i] zSHc h K := by
  refine zKs_show ?_
  apply sg_128_0 hF <;> intros <;> first | omega | (refine ⟨rfl, ?_⟩; unfold zTkK at k; first | (rw [if_pos (by omega)] at k; exact k) | (rw [if_neg (by omega)] at k; exact k))
end
theorem sg_130_0 {X : List Int} {h : zHP} {Q : zPO} {x1 : Int} (hF : zFin h) (k1 : (x1 < 0) → Q (some (zL 0)) zSHc h) (k2 : (0 ≤ x1) → (h 68 7 ≤ x1) → Q (some (zL 0)) zSHc h) (k3 : (0 ≤ x1) → (x1 < h 68 7) → (400 ≤ x1) → Q (some (zL 0)) zSHc h) (o1 : (0 ≤ x1) → (x1 < h 68 7) → (x1 < 400) → 0 ≤ x1 ∧ x1 < 400) (k4 : (0 ≤ x1) → (x1 < h 68 7) → (x1 < 400) → Q (some (zL (h 73 x1.toNat))) zSHc h) : zAt X 130 0 0 0 [some (zR 68), some (zI x1)] [] zSHc h Q :=
  zAt.go (zAt.go (⟨fun z1 => zAt.go (zAt.go ((k1 z1))), fun z1 => zAt.go (zAt.go (zAt.go (⟨rfl, zAt.go (⟨fun z2 => zAt.go (zAt.go ((k2 (Int.not_lt.mp z1) z2))), fun z2 => zAt.go (zAt.go (zAt.go (⟨rfl, Or.inl ⟨73, zFin.g hF (n := 54) rfl, zAt.go (⟨Nat.le_of_ble_eq_true rfl, zAt.go (⟨fun z3 => zAt.go (zAt.go ((k3 (Int.not_lt.mp z1) (Int.not_le.mp z2) z3))), fun z3 => zAt.go (zAt.go (⟨rfl, Or.inl ⟨73, zFin.g hF (n := 54) rfl, zAt.go (zAt.go (⟨rfl, (o1 (Int.not_lt.mp z1) (Int.not_le.mp z2) (Int.not_le.mp z3)).1, zlen_lt2 (n := 400) rfl rfl (o1 (Int.not_lt.mp z1) (Int.not_le.mp z2) (Int.not_le.mp z3)).2, zAt.go (zAt.go ((k4 (Int.not_lt.mp z1) (Int.not_le.mp z2) (Int.not_le.mp z3))))⟩))⟩⟩))⟩)⟩)⟩⟩)))⟩)⟩)))⟩))
section
variable {X : List Int} {h : zHP} {K : Option zAV → zHP → Prop}
theorem zp_130 (hF : zFin h) {i : Int} (k : K (some (zL (zTkV h i))) h) : zKs X 130 [zR 68, zI i] zSHc h K := by
  refine zKs_show ?_
  apply sg_130_0 hF <;> intros <;> first | omega | (refine ⟨rfl, ?_⟩; unfold zTkV at k; first | (rw [if_pos (by omega)] at k; exact k) | (rw [if_neg (by omega)] at k; exact k))
end
theorem sg_131_0 {X : List Int} {h : zHP} {Q : zPO} {x1 : Int} (hF : zFin h) (k1 : (x1 < 0) → Q (some (zI (h 68 6))) zSHc h) (k2 : (0 ≤ x1) → (h 68 7 ≤ x1) → Q (some (zI (h 68 6))) zSHc h) (k3 : (0 ≤ x1) → (x1 < h 68 7) → (400 ≤ x1) → Q (some (zI (h 68 6))) zSHc h) (o1 : (0 ≤ x1) → (x1 < h 68 7) → (x1 < 400) → 0 ≤ x1 ∧ x1 < 400) (k4 : (0 ≤ x1) → (x1 < h 68 7) → (x1 < 400) → Q (some (zI (h 74 x1.toNat))) zSHc h) : zAt X 131 0 0 0 [some (zR 68), some (zI x1)] [] zSHc h Q :=
  zAt.go (zAt.go (⟨fun z1 => zAt.go (zAt.go (⟨rfl, zAt.go (⟨trivial, (k1 z1)⟩)⟩)), fun z1 => zAt.go (zAt.go (zAt.go (⟨rfl, zAt.go (⟨fun z2 => zAt.go (zAt.go (⟨rfl, zAt.go (⟨trivial, (k2 (Int.not_lt.mp z1) z2)⟩)⟩)), fun z2 => zAt.go (zAt.go (zAt.go (⟨rfl, Or.inl ⟨74, zFin.g hF (n := 55) rfl, zAt.go (⟨Nat.le_of_ble_eq_true rfl, zAt.go (⟨fun z3 => zAt.go (zAt.go (⟨rfl, zAt.go (⟨trivial, (k3 (Int.not_lt.mp z1) (Int.not_le.mp z2) z3)⟩)⟩)), fun z3 => zAt.go (zAt.go (⟨rfl, Or.inl ⟨74, zFin.g hF (n := 55) rfl, zAt.go (zAt.go (⟨Or.inl rfl, (o1 (Int.not_lt.mp z1) (Int.not_le.mp z2) (Int.not_le.mp z3)).1, zlen_lt2 (n := 400) rfl rfl (o1 (Int.not_lt.mp z1) (Int.not_le.mp z2) (Int.not_le.mp z3)).2, zAt.go (zAt.go (⟨trivial, (k4 (Int.not_lt.mp z1) (Int.not_le.mp z2) (Int.not_le.mp z3))⟩))⟩))⟩⟩))⟩)⟩)⟩⟩)))⟩)⟩)))⟩))
section
variable {X : List Int} {h : zHP} {K : Option zAV → zHP → Prop}
theorem zp_131 (hF : zFin h) {i : Int} (k : K (some (zI (zTkP h i))) h) : zKs X 131 [zR 68, zI i] zSHc h K := by
  refine zKs_show ?_
  apply sg_131_0 hF <;> intros <;> first | omega | (refine ⟨rfl, ?_⟩; unfold zTkP at k; first | (rw [if_pos (by omega)] at k; exact k) | (rw [if_neg (by omega)] at k; exact k))
end
theorem sg_38_0 {X : List Int} {h : zHP} {Q : zPO} {x1 : Int} (hF : zFin h) (k1 : (x1 < 0) → Q (some (zL 0)) zSHc h) (k2 : (0 ≤ x1) → (5040 ≤ x1) → Q (some (zL 0)) zSHc h) (o1 : (0 ≤ x1) → (x1 < 5040) → 0 ≤ x1 ∧ x1 < 5040) (k3 : (0 ≤ x1) → (x1 < 5040) → Q (some (zL (h 4 x1.toNat))) zSHc h) : zAt X 38 0 0 0 [some (zR 3), some (zI x1)] [] zSHc h Q :=
  zAt.go (zAt.go (⟨fun z1 => zAt.go (zAt.go ((k1 z1))), fun z1 => zAt.go (zAt.go (zAt.go (⟨rfl, Or.inl ⟨4, zFin.g hF (n := 2) rfl, zAt.go (⟨Nat.le_of_ble_eq_true rfl, zAt.go (⟨fun z2 => zAt.go (zAt.go ((k2 (Int.not_lt.mp z1) z2))), fun z2 => zAt.go (zAt.go (⟨rfl, Or.inl ⟨4, zFin.g hF (n := 2) rfl, zAt.go (zAt.go (⟨rfl, (o1 (Int.not_lt.mp z1) (Int.not_le.mp z2)).1, zlen_lt2 (n := 5040) rfl rfl (o1 (Int.not_lt.mp z1) (Int.not_le.mp z2)).2, zAt.go (zAt.go ((k3 (Int.not_lt.mp z1) (Int.not_le.mp z2))))⟩))⟩⟩))⟩)⟩)⟩⟩)))⟩))
section
variable {X : List Int} {h : zHP} {K : Option zAV → zHP → Prop}
theorem zp_38 (hF : zFin h) {i : Int} (k : K (some (zL (zCnt h i))) h) : zKs X 38 [zR 3, zI i] zSHc h K := by
  refine zKs_show ?_
  apply sg_38_0 hF <;> intros <;> first | omega | (refine ⟨rfl, ?_⟩; unfold zCnt at k; first | (rw [if_pos (by omega)] at k; exact k) | (rw [if_neg (by omega)] at k; exact k))
end
theorem sg_155_0 {X : List Int} {h : zHP} {Q : zPO} {x1 : Int} (hF : zFin h) (k1 : (x1 < 0) → Q (some (zL 0)) zSHc h) (k2 : (0 ≤ x1) → (800 ≤ x1) → Q (some (zL 0)) zSHc h) (o1 : (0 ≤ x1) → (x1 < 800) → 0 ≤ x1 ∧ x1 < 800) (k3 : (0 ≤ x1) → (x1 < 800) → Q (some (zL (h 25 x1.toNat))) zSHc h) : zAt X 155 0 0 0 [some (zR 24), some (zI x1)] [] zSHc h Q :=
  zAt.go (zAt.go (⟨fun z1 => zAt.go (zAt.go ((k1 z1))), fun z1 => zAt.go (zAt.go (zAt.go (⟨rfl, Or.inl ⟨25, zFin.g hF (n := 17) rfl, zAt.go (⟨Nat.le_of_ble_eq_true rfl, zAt.go (⟨fun z2 => zAt.go (zAt.go ((k2 (Int.not_lt.mp z1) z2))), fun z2 => zAt.go (zAt.go (⟨rfl, Or.inl ⟨25, zFin.g hF (n := 17) rfl, zAt.go (zAt.go (⟨rfl, (o1 (Int.not_lt.mp z1) (Int.not_le.mp z2)).1, zlen_lt2 (n := 800) rfl rfl (o1 (Int.not_lt.mp z1) (Int.not_le.mp z2)).2, zAt.go (zAt.go ((k3 (Int.not_lt.mp z1) (Int.not_le.mp z2))))⟩))⟩⟩))⟩)⟩)⟩⟩)))⟩))
section
variable {X : List Int} {h : zHP} {K : Option zAV → zHP → Prop}
theorem zp_155 (hF : zFin h) {i : Int} (k : K (some (zL (zWrd h i))) h) : zKs X 155 [zR 24, zI i] zSHc h K := by
  refine zKs_show ?_
  apply sg_155_0 hF <;> intros <;> first | omega | (refine ⟨rfl, ?_⟩; unfold zWrd at k; first | (rw [if_pos (by omega)] at k; exact k) | (rw [if_neg (by omega)] at k; exact k))
end
theorem sg_45_0 {X : List Int} {h : zHP} {Q : zPO} {x1 : Int} (k1 : (x1 < 0) → Q (some (zI 0)) zSHc h) (k2 : (0 ≤ x1) → (h 40 9 < x1) → Q (some (zI 0)) zSHc h) (k3 : (0 ≤ x1) → (x1 ≤ h 40 9) → Q (some (zI 1)) zSHc h) : zAt X 45 0 0 0 [some (zR 40), some (zI x1)] [] zSHc h Q :=
  zAt.go (zAt.go (⟨fun z1 => zAt.go (zAt.go (⟨Or.inl rfl, (k1 z1)⟩)), fun z1 => zAt.go (zAt.go (zAt.go (⟨rfl, zAt.go (⟨fun z2 => zAt.go (zAt.go (⟨Or.inl rfl, (k2 (Int.not_lt.mp z1) z2)⟩)), fun z2 => zAt.go (zAt.go (zAt.go (⟨Or.inr rfl, (k3 (Int.not_lt.mp z1) (Int.not_lt.mp z2))⟩)))⟩)⟩)))⟩))
section
variable {X : List Int} {h : zHP} {K : Option zAV → zHP → Prop}
theorem zp_45 {j : Int} (k : K (some (zI (if 0 ≤ j ∧ j ≤ h 40 9 then 1 else 0))) h) : zKs X 45 [zR 40, zI j] zSHc h K := by
  refine zKs_show ?_
  apply sg_45_0  <;> intros <;> first | omega | (refine ⟨rfl, ?_⟩; first | exact k | (rw [if_pos (by omega)] at k; exact k) | (rw [if_neg (by omega)] at k; exact k))
end
theorem sg_46_0 {X : List Int} {h : zHP} {Q : zPO} {x1 : Int} (hF : zFin h) (k1 : (x1 < 0) → Q (some (zI 0)) zSHc h) (k2 : (0 ≤ x1) → (h 40 9 ≤ x1) → Q (some (zI 0)) zSHc h) (k3 : (0 ≤ x1) → (x1 < h 40 9) → (40 ≤ x1) → Q (some (zI 0)) zSHc h) (o1 : (0 ≤ x1) → (x1 < h 40 9) → (x1 < 40) → 0 ≤ x1 ∧ x1 < 40) (k4 : (0 ≤ x1) → (x1 < h 40 9) → (x1 < 40) → (¬ h 50 x1.toNat = (-1)) → Q (some (zI 0)) zSHc h) (k5 : (0 ≤ x1) → (x1 < h 40 9) → (x1 < 40) → (h 50 x1.toNat = (-1)) → Q (some (zI 1)) zSHc h) : zAt X 46 0 0 0 [some (zR 40), some (zI x1)] [] zSHc h Q :=
  zAt.go (zAt.go (⟨fun z1 => zAt.go (zAt.go (⟨Or.inl rfl, (k1 z1)⟩)), fun z1 => zAt.go (zAt.go (zAt.go (⟨rfl, zAt.go (⟨fun z2 => zAt.go (zAt.go (⟨Or.inl rfl, (k2 (Int.not_lt.mp z1) z2)⟩)), fun z2 => zAt.go (zAt.go (zAt.go (⟨rfl, Or.inl ⟨50, zFin.g hF (n := 35) rfl, zAt.go (⟨Nat.le_of_ble_eq_true rfl, zAt.go (⟨fun z3 => zAt.go (zAt.go (⟨Or.inl rfl, (k3 (Int.not_lt.mp z1) (Int.not_le.mp z2) z3)⟩)), fun z3 => zAt.go (zAt.go (⟨rfl, Or.inl ⟨50, zFin.g hF (n := 35) rfl, zAt.go (zAt.go (⟨Or.inl rfl, (o1 (Int.not_lt.mp z1) (Int.not_le.mp z2) (Int.not_le.mp z3)).1, zlen_lt2 (n := 40) rfl rfl (o1 (Int.not_lt.mp z1) (Int.not_le.mp z2) (Int.not_le.mp z3)).2, zAt.go (zAt.go (⟨fun z4 => zAt.go (zAt.go (⟨Or.inl rfl, (k4 (Int.not_lt.mp z1) (Int.not_le.mp z2) (Int.not_le.mp z3) z4)⟩)), fun z4 => zAt.go (zAt.go (zAt.go (⟨Or.inr rfl, (k5 (Int.not_lt.mp z1) (Int.not_le.mp z2) (Int.not_le.mp z3) (Classical.not_not.mp z4))⟩)))⟩))⟩))⟩⟩))⟩)⟩)⟩⟩)))⟩)⟩)))⟩))
section
variable {X : List Int} {h : zHP} {K : Option zAV → zHP → Prop}
theorem zp_46 (hF : zFin h) {i : Int} (k : K (some (zI (if 0 ≤ i ∧ i < h 40 9 ∧ i < 40 ∧ h 50 i.toNat = -1 then 1 else 0))) h) : zKs X 46 [zR 40, zI i] zSHc h K := by
  refine zKs_show ?_
  apply sg_46_0 hF <;> intros <;> first | omega | (refine ⟨rfl, ?_⟩; first | exact k | (rw [if_pos (by omega)] at k; exact k) | (rw [if_neg (by omega)] at k; exact k))
end
theorem sg_143_0 {X : List Int} {h : zHP} {Q : zPO} {x0 : Int} (k1 : (x0 < 97) → Q (some (zI 0)) zSHc h) (k2 : (97 ≤ x0) → (122 < x0) → Q (some (zI 0)) zSHc h) (k3 : (97 ≤ x0) → (x0 ≤ 122) → Q (some (zI 1)) zSHc h) : zAt X 143 0 0 0 [some (zI x0)] [] zSHc h Q :=
  zAt.go (zAt.go (zAt.go (⟨fun z1 => zAt.go (zAt.go (⟨Or.inl rfl, (k1 z1)⟩)), fun z1 => zAt.go (zAt.go (zAt.go (⟨fun z2 => zAt.go (zAt.go (⟨Or.inl rfl, (k2 (Int.not_lt.mp z1) z2)⟩)), fun z2 => zAt.go (zAt.go (zAt.go (⟨Or.inr rfl, (k3 (Int.not_lt.mp z1) (Int.not_lt.mp z2))⟩)))⟩)))⟩)))
section
variable {X : List Int} {h : zHP} {K : Option zAV → zHP → Prop}
theorem zp_143 {c : Int} (k : K (some (zI (if 97 ≤ c ∧ c ≤ 122 then 1 else 0))) h) : zKs X 143 [zI c] zSHc h K := by
  refine zKs_show ?_
  apply sg_143_0  <;> intros <;> first | omega | (refine ⟨rfl, ?_⟩; first | exact k | (rw [if_pos (by omega)] at k; exact k) | (rw [if_neg (by omega)] at k; exact k))
end
theorem sg_144_0 {X : List Int} {h : zHP} {Q : zPO} {x0 : Int} (k1 : (x0 < 48) → Q (some (zI 0)) zSHc h) (k2 : (48 ≤ x0) → (57 < x0) → Q (some (zI 0)) zSHc h) (k3 : (48 ≤ x0) → (x0 ≤ 57) → Q (some (zI 1)) zSHc h) : zAt X 144 0 0 0 [some (zI x0)] [] zSHc h Q :=
  zAt.go (zAt.go (zAt.go (⟨fun z1 => zAt.go (zAt.go (⟨Or.inl rfl, (k1 z1)⟩)), fun z1 => zAt.go (zAt.go (zAt.go (⟨fun z2 => zAt.go (zAt.go (⟨Or.inl rfl, (k2 (Int.not_lt.mp z1) z2)⟩)), fun z2 => zAt.go (zAt.go (zAt.go (⟨Or.inr rfl, (k3 (Int.not_lt.mp z1) (Int.not_lt.mp z2))⟩)))⟩)))⟩)))
section
variable {X : List Int} {h : zHP} {K : Option zAV → zHP → Prop}
theorem zp_144 {c : Int} (k : K (some (zI (if 48 ≤ c ∧ c ≤ 57 then 1 else 0))) h) : zKs X 144 [zI c] zSHc h K := by
  refine zKs_show ?_
  apply sg_144_0  <;> intros <;> first | omega | (refine ⟨rfl, ?_⟩; first | exact k | (rw [if_pos (by omega)] at k; exact k) | (rw [if_neg (by omega)] at k; exact k))
end
theorem sg_145_0 {X : List Int} {h : zHP} {Q : zPO} {x0 : Int} (k1 : (x0 = 9) → Q (some (zI 1)) zSHc h) (k2 : (¬ x0 = 9) → (x0 = 10) → Q (some (zI 1)) zSHc h) (k3 : (¬ x0 = 9) → (¬ x0 = 10) → (x0 = 13) → Q (some (zI 1)) zSHc h) (k4 : (¬ x0 = 9) → (¬ x0 = 10) → (¬ x0 = 13) → (¬ x0 = 32) → Q (some (zI 0)) zSHc h) (k5 : (¬ x0 = 9) → (¬ x0 = 10) → (¬ x0 = 13) → (x0 = 32) → Q (some (zI 1)) zSHc h) : zAt X 145 0 0 0 [some (zI x0)] [] zSHc h Q :=
  zAt.go (zAt.go (zAt.go (⟨fun z1 => zAt.go (zAt.go (zAt.go (⟨Or.inr rfl, (k1 z1)⟩))), fun z1 => zAt.go (zAt.go (zAt.go (⟨fun z2 => zAt.go (zAt.go (zAt.go (⟨Or.inr rfl, (k2 z1 z2)⟩))), fun z2 => zAt.go (zAt.go (zAt.go (⟨fun z3 => zAt.go (zAt.go (zAt.go (⟨Or.inr rfl, (k3 z1 z2 z3)⟩))), fun z3 => zAt.go (zAt.go (zAt.go (⟨fun z4 => zAt.go (zAt.go (⟨Or.inl rfl, (k4 z1 z2 z3 z4)⟩)), fun z4 => zAt.go (zAt.go (zAt.go (⟨Or.inr rfl, (k5 z1 z2 z3 (Classical.not_not.mp z4))⟩)))⟩)))⟩)))⟩)))⟩)))
section
variable {X : List Int} {h : zHP} {K : Option zAV → zHP → Prop}
theorem zp_145 {c : Int} (k : K (some (zI (if c = 9 ∨ c = 10 ∨ c = 13 ∨ c = 32 then 1 else 0))) h) : zKs X 145 [zI c] zSHc h K := by
  refine zKs_show ?_
  apply sg_145_0  <;> intros <;> first | omega | (refine ⟨rfl, ?_⟩; first | exact k | (rw [if_pos (by omega)] at k; exact k) | (rw [if_neg (by omega)] at k; exact k))
end
theorem sg_12_0 {X : List Int} {h : zHP} {Q : zPO} {o : Nat} (hp_o : zBit o) (k1 : Q (some (zI (h o 3))) zSHc h) : zAt X 12 0 0 0 [some (zR o)] [] zSHc h Q :=
  zAt.go (zAt.go (⟨zBit.s0 hp_o, zcI (zrd_lo (zBit.l0 hp_o)) (zAt.go (⟨trivial, k1⟩))⟩))
section
variable {X : List Int} {h : zHP} {K : Option zAV → zHP → Prop}
theorem zp_12 {o : Nat} (hp : zBit o) (k : K (some (zI (h o 3))) h) : zKs X 12 [zR o] zSHc h K := sg_12_0 hp ⟨rfl, k⟩
end
theorem sg_5_0 {X : List Int} {h : zHP} {Q : zPO} {o : Nat} (hp_o : zBit o) (k1 : (h o 3 < 7) → Q (some (zL 0)) zSHc h) (k2 : (7 ≤ h o 3) → Q (some (zL (-1))) zSHc h) : zAt X 5 0 0 0 [some (zR o)] [] zSHc h Q :=
  zAt.go (zAt.go (⟨zBit.s0 hp_o, zcI (zrd_lo (zBit.l0 hp_o)) (zAt.go (zAt.go (⟨fun z1 => zAt.go (zAt.go ((k1 z1))), fun z1 => zAt.go (zAt.go (zAt.go ((k2 (Int.not_lt.mp z1)))))⟩)))⟩))
section
variable {X : List Int} {h : zHP} {K : Option zAV → zHP → Prop}
theorem zp_5 {o : Nat} (hp : zBit o) (k : K (some (zL (zHiM (h o 3)))) h) : zKs X 5 [zR o] zSHc h K := by
  refine zKs_show ?_
  apply sg_5_0 hp <;> intros <;> (refine ⟨rfl, ?_⟩; unfold zHiM at k; first | (rw [if_pos (by omega)] at k; exact k) | (rw [if_neg (by omega)] at k; exact k))
end
theorem sg_212_0 {X : List Int} {h : zHP} {Q : zPO} {x1 : Int} (hF : zFin h) (k1 : (h 108 12 ≤ x1) → Q (some (zI 0)) zSHc h) (o1 : (x1 < h 108 12) → 0 ≤ x1 ∧ x1 < 2000) (k2 : (x1 < h 108 12) → Q (some (zI (h 119 x1.toNat))) zSHc h) : zAt X 212 0 0 0 [some (zR 108), some (zI x1)] [] zSHc h Q :=
  zAt.go (zAt.go (zAt.go (⟨rfl, zAt.go (⟨fun z1 => zAt.go (zAt.go (⟨trivial, (k1 z1)⟩)), fun z1 => zAt.go (zAt.go (⟨rfl, Or.inl ⟨119, zFin.g hF (n := 102) rfl, zAt.go (zAt.go (⟨Or.inl rfl, (o1 (Int.not_le.mp z1)).1, zlen_lt2 (n := 2000) rfl rfl (o1 (Int.not_le.mp z1)).2, zAt.go (zAt.go (⟨trivial, (k2 (Int.not_le.mp z1))⟩))⟩))⟩⟩))⟩)⟩)))
section
variable {X : List Int} {h : zHP} {K : Option zAV → zHP → Prop}
theorem zp_212 (hF : zFin h) {i : Int} (o1 : 0 ≤ i ∧ (i < h 108 12 → i < 2000)) (k : K (some (zI (zByM h i))) h) : zKs X 212 [zR 108, zI i] zSHc h K := by
  refine zKs_show ?_
  apply sg_212_0 hF <;> intros <;> first | omega | (refine ⟨rfl, ?_⟩; unfold zByM at k; first | (rw [if_pos (by omega)] at k; exact k) | (rw [if_neg (by omega)] at k; exact k))
end
theorem sg_213_0 {X : List Int} {h : zHP} {Q : zPO} {x1 : Int} (hF : zFin h) (o1 : 0 ≤ x1 ∧ (x1 < h 108 12 → x1 < 2000)) (k1 : (zByM h x1 < 97) → Q (some (zI 0)) zSHc h) (k2 : (97 ≤ zByM h x1) → (122 < zByM h x1) → Q (some (zI 0)) zSHc h) (k3 : (97 ≤ zByM h x1) → (zByM h x1 ≤ 122) → Q (some (zI 1)) zSHc h) : zAt X 213 0 0 0 [some (zR 108), some (zI x1)] [] zSHc h Q :=
  zAt.go (zAt.go (zAt.go (zcall1 (r1 := 212) (a := [zR 108, zI x1]) (r := []) rfl rfl ⟨Nat.le_of_ble_eq_true rfl, Nat.le_of_ble_eq_true rfl, Nat.le_of_ble_eq_true rfl⟩ rfl rfl rfl rfl (zp_212 hF o1 (zAt.go (zAt.go (⟨fun z1 => zAt.go (zAt.go (⟨Or.inl rfl, (k1 z1)⟩)), fun z1 => zAt.go (zAt.go (zAt.go (zcall1 (r1 := 212) (a := [zR 108, zI x1]) (r := []) rfl rfl ⟨Nat.le_of_ble_eq_true rfl, Nat.le_of_ble_eq_true rfl, Nat.le_of_ble_eq_true rfl⟩ rfl rfl rfl rfl (zp_212 hF o1 (zAt.go (zAt.go (⟨fun z2 => zAt.go (zAt.go (⟨Or.inl rfl, (k2 (Int.not_lt.mp z1) z2)⟩)), fun z2 => zAt.go (zAt.go (zAt.go (⟨Or.inr rfl, (k3 (Int.not_lt.mp z1) (Int.not_lt.mp z2))⟩)))⟩)))))))⟩)))))))
section
variable {X : List Int} {h : zHP} {K : Option zAV → zHP → Prop}
theorem zp_213 (hF : zFin h) {i : Int} (o1 : 0 ≤ i ∧ (i < h 108 12 → i < 2000)) (k : K (some (zI (if 97 ≤ zByM h i ∧ zByM h i ≤ 122 then 1 else 0))) h) : zKs X 213 [zR 108, zI i] zSHc h K := by
  refine zKs_show ?_
  apply sg_213_0 hF <;> intros <;> first | omega | (refine ⟨rfl, ?_⟩; first | exact k | (rw [if_pos (by omega)] at k; exact k) | (rw [if_neg (by omega)] at k; exact k))
end
theorem sg_214_0 {X : List Int} {h : zHP} {Q : zPO} {x1 : Int} (hF : zFin h) (o1 : 0 ≤ x1 ∧ (x1 < h 108 12 → x1 < 2000)) (k1 : (zByM h x1 < 48) → Q (some (zI 0)) zSHc h) (k2 : (48 ≤ zByM h x1) → (57 < zByM h x1) → Q (some (zI 0)) zSHc h) (k3 : (48 ≤ zByM h x1) → (zByM h x1 ≤ 57) → Q (some (zI 1)) zSHc h) : zAt X 214 0 0 0 [some (zR 108), some (zI x1)] [] zSHc h Q :=
  zAt.go (zAt.go (zAt.go (zcall1 (r1 := 212) (a := [zR 108, zI x1]) (r := []) rfl rfl ⟨Nat.le_of_ble_eq_true rfl, Nat.le_of_ble_eq_true rfl, Nat.le_of_ble_eq_true rfl⟩ rfl rfl rfl rfl (zp_212 hF o1 (zAt.go (zAt.go (⟨fun z1 => zAt.go (zAt.go (⟨Or.inl rfl, (k1 z1)⟩)), fun z1 => zAt.go (zAt.go (zAt.go (zcall1 (r1 := 212) (a := [zR 108, zI x1]) (r := []) rfl rfl ⟨Nat.le_of_ble_eq_true rfl, Nat.le_of_ble_eq_true rfl, Nat.le_of_ble_eq_true rfl⟩ rfl rfl rfl rfl (zp_212 hF o1 (zAt.go (zAt.go (⟨fun z2 => zAt.go (zAt.go (⟨Or.inl rfl, (k2 (Int.not_lt.mp z1) z2)⟩)), fun z2 => zAt.go (zAt.go (zAt.go (⟨Or.inr rfl, (k3 (Int.not_lt.mp z1) (Int.not_lt.mp z2))⟩)))⟩)))))))⟩)))))))
section
variable {X : List Int} {h : zHP} {K : Option zAV → zHP → Prop}
theorem zp_214 (hF : zFin h) {i : Int} (o1 : 0 ≤ i ∧ (i < h 108 12 → i < 2000)) (k : K (some (zI (if 48 ≤ zByM h i ∧ zByM h i ≤ 57 then 1 else 0))) h) : zKs X 214 [zR 108, zI i] zSHc h K := by
  refine zKs_show ?_
  apply sg_214_0 hF <;> intros <;> first | omega | (refine ⟨rfl, ?_⟩; first | exact k | (rw [if_pos (by omega)] at k; exact k) | (rw [if_neg (by omega)] at k; exact k))
end
theorem sg_221_0 {X : List Int} {h : zHP} {Q : zPO} {x1 : Int} (hF : zFin h) (o1 : 0 ≤ h 108 19 ∧ h 108 19 < 2001) (k1 : (¬ h 120 ((h 108 19).toNat) = 2) → Q (some (zI 0)) zSHc h) (k2 : (h 120 ((h 108 19).toNat) = 2) → (¬ h 122 ((h 108 19).toNat) = x1) → Q (some (zI 0)) zSHc h) (k3 : (h 120 ((h 108 19).toNat) = 2) → (h 122 ((h 108 19).toNat) = x1) → Q (some (zI 1)) zSHc h) : zAt X 221 0 0 0 [some (zR 108), some (zI x1)] [] zSHc h Q :=
  zAt.go (zAt.go (⟨rfl, Or.inl ⟨120, zFin.g hF (n := 103) rfl, zAt.go (zAt.go (⟨rfl, zAt.go (⟨Or.inl rfl, o1.1, zlen_lt2 (n := 2001) rfl rfl o1.2, zAt.go (zAt.go (⟨fun z1 => zAt.go (zAt.go (⟨Or.inl rfl, (k1 z1)⟩)), fun z1 => zAt.go (zAt.go (⟨rfl, Or.inl ⟨122, zFin.g hF (n := 105) rfl, zAt.go (zAt.go (⟨rfl, zAt.go (⟨Or.inl rfl, o1.1, zlen_lt2 (n := 2001) rfl rfl o1.2, zAt.go (zAt.go (⟨fun z2 => zAt.go (zAt.go (⟨Or.inl rfl, (k2 (Classical.not_not.mp z1) z2)⟩)), fun z2 => zAt.go (zAt.go (zAt.go (⟨Or.inr rfl, (k3 (Classical.not_not.mp z1) (Classical.not_not.mp z2))⟩)))⟩))⟩)⟩))⟩⟩))⟩))⟩)⟩))⟩⟩))
section
variable {X : List Int} {h : zHP} {K : Option zAV → zHP → Prop}
theorem zp_221 (hF : zFin h) {w : Int} (o1 : 0 ≤ h 108 19 ∧ h 108 19 < 2001) (k : K (some (zI (if h 120 (h 108 19).toNat = 2 ∧ h 122 (h 108 19).toNat = w then 1 else 0))) h) : zKs X 221 [zR 108, zI w] zSHc h K := by
  refine zKs_show ?_
  apply sg_221_0 hF <;> intros <;> first | omega | (refine ⟨rfl, ?_⟩; first | exact k | (rw [if_pos (by omega)] at k; exact k) | (rw [if_neg (by omega)] at k; exact k))
end
theorem sg_222_0 {X : List Int} {h : zHP} {Q : zPO} {x1 : Int} (hF : zFin h) (o1 : 0 ≤ h 108 19 ∧ h 108 19 < 2001) (k1 : (¬ h 120 ((h 108 19).toNat) = 3) → Q (some (zI 0)) zSHc h) (k2 : (h 120 ((h 108 19).toNat) = 3) → (¬ h 122 ((h 108 19).toNat) = x1) → Q (some (zI 0)) zSHc h) (k3 : (h 120 ((h 108 19).toNat) = 3) → (h 122 ((h 108 19).toNat) = x1) → Q (some (zI 1)) zSHc h) : zAt X 222 0 0 0 [some (zR 108), some (zI x1)] [] zSHc h Q :=
  zAt.go (zAt.go (⟨rfl, Or.inl ⟨120, zFin.g hF (n := 103) rfl, zAt.go (zAt.go (⟨rfl, zAt.go (⟨Or.inl rfl, o1.1, zlen_lt2 (n := 2001) rfl rfl o1.2, zAt.go (zAt.go (⟨fun z1 => zAt.go (zAt.go (⟨Or.inl rfl, (k1 z1)⟩)), fun z1 => zAt.go (zAt.go (⟨rfl, Or.inl ⟨122, zFin.g hF (n := 105) rfl, zAt.go (zAt.go (⟨rfl, zAt.go (⟨Or.inl rfl, o1.1, zlen_lt2 (n := 2001) rfl rfl o1.2, zAt.go (zAt.go (⟨fun z2 => zAt.go (zAt.go (⟨Or.inl rfl, (k2 (Classical.not_not.mp z1) z2)⟩)), fun z2 => zAt.go (zAt.go (zAt.go (⟨Or.inr rfl, (k3 (Classical.not_not.mp z1) (Classical.not_not.mp z2))⟩)))⟩))⟩)⟩))⟩⟩))⟩))⟩)⟩))⟩⟩))
section
variable {X : List Int} {h : zHP} {K : Option zAV → zHP → Prop}
theorem zp_222 (hF : zFin h) {w : Int} (o1 : 0 ≤ h 108 19 ∧ h 108 19 < 2001) (k : K (some (zI (if h 120 (h 108 19).toNat = 3 ∧ h 122 (h 108 19).toNat = w then 1 else 0))) h) : zKs X 222 [zR 108, zI w] zSHc h K := by
  refine zKs_show ?_
  apply sg_222_0 hF <;> intros <;> first | omega | (refine ⟨rfl, ?_⟩; first | exact k | (rw [if_pos (by omega)] at k; exact k) | (rw [if_neg (by omega)] at k; exact k))
end
theorem sg_243_0 {X : List Int} {h : zHP} {Q : zPO} {x1 : Int} (k1 : (x1 < 0) → Q (some (zI 0)) zSHc h) (k2 : (0 ≤ x1) → (h 108 0 ≤ x1) → Q (some (zI 0)) zSHc h) (k3 : (0 ≤ x1) → (x1 < h 108 0) → Q (some (zI 1)) zSHc h) : zAt X 243 0 0 0 [some (zR 108), some (zI x1)] [] zSHc h Q :=
  zAt.go (zAt.go (⟨fun z1 => zAt.go (zAt.go (⟨Or.inl rfl, (k1 z1)⟩)), fun z1 => zAt.go (zAt.go (zAt.go (⟨rfl, zAt.go (⟨fun z2 => zAt.go (zAt.go (⟨Or.inl rfl, (k2 (Int.not_lt.mp z1) z2)⟩)), fun z2 => zAt.go (zAt.go (zAt.go (⟨Or.inr rfl, (k3 (Int.not_lt.mp z1) (Int.not_le.mp z2))⟩)))⟩)⟩)))⟩))
section
variable {X : List Int} {h : zHP} {K : Option zAV → zHP → Prop}
theorem zp_243 {t : Int} (k : K (some (zI (if 0 ≤ t ∧ t < h 108 0 then 1 else 0))) h) : zKs X 243 [zR 108, zI t] zSHc h K := by
  refine zKs_show ?_
  apply sg_243_0  <;> intros <;> first | omega | (refine ⟨rfl, ?_⟩; first | exact k | (rw [if_pos (by omega)] at k; exact k) | (rw [if_neg (by omega)] at k; exact k))
end
theorem sg_251_0 {X : List Int} {h : zHP} {Q : zPO} {x0 : Int} (k1 : (x0 < 2) → Q (some (zI 0)) zSHc h) (k2 : (2 ≤ x0) → (7 < x0) → Q (some (zI 0)) zSHc h) (k3 : (2 ≤ x0) → (x0 ≤ 7) → Q (some (zI 1)) zSHc h) : zAt X 251 0 0 0 [some (zI x0)] [] zSHc h Q :=
  zAt.go (zAt.go (zAt.go (⟨fun z1 => zAt.go (zAt.go (⟨Or.inl rfl, (k1 z1)⟩)), fun z1 => zAt.go (zAt.go (zAt.go (⟨fun z2 => zAt.go (zAt.go (⟨Or.inl rfl, (k2 (Int.not_lt.mp z1) z2)⟩)), fun z2 => zAt.go (zAt.go (zAt.go (⟨Or.inr rfl, (k3 (Int.not_lt.mp z1) (Int.not_lt.mp z2))⟩)))⟩)))⟩)))
section
variable {X : List Int} {h : zHP} {K : Option zAV → zHP → Prop}
theorem zp_251 {n : Int} (k : K (some (zI (if 2 ≤ n ∧ n ≤ 7 then 1 else 0))) h) : zKs X 251 [zI n] zSHc h K := by
  refine zKs_show ?_
  apply sg_251_0  <;> intros <;> first | omega | (refine ⟨rfl, ?_⟩; first | exact k | (rw [if_pos (by omega)] at k; exact k) | (rw [if_neg (by omega)] at k; exact k))
end
theorem sg_290_0 {X : List Int} {h : zHP} {Q : zPO} {x1 : Int} {x2 : Int} (hF : zFin h) (k1 : (x2 < 0) → Q (some (zI 0)) zSHc h) (o1 : (0 ≤ x2) → 0 ≤ x1 ∧ x1 < 6) (k2 : (0 ≤ x2) → (h 109 x1.toNat ≤ x2) → Q (some (zI 0)) zSHc h) (k3 : (0 ≤ x2) → (x2 < h 109 x1.toNat) → Q (some (zI 1)) zSHc h) : zAt X 290 0 0 0 [some (zR 108), some (zI x1), some (zI x2)] [] zSHc h Q :=
  zAt.go (zAt.go (⟨fun z1 => zAt.go (zAt.go (⟨Or.inl rfl, (k1 z1)⟩)), fun z1 => zAt.go (zAt.go (zAt.go (⟨rfl, Or.inl ⟨109, zFin.g hF (n := 92) rfl, zAt.go (zAt.go (⟨Or.inl rfl, (o1 (Int.not_lt.mp z1)).1, zlen_lt2 (n := 6) rfl rfl (o1 (Int.not_lt.mp z1)).2, zAt.go (⟨fun z2 => zAt.go (zAt.go (⟨Or.inl rfl, (k2 (Int.not_lt.mp z1) z2)⟩)), fun z2 => zAt.go (zAt.go (zAt.go (⟨Or.inr rfl, (k3 (Int.not_lt.mp z1) (Int.not_le.mp z2))⟩)))⟩)⟩))⟩⟩)))⟩))
section
variable {X : List Int} {h : zHP} {K : Option zAV → zHP → Prop}
theorem zp_290 (hF : zFin h) {t v : Int} (o1 : 0 ≤ t ∧ t < 6) (k : K (some (zI (if 0 ≤ v ∧ v < h 109 t.toNat then 1 else 0))) h) : zKs X 290 [zR 108, zI t, zI v] zSHc h K := by
  refine zKs_show ?_
  apply sg_290_0 hF <;> intros <;> first | omega | (refine ⟨rfl, ?_⟩; first | exact k | (rw [if_pos (by omega)] at k; exact k) | (rw [if_neg (by omega)] at k; exact k))
end
theorem sg_281_0 {X : List Int} {h : zHP} {Q : zPO} {x0 : Int} {x1 : Int} (o1 : (x0 ≤ x1) → -2147483648 ≤ x1 - x0 ∧ x1 - x0 < 2147483648) (k1 : (x0 ≤ x1) → Q (some (zI (x1 - x0))) zSHc h) (o2 : (x1 < x0) → -2147483648 ≤ x0 - x1 ∧ x0 - x1 < 2147483648) (k2 : (x1 < x0) → Q (some (zI (x0 - x1))) zSHc h) : zAt X 281 0 0 0 [some (zI x0), some (zI x1)] [] zSHc h Q :=
  zAt.go (zAt.go (zAt.go (⟨fun z1 => zAt.go (zAt.go (zAt.go (zcI (zw_id (o1 z1).1 (o1 z1).2) (zAt.go (⟨trivial, (k1 z1)⟩))))), fun z1 => zAt.go (zAt.go (zAt.go (zcI (zw_id (o2 (Int.not_le.mp z1)).1 (o2 (Int.not_le.mp z1)).2) (zAt.go (zAt.go (⟨trivial, (k2 (Int.not_le.mp z1))⟩))))))⟩)))
section
variable {X : List Int} {h : zHP} {K : Option zAV → zHP → Prop}
theorem zp_281 {x y : Int} (o1 : -1000 < x ∧ x < 1000) (o2 : -1000 < y ∧ y < 1000) (k : K (some (zI (zapart x y))) h) : zKs X 281 [zI x, zI y] zSHc h K := by
  refine zKs_show ?_
  apply sg_281_0  <;> intros <;> first | omega | (refine ⟨rfl, ?_⟩; unfold zapart at k; first | (rw [if_pos (by omega)] at k; exact k) | (rw [if_neg (by omega)] at k; exact k))
end
theorem sg_304_0 {X : List Int} {h : zHP} {Q : zPO} {x0 : Int} {x1 : Int} (o1 : (¬ x0 = x1) → -2147483648 ≤ x1 + 1 ∧ x1 + 1 < 2147483648) (k1 : (¬ x0 = x1) → (¬ x0 = x1 + 1) → Q (some (zI x0)) zSHc h) (k2 : (¬ x0 = x1) → (x0 = x1 + 1) → Q (some (zI x1)) zSHc h) (o2 : (x0 = x1) → -2147483648 ≤ x1 + 1 ∧ x1 + 1 < 2147483648) (k3 : (x0 = x1) → Q (some (zI (x1 + 1))) zSHc h) : zAt X 304 0 0 0 [some (zI x0), some (zI x1)] [] zSHc h Q :=
  zAt.go (zAt.go (zAt.go (⟨fun z1 => zAt.go (zAt.go (zAt.go (zAt.go (zcI (zw_id (o1 z1).1 (o1 z1).2) (zAt.go (⟨fun z2 => zAt.go (zAt.go (⟨trivial, (k1 z1 z2)⟩)), fun z2 => zAt.go (zAt.go (zAt.go (⟨trivial, (k2 z1 (Classical.not_not.mp z2))⟩)))⟩)))))), fun z1 => zAt.go (zAt.go (zAt.go (zcI (zw_id (o2 (Classical.not_not.mp z1)).1 (o2 (Classical.not_not.mp z1)).2) (zAt.go (zAt.go (⟨trivial, (k3 (Classical.not_not.mp z1))⟩))))))⟩)))
section
variable {X : List Int} {h : zHP} {K : Option zAV → zHP → Prop}
theorem zp_304 {x y : Int} (o1 : 0 ≤ y ∧ y < 1000) (k : K (some (zI (zbeside x y))) h) : zKs X 304 [zI x, zI y] zSHc h K := by
  refine zKs_show ?_
  apply sg_304_0  <;> intros <;> first | omega | (refine ⟨rfl, ?_⟩; unfold zbeside at k; first | exact k | (rw [if_pos (by omega)] at k; exact k) | (rw [if_neg (by omega), if_pos (by omega)] at k; exact k) | (rw [if_neg (by omega), if_neg (by omega)] at k; exact k))
end
theorem sg_299_0 {X : List Int} {h : zHP} {Q : zPO} {x1 : Int} {x2 : Int} (k1 : (¬ (0 ≤ x1 ∧ x1 < h 108 0)) → Q (some (zI 0)) zSHc h) (k2 : (0 ≤ x1 ∧ x1 < h 108 0) → (x2 < 0) → Q (some (zI 0)) zSHc h) (k3 : (0 ≤ x1 ∧ x1 < h 108 0) → (0 ≤ x2) → (h 108 7 < x2) → Q (some (zI 0)) zSHc h) (k4 : (0 ≤ x1 ∧ x1 < h 108 0) → (0 ≤ x2) → (x2 ≤ h 108 7) → Q (some (zI 1)) zSHc h) : zAt X 299 0 0 0 [some (zR 108), some (zI x1), some (zI x2)] [] zSHc h Q :=
  zAt.go (zAt.go (zAt.go (zcall1 (r1 := 243) (a := [zR 108, zI x1]) (r := []) rfl rfl ⟨Nat.le_of_ble_eq_true rfl, Nat.le_of_ble_eq_true rfl, Nat.le_of_ble_eq_true rfl⟩ rfl rfl rfl rfl (zp_243 (zAt.go (⟨fun z1 => zAt.go (zAt.go (⟨Or.inl rfl, (k1 (zb0.mp z1))⟩)), fun z1 => zAt.go (zAt.go (⟨fun z2 => zAt.go (zAt.go (⟨Or.inl rfl, (k2 (zb1.mp z1) z2)⟩)), fun z2 => zAt.go (zAt.go (zAt.go (⟨rfl, zAt.go (⟨fun z3 => zAt.go (zAt.go (⟨Or.inl rfl, (k3 (zb1.mp z1) (Int.not_lt.mp z2) z3)⟩)), fun z3 => zAt.go (zAt.go (zAt.go (⟨Or.inr rfl, (k4 (zb1.mp z1) (Int.not_lt.mp z2) (Int.not_lt.mp z3))⟩)))⟩)⟩)))⟩))⟩))))))
section
variable {X : List Int} {h : zHP} {K : Option zAV → zHP → Prop}
theorem zp_299 {t j : Int} (k : K (some (zI (if (0 ≤ t ∧ t < h 108 0) ∧ 0 ≤ j ∧ j ≤ h 108 7 then 1 else 0))) h) : zKs X 299 [zR 108, zI t, zI j] zSHc h K := by
  refine zKs_show ?_
  apply sg_299_0  <;> intros <;> first | omega | (refine ⟨rfl, ?_⟩; first | exact k | (rw [if_pos (by omega)] at k; exact k) | (rw [if_neg (by omega)] at k; exact k))
end
