/-! THE CLASS: LOGS -/
section
variable {X : List Int} {h : zHP} {K : Option zAV → zHP → Prop} {G : Nat} {g : Nat → Int × Int × Int × Int}
/-- isVoid -/
theorem cx_50 {k j : Nat} {x y : Int} (F : zFin h) (g0 : ∀ i, i < G → h 50 i = (g i).2.2.2) (hG : G ≤ 40) (hk : k < j) (hj : j ≤ G) (hx : x = (k : Int)) (hy : y = (j : Int)) (k1 : zvd g k j → K (some (zI 1)) h) (k0 : ¬ zvd g k j → K (some (zI 0)) h) : zC X 50 [zR 40, zI x, zI y] h K := by
  have loop : ∀ (q i : Nat) (z : Int), j - i = q → i ≤ j → k < i → z = (i : Int) → (∀ l, k < l → l < i → (g l).2.2.2 ≠ (k : Int)) → zAt X 50 4 0 0 [some (zR 40), some (zI x), some (zI y), some (zI z)] [] zSHc h (fun v sh' h' => sh' = zSHc ∧ K v h') := by
    intro q
    induction q with
    | zero =>
      intro i z hq hi hki hz B
      exact sg_50_4 F (fun _ => ⟨rfl, k0 fun ⟨l, l1, l2, l3⟩ => B l l1 (by omega) l3⟩) (fun a => by omega) (fun a => by omega) (fun a => by omega) (fun a => by omega) (fun a => by omega)
    | succ q ih =>
      intro i z hq hi hki hz B
      have e : h 50 z.toNat = (g i).2.2.2 := by rw [show z.toNat = i by omega]; exact g0 i (by omega)
      refine sg_50_4 F (fun a => by omega) (fun _ a => by omega) (fun _ _ => by omega) (fun _ _ _ => by omega) (fun _ _ c => ?_) (fun _ _ c => ⟨rfl, k1 ⟨i, hki, by omega, by omega⟩⟩)
      refine ih (i + 1) _ (by omega) (by omega) (by omega) (by omega) fun l l1 l2 l3 => ?_
      by_cases d : l = i
      · rw [d] at l3; omega
      · exact B l l1 (by omega) l3
  exact sg_50_0 (by omega) (loop _ (k + 1) _ rfl (by omega) (by omega) (by omega) fun l a b => by omega)
/-- writeRow -/
theorem cx_51 {n o : Nat} {x y : Int} (F : zFin h) (hn : n ≤ 7) (ho : o < zfac n) (hx : x = (n : Int)) (hy : y = (o : Int)) (k : ∀ h', zFin h' → zfr [52] h h' → (∀ i, i < n → h' 52 i = (zr n o i : Int)) → K none h') : zC X 51 [zR 40, zI x, zI y] h K := by
  have h5 := zfac7 hn
  subst hx; subst hy
  have loop : ∀ (q i : Nat) (h1 : zHP) (z : Int), n - i = q → i ≤ n → z = (i : Int) → zFin h1 → zfr [52] h h1 → (∀ j, j < i → h1 52 j = (zr n o j : Int)) → zAt X 51 2 0 0 [some (zR 40), some (zI (n : Int)), some (zI (o : Int)), some (zI z)] [] zSHc h1 (fun v sh' h' => sh' = zSHc ∧ K v h') := by
    intro q
    induction q with
    | zero =>
      intro i h1 z hq hi hz F1 fr B
      exact sg_51_2 F1 (fun _ => ⟨rfl, k h1 F1 fr fun j hj => B j (by omega)⟩) (fun a => by omega) (fun a => by omega)
    | succ q ih =>
      intro i h1 z hq hi hz F1 fr B
      refine sg_51_2 F1 (fun a => by omega) (fun _ a => by omega) (fun _ _ => ?_)
      subst hz
      refine cx_82 hn (by omega) (by omega) (sg_51_31c (by omega) (by omega) ?_)
      rw [← zr_on ho (show i < n by omega)]
      refine ih (i + 1) _ _ (by omega) (by omega) (by omega) (F1.upA zfa_52) (fr.up (by simp)) fun j hj => ?_
      by_cases c : j = i
      · rw [c, Int.toNat_natCast, zup_eq]
      · rw [zup_k (by omega)]; exact B j (by omega)
  exact sg_51_0 (loop _ 0 h 0 rfl (by omega) rfl F zfr.rfl fun j hj => by omega)
/-- waysOnto -/
theorem cx_54 {v q : Nat} {x y : Int} (F : zFin h) (hv : v < 7) (hq : q < 7) (hx : x = (v : Int)) (hy : y = (q : Int)) (k : K (some (zL (h 53 (7 * v + q)))) h) : zC X 54 [zR 40, zI x, zI y] h K := by
  have e : (x * 7 + y).toNat = 7 * v + q := by omega
  rw [← e] at k
  exact sg_54_0 F (by omega) (by omega) (fun a => by omega) (fun _ a => by omega) (fun _ _ => by omega) (fun _ _ => ⟨rfl, k⟩)
/-- fittingWays -/
theorem cx_55 {f : Nat → Nat} (F : zFin h) (H : ∀ q, q < 7 → h 53 q = (f q : Int)) (hb : zsu f 7 ≤ 1099511627776) (k : K (some (zL (zsu f 7 : Nat))) h) : zC X 55 [zR 40] h K := by
  have loop : ∀ (r q : Nat) (x z : Int), 7 - q = r → q ≤ 7 → z = (q : Int) → x = (zsu f q : Nat) → zAt X 55 4 0 0 [some (zR 40), some (zL x), none, some (zI z)] [] zSHc h (fun v sh' h' => sh' = zSHc ∧ K v h') := by
    intro r
    induction r with
    | zero =>
      intro q x z hr hq hz hx
      have eq : q = 7 := by omega
      rw [eq] at hx
      subst hx
      exact sg_55_4 (fun _ => ⟨rfl, k⟩) (fun a => by omega)
    | succ r ih =>
      intro q x z hr hq hz hx
      have es : zsu f (q + 1) = zsu f q + f q := rfl
      have b1 := zsu_up (f := f) (show q + 1 ≤ 7 by omega)
      refine sg_55_4 (fun a => by omega) (fun _ => cx_54 F (v := 0) (q := q) (by omega) (by omega) rfl hz ?_)
      rw [show 7 * 0 + q = q by omega, H q (by omega)]
      exact sg_55_17c (by omega) (by omega) (ih (q + 1) _ _ (by omega) (by omega) (by omega) (by rw [es]; omega))
  exact sg_55_0 (loop _ 0 0 0 rfl (by omega) rfl rfl)
/-- mostWays -/
theorem cx_341 {n v : Nat} {W : Nat → Nat} {y x : Int} (F : zFin h) (hn : n ≤ 7) (hv : v < n) (hy : y = (v : Int)) (hx : x = (n : Int)) (H : ∀ v q, v < n → q < n → h 53 (7 * v + q) = (zlk n W v q : Int)) (k : K (some (zL (zmst n W v n : Nat))) h) : zC X 341 [zR 40, zI y, zI x] h K := by
  have inner : ∀ (r q : Nat) (x3 x5 : Int), n - q = r → q ≤ n → x5 = (q : Int) → x3 = (zmst n W v q : Int) → zAt X 341 5 0 0 [some (zR 40), some (zI y), some (zI x), some (zL x3), none, some (zI x5)] [] zSHc h (fun v sh' h' => sh' = zSHc ∧ K v h') := by
    intro r
    induction r with
    | zero =>
      intro q x3 x5 hr hq e5 e3
      have eq : q = n := by omega
      rw [eq] at e3
      rw [← e3] at k
      exact sg_341_5 (fun _ => ⟨rfl, k⟩) (fun a => by omega)
    | succ r ir =>
      intro q x3 x5 hr hq e5 e3
      have em : zmst n W v (q + 1) = max (zmst n W v q) (zlk n W v q) := rfl
      refine sg_341_5 (fun a => by omega) (fun _ => ?_)
      refine cx_54 F (v := v) (q := q) (by omega) (by omega) hy e5 ?_
      rw [H v q (by omega) (by omega)]
      exact sg_341_19c (by omega) (ir (q + 1) _ _ (by omega) (by omega) (by omega) (by rw [em]; omega))
  exact sg_341_0 (inner _ 0 0 0 rfl (by omega) rfl rfl)
/-- mostTelling -/
theorem cx_56 {n : Nat} {W : Nat → Nat} {x : Int} (F : zFin h) (hn : 1 ≤ n ∧ n ≤ 7) (hx : x = (n : Int)) (H : ∀ v q, v < n → q < n → h 53 (7 * v + q) = (zlk n W v q : Int)) (hb : zsu W (zfac n) ≤ 1099511627776) (k : K (some (zI (zbst n W n).1)) h) : zC X 56 [zR 40, zI x] h K := by
  have outer : ∀ (p v : Nat) (x2 x3 x5 : Int), n - v = p → v ≤ n → x5 = (v : Int) → 0 ≤ x2 → x2 = (zbst n W v).1 → x3 = ((zbst n W v).2 : Int) → zAt X 56 12 0 0 [some (zR 40), some (zI x), some (zI x2), some (zL x3), none, some (zI x5), none, none] [] zSHc h (fun v sh' h' => sh' = zSHc ∧ K v h') := by
    intro p
    induction p with
    | zero =>
      intro v x2 x3 x5 hp hv e5 a2 e2 e3
      have ev : v = n := by omega
      rw [ev] at e2
      rw [← e2] at k
      exact sg_56_12 (fun _ => ⟨rfl, k⟩) (fun a => by omega)
    | succ p ih =>
      intro v x2 x3 x5 hp hv e5 a2 e2 e3
      have es : zbst n W (v + 1) = if 0 ≤ (zbst n W v).1 ∧ (zbst n W v).2 ≤ zmst n W v n then zbst n W v else ((v : Int), zmst n W v n) := rfl
      refine sg_56_12 (fun a => by omega) (fun _ => ?_)
      refine cx_341 F (v := v) (by omega) (by omega) e5 hx H ?_
      refine sg_56_25c (fun _ => by omega) (fun c => ?_) (fun _ => by omega) (fun c => ?_)
      · rw [if_pos (by omega)] at es
        exact ih (v + 1) _ _ _ (by omega) (by omega) (by omega) a2 (by rw [es]; exact e2) (by rw [es]; exact e3)
      · rw [if_neg (by omega)] at es
        exact ih (v + 1) _ _ _ (by omega) (by omega) (by omega) (by omega) (by rw [es]; exact e5) (by rw [es])
  refine sg_56_0 (cx_341 F (v := 0) (by omega) (by omega) rfl hx H (sg_56_8c ?_))
  have e1 : zbst n W 1 = ((0 : Int), zmst n W 0 n) := by
    have es : zbst n W (0 + 1) = if 0 ≤ (zbst n W 0).1 ∧ (zbst n W 0).2 ≤ zmst n W 0 n then zbst n W 0 else (((0 : Nat) : Int), zmst n W 0 n) := rfl
    have e0 : (zbst n W 0).1 = -1 := rfl
    rw [if_neg (by omega)] at es
    exact es
  exact outer _ 1 0 _ 1 rfl (by omega) rfl (by omega) (by rw [e1]) (by rw [e1])
end
