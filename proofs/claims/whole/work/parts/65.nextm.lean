/-- the ways of all that bring a number to a leg -/
def zlk (n : Nat) (W : Nat → Nat) (v q : Nat) : Nat := zsu (fun u => if zp n u v = q then W u else 0) (zfac n)
def zmst (n : Nat) (W : Nat → Nat) (v : Nat) : Nat → Nat
  | 0 => 0
  | q + 1 => max (zmst n W v q) (zlk n W v q)
def zbst (n : Nat) (W : Nat → Nat) : Nat → Int × Nat
  | 0 => (-1, 0)
  | v + 1 => if 0 ≤ (zbst n W v).1 ∧ (zbst n W v).2 ≤ zmst n W v n then zbst n W v else ((v : Int), zmst n W v n)
theorem zlk_le {n : Nat} {W : Nat → Nat} {v q i : Nat} (hi : i ≤ zfac n) (hb : zsu W (zfac n) ≤ 1099511627776) : zsu (fun u => if zp n u v = q then W u else 0) i ≤ 1099511627776 := by
  have h1 := zsu_mono (f := fun u => if zp n u v = q then W u else 0) (g := W) (n := i) (fun u _ => by
    show (if zp n u v = q then _ else 0) ≤ _
    split
    · exact Nat.le_refl _
    · exact Nat.zero_le _)
  have h2 := zsu_up (f := W) hi
  omega
theorem zfw_sum {n m j : Nat} {e : zel} {g : Nat → Int × Int × Int × Int} {t : Int} (hl : zlok n m e) : zsu (zfw n e m g t j) (zfac n) ≤ 1099511627776 := by
  have a1 := zww_lt hl (zfac_pos n) (P := fun _ => True) (Nat.le_refl _)
  have a2 := zsu_mono (f := zfw n e m g t j) (g := fun w => if True then zww n e 0 m w else 0) (n := zfac n) (fun i _ => by rw [if_pos trivial]; exact zfw_le)
  omega
section
variable {X : List Int} {h : zHP} {K : Option zAV → zHP → Prop} {N G : Nat} {A : Nat → Nat × Nat × zel} {g : Nat → Int × Int × Int × Int}
/-- likelyOf -/
theorem cm_301 {n v q : Nat} {W : Nat → Nat} {x y : Int} (F : zFin h) (MO : zMO h n) (hn : n ≤ 7) (H : ∀ u, u < zfac n → h 148 u = (W u : Int)) (hb : zsu W (zfac n) ≤ 1099511627776) (hv : v < n) (hq : q < n) (hx : x = (v : Int)) (hy : y = (q : Int)) (k : K (some (zL (zlk n W v q : Int))) h) : zC X 301 [zR 108, zI x, zI y] h K := by
  have h5 := zfac7 hn
  have e39 := MO.1
  have loop : ∀ (p i : Nat) (s z : Int), zfac n - i = p → i ≤ zfac n → z = (i : Int) → s = (zsu (fun u => if zp n u v = q then W u else 0) i : Int) → zAt X 301 5 0 0 [some (zR 108), some (zI x), some (zI y), some (zL s), none, some (zI z)] [] zSHc h (fun v sh' h' => sh' = zSHc ∧ K v h') := by
    intro p
    induction p with
    | zero =>
      intro i s z hp hi hz hs
      have ei : i = zfac n := by omega
      rw [ei] at hs
      have kx : K (some (zL s)) h := by rw [hs]; exact k
      clear H k hs
      apply sg_301_5 F <;> intros <;> (try omega)
      exact ⟨rfl, kx⟩
    | succ p ih =>
      intro i s z hp hi hz hs
      have hi' : i < zfac n := by omega
      have r1 : h 136 (7 * z + y).toNat = (zr n i q : Int) := by
        rw [show (7 * z + y).toNat = 7 * i + q by omega]; exact MO.2.1 i hi' _ hq
      have iff1 : zr n i q = v ↔ zp n i v = q := ⟨fun e => zp_eq hi' hq e, fun e => by rw [← e]; exact zr_p hi' hv⟩
      have es : zsu (fun u => if zp n u v = q then W u else 0) (i + 1) = zsu (fun u => if zp n u v = q then W u else 0) i + (if zp n i v = q then W i else 0) := rfl
      have b1 := zlk_le (v := v) (q := q) (show i + 1 ≤ zfac n by omega) hb
      have w1 : h 148 z.toNat = (W i : Int) := by rw [show z.toNat = i by omega]; exact H i hi'
      have nx := ih (i + 1)
      by_cases c : zp n i v = q
      · have r2 := iff1.mpr c
        rw [if_pos c] at es
        have nx1 := nx (s + h 148 z.toNat) (z + 1) (by omega) (by omega) (by omega) (by rw [es, w1, hs]; omega)
        clear nx ih H k iff1 MO
        apply sg_301_5 F <;> intros <;> (try omega)
        all_goals exact nx1
      · have r2 : ¬ zr n i q = v := fun z => c (iff1.mp z)
        rw [if_neg c] at es
        have nx1 := nx s (z + 1) (by omega) (by omega) (by omega) (by rw [es, hs]; omega)
        clear nx ih H k iff1 MO
        apply sg_301_5 F <;> intros <;> (try omega)
        all_goals exact nx1
  exact sg_301_0 (loop _ 0 0 0 rfl (by omega) rfl rfl)
/-- likely -/
theorem cm_302 {t j v q : Int} (F : zFin h) (M : zMS h N A) (L : zML h) (g0 : zGM h G g) (V : zGV N A G g) (k0 : (∀ u : Nat, u < N → t = (u : Int) → 0 ≤ j → j ≤ (G : Int) → 0 ≤ v → v < ((A u).1 : Int) → 0 ≤ q → q < ((A u).1 : Int) → False) → K (some (zL (-1))) h) (k1 : ∀ u : Nat, u < N → t = (u : Int) → 0 ≤ j → j ≤ (G : Int) → 0 ≤ v → v < ((A u).1 : Int) → 0 ≤ q → q < ((A u).1 : Int) → ∀ h', zLz h h' → K (some (zL (zlk (A u).1 (zfw (A u).1 (A u).2.2 (A u).2.1 g t j.toNat) v.toNat q.toNat : Int))) h') : zC X 302 [zR 108, zI t, zI j, zI v, zI q] h K := by
  have hN := M.2.1
  have h0 := M.1
  have h7 := g0.1
  by_cases ct : (0 ≤ t ∧ t < (N : Int)) ∧ 0 ≤ j ∧ j ≤ (G : Int)
  · obtain ⟨u, hu⟩ : ∃ u : Nat, t = (u : Int) := ⟨t.toNat, by omega⟩
    have hu' : u < N := by omega
    obtain ⟨n1, n2⟩ := M.n hu' hu
    have hl := (M.2.2 u hu').1
    have un : ∀ v : Nat, t = (v : Int) → v = u := fun v hv => by omega
    have no : ¬ ((0 ≤ v ∧ v < ((A u).1 : Int)) ∧ 0 ≤ q ∧ q < ((A u).1 : Int)) → zSHc = zSHc ∧ K (some (zL (-1))) h := fun c => ⟨rfl, k0 fun u2 _ a _ _ b1 b2 b3 b4 => by
      rw [un u2 a] at b2 b4
      exact c ⟨⟨b1, b2⟩, b3, b4⟩⟩
    refine sg_302_0 F (fun c => by omega) (fun _ => by omega) (fun _ c => no (by rw [n1] at c; exact fun z => c z.1)) (fun _ c1 c2 => ?_) (fun _ _ c => no (by rw [n1] at c; exact fun z => c z.2))
    rw [n1] at c1 c2
    refine cm_298 F M L g0 V hu' hu (j := j.toNat) (by omega) (by omega) fun h' y MO W => sg_302_38c ?_
    exact cm_301 y.1 MO hl.1.2 W (zfw_sum hl) (v := v.toNat) (q := q.toNat) (by omega) (by omega) (by omega) (by omega) (sg_302_47c ⟨rfl, k1 u hu' hu (by omega) (by omega) c1.1 c1.2 c2.1 c2.2 h' y⟩)
  · exact sg_302_0 F (fun _ => ⟨rfl, k0 fun u a1 a2 a3 a4 _ _ _ _ => by omega⟩) (fun c => by omega) (fun c => by omega) (fun c => by omega) (fun c => by omega)
/-- next -/
theorem cm_303 {t j : Int} (F : zFin h) (M : zMS h N A) (L : zML h) (g0 : zGM h G g) (V : zGV N A G g) (k0 : (∀ u : Nat, u < N → t = (u : Int) → 0 ≤ j → j ≤ (G : Int) → False) → K (some (zI (-1))) h) (k1 : ∀ u : Nat, u < N → t = (u : Int) → 0 ≤ j → j ≤ (G : Int) → ∀ h', zLz h h' → K (some (zI (zbst (A u).1 (zfw (A u).1 (A u).2.2 (A u).2.1 g t j.toNat) (A u).1).1)) h') : zC X 303 [zR 108, zI t, zI j] h K := by
  have hN := M.2.1
  have h0 := M.1
  have h7 := g0.1
  refine sg_303_0 (fun c => ?_) (fun c => ⟨rfl, k0 fun u a1 a2 a3 a4 => by omega⟩)
  obtain ⟨u, hu⟩ : ∃ u : Nat, t = (u : Int) := ⟨t.toNat, by omega⟩
  have hu' : u < N := by omega
  have hl := (M.2.2 u hu').1
  refine cm_298 F M L g0 V hu' hu (j := j.toNat) (by omega) (by omega) fun h' y MO H => sg_303_17c ?_
  have kk := k1 u hu' hu (by omega) (by omega) h' y
  have hb := zfw_sum (j := j.toNat) (g := g) (t := t) hl
  obtain ⟨n1, n2⟩ := (M.lz y).n hu' hu
  have hn7 := hl.1.2
  generalize hW : zfw (A u).1 (A u).2.2 (A u).2.1 g t j.toNat = W at *
  generalize hn : (A u).1 = n at *
  have outer : ∀ (p v : Nat) (x5 x6 x8 : Int), n - v = p → v ≤ n → x8 = (v : Int) → x5 = (zbst n W v).1 → x6 = ((zbst n W v).2 : Int) → zAt X 303 27 0 0 [some (zR 108), some (zI t), none, none, none, some (zI x5), some (zL x6), none, some (zI x8), none, none, none] [] zSHc h' (fun v sh' h' => sh' = zSHc ∧ K v h') := by
    intro p
    induction p with
    | zero =>
      intro v x5 x6 x8 hp hv e8 e5 e6
      have ev : v = n := by omega
      rw [ev] at e5
      have kx : K (some (zI x5)) h' := by rw [e5]; exact kk
      exact sg_303_27 y.1 (by omega) (fun _ => ⟨rfl, kx⟩) (fun a => by omega)
    | succ p ih =>
      intro v x5 x6 x8 hp hv e8 e5 e6
      have es : zbst n W (v + 1) = if 0 ≤ (zbst n W v).1 ∧ (zbst n W v).2 ≤ zmst n W v n then zbst n W v else ((v : Int), zmst n W v n) := rfl
      have inner : ∀ (r q : Nat) (x9 x11 : Int), n - q = r → q ≤ n → x11 = (q : Int) → x9 = (zmst n W v q : Int) → zAt X 303 44 0 0 [some (zR 108), some (zI t), none, none, none, some (zI x5), some (zL x6), none, some (zI x8), some (zL x9), none, some (zI x11)] [] zSHc h' (fun v sh' h' => sh' = zSHc ∧ K v h') := by
        intro r
        induction r with
        | zero =>
          intro q x9 x11 hr hq e11 e9
          have eq : q = n := by omega
          rw [eq] at e9
          refine sg_303_44 y.1 (by omega) (fun _ _ => by omega) (fun _ c => ?_) (fun _ _ _ => by omega) (fun _ c d => ?_) (fun _ _ _ => by omega) (fun _ c d => ?_) (fun a => by omega)
          · rw [if_neg (by omega)] at es
            exact ih (v + 1) _ _ _ (by omega) (by omega) (by omega) (by rw [es]; exact e8) (by rw [es]; exact e9)
          · rw [if_neg (by omega)] at es
            exact ih (v + 1) _ _ _ (by omega) (by omega) (by omega) (by rw [es]; exact e8) (by rw [es]; exact e9)
          · rw [if_pos (by omega)] at es
            exact ih (v + 1) _ _ _ (by omega) (by omega) (by omega) (by rw [es]; exact e5) (by rw [es]; exact e6)
        | succ r ir =>
          intro q x9 x11 hr hq e11 e9
          have em : zmst n W v (q + 1) = max (zmst n W v q) (zlk n W v q) := rfl
          refine sg_303_44 y.1 (by omega) (fun a => by omega) (fun a => by omega) (fun a => by omega) (fun a => by omega) (fun a => by omega) (fun a => by omega) (fun _ => ?_)
          refine cm_301 y.1 MO hn7 H hb (show v < n by omega) (show q < n by omega) e8 e11 ?_
          refine sg_303_63c (fun _ => by omega) (fun c => ?_) (fun c => ?_)
          · exact ir (q + 1) _ _ (by omega) (by omega) (by omega) (by omega)
          · refine cm_301 y.1 MO hn7 H hb (show v < n by omega) (show q < n by omega) e8 e11 ?_
            exact sg_303_77c (by omega) (ir (q + 1) _ _ (by omega) (by omega) (by omega) (by omega))
      exact sg_303_27 y.1 (by omega) (fun a => by omega) (fun _ => inner _ 0 0 0 rfl (by omega) rfl rfl)
  exact outer _ 0 (-1) 0 0 rfl (by omega) rfl rfl rfl
end
