section
variable {X : List Int} {h : zHP} {K : Option zAV → zHP → Prop}
theorem zr_lt7 {n o i : Nat} (ho : o < zfac n) (hi : i < n) : zr n o i < n := by
  have := zin_r (zin_lt ho) hi
  rw [zin_in ho] at this
  rw [this]
  exact zp_lt (zin_lt ho) hi
/-- fitsRow -/
theorem cx_52 {n o : Nat} {x : Int} (F : zFin h) (hn : n ≤ 7) (ho : o < zfac n) (hx : x = (n : Int)) (R : ∀ i, i < n → h 52 i = (zr n o i : Int)) (k1 : (∀ i, i < n → h 51 (zr n o i) = -1 ∨ h 51 (zr n o i) = (i : Int)) → K (some (zI 1)) h) (k0 : ¬ (∀ i, i < n → h 51 (zr n o i) = -1 ∨ h 51 (zr n o i) = (i : Int)) → K (some (zI 0)) h) : zC X 52 [zR 40, zI x] h K := by
  subst hx
  have loop : ∀ (q i : Nat) (z : Int), n - i = q → i ≤ n → z = (i : Int) → (∀ j, j < i → h 51 (zr n o j) = -1 ∨ h 51 (zr n o j) = (j : Int)) → zAt X 52 2 0 0 [some (zR 40), some (zI (n : Int)), some (zI z), none] [] zSHc h (fun v sh' h' => sh' = zSHc ∧ K v h') := by
    intro q
    induction q with
    | zero =>
      intro i z hq hi hz B
      have kk : K (some (zI 1)) h := k1 fun j hj => B j (by omega)
      clear k1 k0 B R
      apply sg_52_2 F <;> intros <;> (try omega)
      · exact ⟨rfl, kk⟩
    | succ q ih =>
      intro i z hq hi hz B
      have hi' : i < n := by omega
      have r1 : h 52 z.toNat = (zr n o i : Int) := by rw [show z.toNat = i by omega]; exact R i hi'
      have r2 := zr_lt7 ho hi'
      have r3 : (h 52 z.toNat).toNat = zr n o i := by omega
      have nx : (h 51 (zr n o i) = -1 ∨ h 51 (zr n o i) = (i : Int)) → zAt X 52 2 0 0 [some (zR 40), some (zI (n : Int)), some (zI (z + 1)), none] [] zSHc h (fun v sh' h' => sh' = zSHc ∧ K v h') := fun c => ih (i + 1) _ (by omega) (by omega) (by omega) fun j hj => by
        by_cases d : j = i
        · rw [d]; exact c
        · exact B j (by omega)
      have no : ¬ (h 51 (zr n o i) = -1 ∨ h 51 (zr n o i) = (i : Int)) → zSHc = zSHc ∧ K (some (zI 0)) h := fun c => ⟨rfl, k0 fun all => c (all i hi')⟩
      rw [← r3] at nx no
      clear ih k1 k0 B R
      apply sg_52_2 F <;> intros <;> (try omega)
      · exact nx (by omega)
      · exact nx (by omega)
      · exact no (by omega)
  exact sg_52_0 (loop _ 0 0 rfl (by omega) rfl fun j hj => by omega)
/-- bring -/
theorem cx_53 {n o w : Nat} {f : Nat → Nat → Nat} {x y : Int} (F : zFin h) (hn : n ≤ 7) (ho : o < zfac n) (hx : x = (n : Int)) (hy : y = (w : Int)) (R : ∀ i, i < n → h 52 i = (zr n o i : Int)) (B : ∀ v q, v < 7 → q < 7 → h 53 (7 * v + q) = (f v q : Int)) (hb : ∀ v q, v < 7 → q < 7 → f v q + w ≤ 1099511627776) (k : ∀ h', zFin h' → zfr [53] h h' → (∀ v q, v < 7 → q < 7 → h' 53 (7 * v + q) = ((f v q + (if q < n ∧ zr n o q = v then w else 0) : Nat) : Int)) → K none h') : zC X 53 [zR 40, zI x, zL y] h K := by
  subst hx; subst hy
  have loop : ∀ (r i : Nat) (h1 : zHP) (z : Int), n - i = r → i ≤ n → z = (i : Int) → zFin h1 → zfr [53] h h1 → (∀ v q, v < 7 → q < 7 → h1 53 (7 * v + q) = ((f v q + (if q < i ∧ zr n o q = v then w else 0) : Nat) : Int)) → zAt X 53 3 0 0 [some (zR 40), some (zI (n : Int)), some (zL (w : Int)), none, some (zI z), none] [] zSHc h1 (fun v sh' h' => sh' = zSHc ∧ K v h') := by
    intro r
    induction r with
    | zero =>
      intro i h1 z hq hi hz F1 fr C
      have ei : i = n := by omega
      rw [ei] at C
      have kk := k h1 F1 fr C
      clear k C B R hb
      apply sg_53_3 F1 <;> intros <;> (try omega)
      · exact ⟨rfl, kk⟩
    | succ r ih =>
      intro i h1 z hq hi hz F1 fr C
      have hi' : i < n := by omega
      have r1 : h1 52 z.toNat = (zr n o i : Int) := by rw [show z.toNat = i by omega, fr 52 (by decide)]; exact R i hi'
      have r2 := zr_lt7 ho hi'
      have e1 : (h1 52 z.toNat * 7 + z).toNat = 7 * zr n o i + i := by omega
      have c1 := C (zr n o i) i (by omega) (by omega)
      rw [if_neg (by omega)] at c1
      have b1 := hb (zr n o i) i (by omega) (by omega)
      have c2 : h1 53 (h1 52 z.toNat * 7 + z).toNat = (f (zr n o i) i : Int) := by rw [e1]; exact c1
      have nx : zAt X 53 3 0 0 [some (zR 40), some (zI (n : Int)), some (zL (w : Int)), none, some (zI (z + 1)), none] [] zSHc (zup h1 53 (h1 52 z.toNat * 7 + z).toNat (h1 53 (h1 52 z.toNat * 7 + z).toNat + (w : Int))) (fun v sh' h' => sh' = zSHc ∧ K v h') := by
        rw [c2, e1]
        refine ih (i + 1) _ _ (by omega) (by omega) (by omega) (F1.upA zfa_53) (fr.up (by simp)) fun v q hv hq => ?_
        by_cases d : 7 * v + q = 7 * zr n o i + i
        · have dq : q = i := by omega
          have dv : zr n o i = v := by omega
          rw [d, zup_eq, dq, if_pos ⟨by omega, dv⟩, dv]
          omega
        · rw [zup_k d, C v q hv hq]
          by_cases c3 : q < i ∧ zr n o q = v
          · rw [if_pos c3, if_pos ⟨by omega, c3.2⟩]
          · rw [if_neg c3, if_neg fun c4 => ?_]
            by_cases c5 : q = i
            · rw [c5] at c4; omega
            · exact c3 ⟨by omega, c4.2⟩
      clear ih k C B R hb
      apply sg_53_3 F1 <;> intros <;> (try omega)
      all_goals exact nx
  exact sg_53_0 (loop _ 0 h 0 rfl (by omega) rfl F zfr.rfl fun v q hv hq => by rw [B v q hv hq, if_neg (by omega)]; rfl)
end
