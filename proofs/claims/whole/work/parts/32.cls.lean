/-! THE CLASS: its ladders, and the simple calls -/
def zCS (h : zHP) (N s : Nat) (A : Nat → Nat × Nat × zel) : Prop :=
  h 0 12 = (N : Int) ∧ N ≤ 6 ∧ h 0 13 = (s : Int) ∧ (∀ t, t < 6 → h 5 t = ((6 + 3 * t : Nat) : Int)) ∧
  (∀ t, t < N → zlok (A t).1 (A t).2.1 (A t).2.2 ∧ zLC h (6 + 3 * t) (A t).1 (A t).2.1 (A t).2.2 ∧ ((A t).1 : Int) ≤ h 1 1 ∧ 1 ≤ h (6 + 3 * t) 5 ∧ h (6 + 3 * t) 5 ≤ (s : Int)) ∧
  (∀ t u, t < N → u < N → h (6 + 3 * t) 5 = h (6 + 3 * u) 5 → t = u)
theorem zLadT {t : Nat} (ht : t < 6) : zLad (6 + 3 * t) := by unfold zLad; omega
theorem zLC.rw {h : zHP} {o n m : Nat} {e : zel} (L : zLC h o n m e) (hl : zlok n m e) : zRw h o n m (zmb e m) (fun i => zenc (e i)) :=
  ⟨L.1, L.2.1, L.2.2.1, fun i hi _ => ⟨L.2.2.2 i hi, zenc_lt hl hi⟩⟩
def ztn (n : Nat) (x : Nat × Nat × Nat × Nat) : Nat × Nat × Nat × Nat := (if x.1 = 1 then 2 else if x.1 = 2 then 1 else x.1, n - 2 - x.2.1, x.2.2.1, x.2.2.2)
def ztr (n m : Nat) (up tu : Int) (e : zel) : zel := fun j => if tu = 0 then e (if up = 0 then j else m - 1 - j) else ztn n (e (if up = 0 then j else m - 1 - j))
theorem zenc_k {x : Nat × Nat × Nat × Nat} (h : x.1 < 4) : zenc x % 4 = x.1 := by
  unfold zenc
  split <;> omega
theorem zenc_tn {n : Nat} {x : Nat × Nat × Nat × Nat} (hn : n ≤ 7) (h : x.1 < 4 ∧ x.2.1 + 2 ≤ n ∧ (x.1 = 3 → x.2.2.1 ≤ x.2.2.2 ∧ 1 ≤ x.2.2.2 ∧ x.2.2.2 ≤ 4)) : zctn n (zenc x) = zenc (ztn n x) := by
  obtain ⟨k, l, a, b⟩ := x
  obtain ⟨h1, h2, h3⟩ := h
  simp only at h1 h2 h3
  have el : (((n : Int) - 2 - (l : Nat)) % 8).toNat = n - 2 - l := by omega
  unfold zctn ztn zenc
  simp only
  rcases (show k = 0 ∨ k = 1 ∨ k = 2 ∨ k = 3 by omega) with e | e | e | e <;> subst e
  · simp only [show ¬ (0 : Nat) = 3 by decide, if_false, show ¬ (0 : Nat) = 1 by decide, show ¬ (0 : Nat) = 2 by decide]
    rw [show (0 + l * 4 + 0) / 4 % 8 = l by omega, el, show (0 + l * 4 + 0) % 4 = 0 by omega]
    simp only [show ¬ (0 : Nat) = 1 by decide, show ¬ (0 : Nat) = 2 by decide, if_false]
    omega
  · simp only [show ¬ (1 : Nat) = 3 by decide, if_false, if_true, show ¬ (2 : Nat) = 3 by decide]
    rw [show (1 + l * 4 + 0) / 4 % 8 = l by omega, el, show (1 + l * 4 + 0) % 4 = 1 by omega]
    simp only [if_true]
    omega
  · simp only [show ¬ (2 : Nat) = 3 by decide, if_false, if_true, show ¬ (1 : Nat) = 3 by decide, show ¬ (2 : Nat) = 1 by decide]
    rw [show (2 + l * 4 + 0) / 4 % 8 = l by omega, el, show (2 + l * 4 + 0) % 4 = 2 by omega]
    simp only [show ¬ (2 : Nat) = 1 by decide, if_false, if_true]
    omega
  · have h3 := h3 rfl
    simp only [if_true, show ¬ (3 : Nat) = 1 by decide, show ¬ (3 : Nat) = 2 by decide, if_false]
    rw [show (3 + l * 4 + (a * 32 + b * 256)) / 4 % 8 = l by omega, el, show (3 + l * 4 + (a * 32 + b * 256)) % 4 = 3 by omega]
    simp only [show ¬ (3 : Nat) = 1 by decide, show ¬ (3 : Nat) = 2 by decide, if_false]
    omega
theorem zsrc_lt {m j : Nat} {up : Int} (hj : j < m) : (if up = 0 then j else m - 1 - j) < m := by split <;> omega
theorem zctr_enc {n m : Nat} {e : zel} (hl : zlok n m e) {up tu : Int} {j : Nat} (hj : j < m) : zctr n m up tu (fun i => zenc (e i)) j = zenc (ztr n m up tu e j) := by
  unfold zctr ztr
  by_cases c : tu = 0
  · rw [if_pos c, if_pos c]
  · rw [if_neg c, if_neg c]
    exact zenc_tn hl.1.2 (hl.2.2.2 _ (zsrc_lt hj))
theorem zmb_sum (e : zel) : ∀ m, zmb e m = zsu (fun i => if (e i).1 = 3 then 1 else 0) m
  | 0 => rfl
  | m + 1 => by show zmb e m + _ = zsu _ m + _; rw [zmb_sum e m]
theorem ztr_k3 {n m : Nat} {up tu : Int} {e : zel} {j : Nat} : ((ztr n m up tu e j).1 = 3 ↔ (e (if up = 0 then j else m - 1 - j)).1 = 3) := by
  unfold ztr
  by_cases c : tu = 0
  · rw [if_pos c]
  · rw [if_neg c]
    generalize e (if up = 0 then j else m - 1 - j) = x
    unfold ztn
    simp only
    split
    · omega
    · split <;> omega
theorem ztr_mb {n m : Nat} {up tu : Int} {e : zel} : zmb (ztr n m up tu e) m = zmb e m := by
  rw [zmb_sum, zmb_sum]
  have h : zsu (fun i => if (ztr n m up tu e i).1 = 3 then 1 else 0) m = zsu (fun i => if (e (if up = 0 then i else m - 1 - i)).1 = 3 then 1 else 0) m := zsu_congr fun i _ => by
    by_cases c : (e (if up = 0 then i else m - 1 - i)).1 = 3
    · rw [if_pos c, if_pos (ztr_k3.mpr c)]
    · rw [if_neg c, if_neg (fun z => c (ztr_k3.mp z))]
  rw [h]
  exact zsu_perm (r := fun i => if up = 0 then i else m - 1 - i) (g := fun i => if (e i).1 = 3 then 1 else 0) (fun i hi => zsrc_lt hi) (fun i j hi hj hh => by
    by_cases c : up = 0
    · simp only [if_pos c] at hh; exact hh
    · simp only [if_neg c] at hh; omega) (fun v hv => ⟨if up = 0 then v else m - 1 - v, zsrc_lt hv, by
    by_cases c : up = 0
    · simp only [if_pos c]
    · simp only [if_neg c]; omega⟩)
theorem ztr_ok {n m : Nat} {e : zel} (hl : zlok n m e) {up tu : Int} : zlok n m (ztr n m up tu e) := by
  refine ⟨hl.1, hl.2.1, by rw [ztr_mb]; exact hl.2.2.1, fun i hi => ?_⟩
  have h := hl.2.2.2 _ (zsrc_lt (up := up) hi)
  unfold ztr
  by_cases c : tu = 0
  · rw [if_pos c]; exact h
  · rw [if_neg c]
    generalize e (if up = 0 then i else m - 1 - i) = x at h ⊢
    unfold ztn
    have hn := hl.1
    simp only
    refine ⟨?_, by omega, ?_⟩
    · split
      · omega
      · split <;> omega
    · intro z
      split at z
      · omega
      · split at z
        · omega
        · exact h.2.2 z
theorem zc3_mb {n : Nat} {c : Nat → Nat} {e : zel} : ∀ {m : Nat}, (∀ i, i < m → c i = zenc (e i) ∧ (e i).1 < 4) → zc3 c m = zmb e m
  | 0, _ => rfl
  | m + 1, h => by
    show zc3 c m + _ = zmb e m + _
    have h1 := h m (by omega)
    rw [zc3_mb (n := n) (fun i hi => h i (by omega)), h1.1, zenc_k h1.2]
section
variable {X : List Int} {h : zHP} {K : Option zAV → zHP → Prop} {N s : Nat} {A : Nat → Nat × Nat × zel}
/-- found -/
theorem cx_202 {t : Int} (F : zFin h) (S : zCS h N s A) (k0 : ¬ (0 ≤ t ∧ t < (N : Int)) → K (some zN) h) (k1 : ∀ u : Nat, u < N → t = (u : Int) → K (some (zR (6 + 3 * u))) h) : zC X 202 [zR 0, zI t] h K := by
  obtain ⟨s1, s2, s3, s4, -⟩ := S
  by_cases c : 0 ≤ t ∧ t < (N : Int)
  · have e : t.toNat < 6 := by omega
    apply sg_202_0 F (r1 := 6 + 3 * t.toNat) <;> intros <;> (try omega)
    · exact s4 t.toNat e
    · exact ⟨rfl, k1 t.toNat (by omega) (by omega)⟩
  · apply sg_202_0 F (r1 := 6) <;> intros <;> (try omega)
    · exact ⟨rfl, k0 c⟩
    · exact ⟨rfl, k0 c⟩
/-- shelve: where there is no room -/
theorem cx_203n {n : Int} (F : zFin h) (S : zCS h N s A) (hN : N = 6) (k : K (some zN) h) : zC X 203 [zR 0, zI n] h K := by
  obtain ⟨s1, s2, s3, s4, -⟩ := S
  apply sg_203_0 F (r1 := 6) (zLadT (t := 0) (by omega)) <;> intros <;> (try omega)
  exact ⟨rfl, k⟩
/-- shelve -/
theorem cx_203 {n : Nat} (F : zFin h) (T : zOT h) (S : zCS h N s A) (hN : N < 6) (hs : s < 100000) (hn : 2 ≤ n ∧ n ≤ 7) (k : ∀ h', zFin h' → zOT h' → zfr [0, 1, 2, 6 + 3 * N] h h' → h' 0 12 = ((N + 1 : Nat) : Int) → h' 0 13 = ((s + 1 : Nat) : Int) → h' 0 14 = h 0 14 → h' (6 + 3 * N) 2 = (n : Int) → h' (6 + 3 * N) 3 = 0 → h' (6 + 3 * N) 4 = 0 → h' (6 + 3 * N) 5 = ((s + 1 : Nat) : Int) → h 1 1 ≤ h' 1 1 → (n : Int) ≤ h' 1 1 → K (some (zR (6 + 3 * N))) h') : zC X 203 [zR 0, zI n] h K := by
  obtain ⟨s1, s2, s3, s4, -⟩ := S
  have hp := zLadT hN
  have e0 : ¬ 6 + 3 * N = 0 := by omega
  have e1 : ¬ (0 : Nat) = 6 + 3 * N := by omega
  have e2 : ¬ (1 : Nat) = 6 + 3 * N := by omega
  have e3 : ¬ (2 : Nat) = 6 + 3 * N := by omega
  apply sg_203_0 F (r1 := 6 + 3 * N) hp <;> intros <;> (try omega)
  · rw [show (h 0 12).toNat = N by omega]; exact s4 N hN
  · rw [s3]
    generalize hH : zup (zup h 0 12 (h 0 12 + 1)) 0 13 ((s : Int) + 1) = H
    have FH : zFin H := by rw [← hH]; exact (F.up rfl).up rfl
    refine sg_15_0 hp ⟨rfl, ?_⟩
    generalize hG : zup (zup (zup (zup H (6 + 3 * N) 2 (n : Int)) (6 + 3 * N) 5 ((s : Int) + 1)) (6 + 3 * N) 3 0) (6 + 3 * N) 4 0 = G
    have FG : zFin G := by rw [← hG]; exact zLad.up (zLad.up (zLad.up (zLad.up FH hp rfl) hp rfl) hp rfl) hp rfl
    have g : ∀ c, c ≠ 6 + 3 * N → G c = H c := fun c hc => by
      funext j
      rw [← hG, zup_c hc, zup_c hc, zup_c hc, zup_c hc]
    have g2 : ∀ c, c ≠ 0 → H c = h c := fun c hc => by
      funext j
      rw [← hH, zup_c hc, zup_c hc]
    have TG : zOT G := by
      obtain ⟨r, t1, t2, t3, t4⟩ := T
      refine ⟨r, by rw [g 1 (by omega), g2 1 (by omega)]; exact t1, t2, t3, fun j o a b => by rw [g 2 (by omega), g2 2 (by omega)]; exact t4 j o a b⟩
    refine sg_203_66c FG (cx_85 FG TG fun h' F' T' m1 m2 fr => sg_203_74c ⟨rfl, ?_⟩)
    have f0 : h' 0 = G 0 := fr 0 (by simp)
    have f6 : h' (6 + 3 * N) = G (6 + 3 * N) := fr _ (by simp; omega)
    refine k h' F' T' (fun c hc => ?_) ?_ ?_ ?_ ?_ ?_ ?_ ?_ ?_ (m2 ⟨by omega, by omega⟩)
    · simp only [List.mem_cons, List.not_mem_nil, or_false, not_or] at hc
      rw [fr c (by simp; omega), g c hc.2.2.2, g2 c hc.1]
    · rw [f0, g 0 e1, ← hH, zup_k (by decide), zup_eq]; omega
    · rw [f0, g 0 e1, ← hH, zup_eq]; omega
    · rw [f0, g 0 e1, ← hH, zup_k (by decide), zup_k (by decide)]
    · rw [f6, ← hG, zup_k (by decide), zup_k (by decide), zup_k (by decide), zup_eq]
    · rw [f6, ← hG, zup_k (by decide), zup_eq]
    · rw [f6, ← hG, zup_eq]
    · rw [f6, ← hG, zup_k (by decide), zup_k (by decide), zup_eq]; omega
    · have : G 1 = h 1 := by rw [g 1 e2, g2 1 (by decide)]
      rw [this] at m1
      exact m1
end
