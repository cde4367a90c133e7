/-! LADDERS AS THEY ARE HELD: cells as numbers -/
def zRw (h : zHP) (o n s b : Nat) (c : Nat → Nat) : Prop := h o 2 = (n : Int) ∧ h o 3 = (s : Int) ∧ h o 4 = (b : Int) ∧ ∀ i, i < s → i < 200 → h (o + 1) i = (c i : Int) ∧ c i < 2048
/-- a cell turned -/
def zctn (n c : Nat) : Nat := (if c % 4 = 1 then 2 else if c % 4 = 2 then 1 else c % 4) + (((n : Int) - 2 - (c / 4 % 8 : Nat)) % 8).toNat * 4 + c / 32 % 8 * 32 + c / 256 % 8 * 256
def zctr (n m : Nat) (up tu : Int) (c : Nat → Nat) (j : Nat) : Nat := if tu = 0 then c (if up = 0 then j else m - 1 - j) else zctn n (c (if up = 0 then j else m - 1 - j))
def zc3 (c : Nat → Nat) : Nat → Nat
  | 0 => 0
  | i + 1 => zc3 c i + (if c i % 4 = 3 then 1 else 0)
theorem zctn_lt (n c : Nat) : zctn n c < 2048 := by
  unfold zctn
  split
  · omega
  · split <;> omega
theorem zctn_k (n c : Nat) : zctn n c % 4 = if c % 4 = 1 then 2 else if c % 4 = 2 then 1 else c % 4 := by
  unfold zctn
  split
  · omega
  · split <;> omega
def zsumc (kd : Nat) (l a d : Int) : Nat := kd + (l % 8).toNat * 4 + (a % 8).toNat * 32 + (d % 8).toNat * 256
theorem zcell_eq {c : Nat} (h : c < 2048) : c % 4 + c / 4 % 8 * 4 + c / 32 % 8 * 32 + c / 256 % 8 * 256 = c := by omega
section
variable {h : zHP} {o n s b i : Nat} {c : Nat → Nat} {x : Int}
theorem zRw.rd (L : zRw h o n s b c) (hi : i < s) (h2 : i < 200) (hx : x = (i : Int)) : zKd h o x = ((c i % 4 : Nat) : Int) ∧ zLg h o x = ((c i / 4 % 8 : Nat) : Int) ∧ zWa h o x = ((c i / 32 % 8 : Nat) : Int) ∧ zWb h o x = ((c i / 256 % 8 : Nat) : Int) := by
  obtain ⟨-, l2, -, l4⟩ := L
  obtain ⟨g1, g2⟩ := l4 i hi h2
  have e : x.toNat = i := by omega
  have hc : 0 ≤ x ∧ x < h o 3 ∧ x < 200 := by omega
  refine ⟨?_, ?_, ?_, ?_⟩
  · unfold zKd
    rw [if_pos hc, e, g1, ziand_3 (by omega)]
  · unfold zLg
    rw [if_pos hc, e, g1, show (2 : Int) = ((2 : Nat) : Int) from rfl, zishr_n (by omega) (by omega), ziand_7 (by omega)]
  · unfold zWa
    rw [if_pos hc, e, g1, show (5 : Int) = ((5 : Nat) : Int) from rfl, zishr_n (by omega) (by omega), ziand_7 (by omega)]
  · unfold zWb
    rw [if_pos hc, e, g1, show (8 : Int) = ((8 : Nat) : Int) from rfl, zishr_n (by omega) (by omega), ziand_7 (by omega)]
end
theorem zLad.ne {o p : Nat} (ho : zLad o) (hp : zLad p) (h : o ≠ p) : o + 3 ≤ p ∨ p + 3 ≤ o := by
  unfold zLad at ho hp
  omega
theorem zar1 {s i m q : Nat} {x : Int} (hs : s ≤ 100000) (hq : m - i = q + 1) (hi : i ≤ m) (hm : m ≤ 200) (hx : x = (i : Int)) : min (s + i) 100000 ≤ 100000 ∧ (min (s + i) 100000 = s + i ∨ 200 ≤ min (s + i) 100000 ∧ 200 ≤ s + i) ∧ min (min (s + i) 100000 + 1) 100000 = min (s + (i + 1)) 100000 ∧ s ≤ min (s + i) 100000 ∧ (-2147483648 ≤ x + 1 ∧ x + 1 < 2147483648) ∧ m - (i + 1) = q ∧ i + 1 ≤ m ∧ x + 1 = ((i + 1 : Nat) : Int) := by omega
theorem zar2 (b z w : Nat) : min (min (b + z) 100000 + w) 100000 = min (b + (z + w)) 100000 := by omega
theorem zar3 (b z : Nat) : min (b + z) 100000 ≤ 100000 := by omega
theorem zar4 {s j si : Nat} (h : s ≤ si) (hj : j < s) : j ≠ si := by omega
theorem zar5 {s i si : Nat} (h : si = s + i ∨ 200 ≤ si ∧ 200 ≤ s + i) (h2 : s + i < 200) : si = s + i ∧ si < 200 := by omega
theorem zar6 {s i j si : Nat} (h : si = s + i ∨ 200 ≤ si ∧ 200 ≤ s + i) (h2 : s + j < 200) (hj : ¬ j = i) : s + j ≠ si := by omega
section
variable {X : List Int} {h : zHP} {K : Option zAV → zHP → Prop}
/-- addAll -/
theorem cx_30 {o p n s b n2 s2 b2 : Nat} {c c2 : Nat → Nat} {up tu : Int} (F : zFin h) (ho : zLad o) (hp : zLad p) (hop : o ≠ p) (L : zRw h o n s b c) (L2 : zRw h p n2 s2 b2 c2) (hs : s ≤ 100000) (hb : b ≤ 100000) (hs2 : s2 ≤ 100000) (hn : n ≤ 7)
    (k : ∀ h', zFin h' → zfr [o, o + 1] h h' → h' o 2 = h o 2 → h' o 5 = h o 5 → h' o 3 = ((min (s + min s2 200) 100000 : Nat) : Int) → h' o 4 = ((min (b + zc3 (zctr n (min s2 200) up tu c2) (min s2 200)) 100000 : Nat) : Int) → (∀ i, i < s → h' (o + 1) i = h (o + 1) i) → (∀ j, j < min s2 200 → s + j < 200 → h' (o + 1) (s + j) = (zctr n (min s2 200) up tu c2 j : Int)) → K none h') : zC X 30 [zR o, zR p, zI up, zI tu] h K := by
  have hne := ho.ne hp hop
  generalize hm : min s2 200 = m at k
  have hm2 : m ≤ 200 := by omega
  have loop : ∀ (q i : Nat) (h1 : zHP) (x : Int), m - i = q → i ≤ m → x = (i : Int) → zFin h1 → zfr [o, o + 1] h h1 → h1 o 2 = h o 2 → h1 o 5 = h o 5 → h1 o 3 = ((min (s + i) 100000 : Nat) : Int) → h1 o 4 = ((min (b + zc3 (zctr n m up tu c2) i) 100000 : Nat) : Int) → (∀ j, j < s → h1 (o + 1) j = h (o + 1) j) → (∀ j, j < i → s + j < 200 → h1 (o + 1) (s + j) = (zctr n m up tu c2 j : Int)) → zAt X 30 15 0 0 [some (zR o), some (zR p), some (zI up), some (zI tu), some (zI (m : Int)), some (zI x), none, none, none] [] zSHc h1 (fun v sh' h' => sh' = zSHc ∧ K v h') := by
    intro q
    induction q with
    | zero =>
      intro i h1 x hq hi hx F1 fr a1 a2 a3 a4 a5 a6
      have ei : i = m := by omega
      subst ei
      apply sg_30_15 F1 ho hp <;> intros <;> (try omega)
      exact ⟨rfl, k h1 F1 fr a1 a2 a3 a4 a5 a6⟩
    | succ q ih =>
      intro i h1 x hq hi hx F1 fr a1 a2 a3 a4 a5 a6
      have p0 : h1 p = h p := fr p (by simp; omega)
      have p1 : h1 (p + 1) = h (p + 1) := fr (p + 1) (by simp; omega)
      have M : zRw h1 p n2 s2 b2 c2 := by unfold zRw; rw [p0, p1]; exact L2
      generalize hsr : (if up = 0 then i else m - 1 - i) = sr
      have hsr2 : sr < m := by split at hsr <;> omega
      have hsc := (L2.2.2.2 sr (by omega) (by omega)).2
      have hl1 := L.1
      -- the end of a turn
      have fin : ∀ (kd : Nat) (l a d : Int), kd < 4 → zsumc kd l a d = zctr n m up tu c2 i → kd = zctr n m up tu c2 i % 4 → zC X 28 [zR o, zI kd, zI l, zI a, zI d] h1 (fun v h => zAt X 30 115 0 0 [some (zR o), some (zR p), some (zI up), some (zI tu), some (zI (m : Int)), some (zI x), none, none, none] (zpush v []) zSHc h (fun v sh' h' => sh' = zSHc ∧ K v h')) := by
        intro kd l a d hk hcell hkd
        obtain ⟨hA, hC, hD, hG, hx1, hq1, hi1, hx2⟩ := zar1 hs hq hi hm2 hx
        have hB := zar3 b (zc3 (zctr n m up tu c2) i)
        have hE := zar2 b (zc3 (zctr n m up tu c2) i)
        generalize min (s + i) 100000 = si at *
        generalize hbi : min (b + zc3 (zctr n m up tu c2) i) 100000 = bi at *
        refine cx_28 F1 ho a3 a4 hA hB hk fun h2 F2 fr2 b1 b2 b3 b4 b5 b6 => sg_30_115c hx1 ?_
        refine ih (i + 1) h2 _ hq1 hi1 hx2 F2 (fr.trans fr2) (b1.trans a1) (b2.trans a2) ?_ ?_ ?_ ?_
        · rw [b3, hD]
        · rw [b4]
          show _ = ((min (b + (zc3 (zctr n m up tu c2) i + (if zctr n m up tu c2 i % 4 = 3 then 1 else 0))) 100000 : Nat) : Int)
          rw [← hkd, ← hE]
          congr 1
          split
          · rfl
          · exact (Nat.min_eq_left hB).symm
        · intro j hj
          rw [b5 j (zar4 hG hj)]
          exact a5 j hj
        · intro j hj h200
          by_cases cj : j = i
          · subst cj
            have h8 := zar5 hC h200
            have : h2 (o + 1) si = ((zsumc kd l a d : Nat) : Int) := b6 h8.2
            rw [hcell, h8.1] at this
            exact this
          · rw [b5 (s + j) (zar6 hC h200 cj)]
            exact a6 j (Nat.lt_of_le_of_ne (Nat.le_of_lt_succ hj) cj) h200
      have hz : zctr n m up tu c2 i = if tu = 0 then c2 sr else zctn n (c2 sr) := by unfold zctr; rw [hsr]
      have hcq := zcell_eq hsc
      by_cases hu : up = 0
      · rw [if_pos hu] at hsr
        obtain ⟨g1, g2, g3, g4⟩ := M.rd (i := sr) (x := x) (by omega) (by omega) (by omega)
        by_cases ht : tu = 0
        · rw [if_pos ht] at hz
          apply sg_30_15 F1 ho hp <;> intros <;> (try omega)
          rw [g1, g2, g3, g4]
          exact fin _ _ _ _ (by omega) (by unfold zsumc; omega) (by omega)
        · rw [if_neg ht] at hz
          have hzk := zctn_k n (c2 sr)
          have hzd : zctn n (c2 sr) = (if c2 sr % 4 = 1 then 2 else if c2 sr % 4 = 2 then 1 else c2 sr % 4) + (((n : Int) - 2 - (c2 sr / 4 % 8 : Nat)) % 8).toNat * 4 + c2 sr / 32 % 8 * 32 + c2 sr / 256 % 8 * 256 := rfl
          have e2 : h1 o 2 = (n : Int) := by omega
          apply sg_30_15 F1 ho hp <;> intros <;> (try omega)
          · rw [g1, g2, g3, g4, e2]
            rw [if_neg (by omega), if_neg (by omega)] at hzd hzk
            exact fin _ _ _ _ (by omega) (by unfold zsumc; omega) (by omega)
          · rw [g2, g3, g4, e2]
            rw [if_neg (by omega), if_pos (by omega)] at hzd hzk
            exact fin 1 _ _ _ (by omega) (by unfold zsumc; omega) (by omega)
          · rw [g2, g3, g4, e2]
            rw [if_pos (by omega)] at hzd hzk
            exact fin 2 _ _ _ (by omega) (by unfold zsumc; omega) (by omega)
      · rw [if_neg hu] at hsr
        obtain ⟨g1, g2, g3, g4⟩ := M.rd (i := sr) (x := (m : Int) - 1 - x) (by omega) (by omega) (by omega)
        by_cases ht : tu = 0
        · rw [if_pos ht] at hz
          apply sg_30_15 F1 ho hp <;> intros <;> (try omega)
          rw [g1, g2, g3, g4]
          exact fin _ _ _ _ (by omega) (by unfold zsumc; omega) (by omega)
        · rw [if_neg ht] at hz
          have hzk := zctn_k n (c2 sr)
          have hzd : zctn n (c2 sr) = (if c2 sr % 4 = 1 then 2 else if c2 sr % 4 = 2 then 1 else c2 sr % 4) + (((n : Int) - 2 - (c2 sr / 4 % 8 : Nat)) % 8).toNat * 4 + c2 sr / 32 % 8 * 32 + c2 sr / 256 % 8 * 256 := rfl
          have e2 : h1 o 2 = (n : Int) := by omega
          apply sg_30_15 F1 ho hp <;> intros <;> (try omega)
          · rw [g1, g2, g3, g4, e2]
            rw [if_neg (by omega), if_neg (by omega)] at hzd hzk
            exact fin _ _ _ _ (by omega) (by unfold zsumc; omega) (by omega)
          · rw [g2, g3, g4, e2]
            rw [if_neg (by omega), if_pos (by omega)] at hzd hzk
            exact fin 1 _ _ _ (by omega) (by unfold zsumc; omega) (by omega)
          · rw [g2, g3, g4, e2]
            rw [if_pos (by omega)] at hzd hzk
            exact fin 2 _ _ _ (by omega) (by unfold zsumc; omega) (by omega)
  have e4 : min (h p 3) 200 = ((m : Nat) : Int) := by have := L2.2.1; omega
  refine sg_30_0 hp ?_
  rw [e4]
  exact loop m 0 h 0 (by omega) (by omega) rfl F zfr.rfl rfl rfl (by rw [L.2.1]; omega) (by rw [L.2.2.1]; show _ = ((min (b + 0) 100000 : Nat) : Int); omega) (fun _ _ => rfl) (fun j hj => by omega)
end
