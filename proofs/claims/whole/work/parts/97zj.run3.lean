/-! TEXTS: FAULTS ON THE WAY -/
theorem zno_ne {f : Int × Int} {n p : Int} (hn : n ≠ 0) : (zno f n p).1 ≠ 0 := by
  unfold zno
  split
  · exact hn
  · rename_i c
    intro z
    exact c (Or.inl z)
theorem zno_le {f : Int × Int} {n p : Int} : (zno f n p).2 ≤ p := by
  unfold zno
  split
  · exact Int.le_refl _
  · rename_i c
    omega
theorem zno_lt {f : Int × Int} {n p q : Int} (h : f.1 ≠ 0 ∧ f.2 < q) (hn : n ≠ 0) : (zno f n p).1 ≠ 0 ∧ (zno f n p).2 < q := by
  refine ⟨zno_ne hn, ?_⟩
  unfold zno
  split
  · rename_i c
    show p < q
    omega
  · exact h.2
theorem zno_keep {f : Int × Int} {n p : Int} (h : f.1 ≠ 0) (h2 : f.2 < p ∨ (f.2 = p ∧ f.1 ≤ n)) : zno f n p = f := by
  unfold zno
  rw [if_neg (by omega)]
theorem zno_mv {f : Int × Int} {n p : Int} (hn : n ≠ 0) : (zno f n p).2 = p → (zno f n p).1 ≤ n ∨ f.1 = 0 ∨ True := fun _ => Or.inr (Or.inr trivial)
theorem zno_tie {f : Int × Int} {n p : Int} : (zno f n p).2 < p ∨ ((zno f n p).2 = p ∧ (zno f n p).1 ≤ n) := by
  unfold zno
  split
  · exact Or.inr ⟨rfl, Int.le_refl _⟩
  · rename_i c
    omega
/-- two notes in one order or the other -/
theorem zno_sw {f : Int × Int} {n m p q : Int} (hn : n ≠ 0) (hm : m ≠ 0) (h : p ≠ q) : zno (zno f n p) m q = zno (zno f m q) n p := by
  obtain ⟨a, b⟩ := f
  unfold zno
  by_cases c1 : a = 0 ∨ p < b ∨ (p = b ∧ n < a)
  · by_cases c2 : a = 0 ∨ q < b ∨ (q = b ∧ m < a)
    · rw [if_pos c1, if_pos c2]
      by_cases c3 : q < p
      · rw [if_pos (by show n = 0 ∨ q < p ∨ _; omega), if_neg (by show ¬ (m = 0 ∨ p < q ∨ (p = q ∧ n < m)); omega)]
      · rw [if_neg (by show ¬ (n = 0 ∨ q < p ∨ (q = p ∧ m < n)); omega), if_pos (by show m = 0 ∨ p < q ∨ _; omega)]
    · rw [if_pos c1, if_neg c2, if_pos c1, if_neg (by show ¬ (n = 0 ∨ q < p ∨ (q = p ∧ m < n)); omega)]
  · by_cases c2 : a = 0 ∨ q < b ∨ (q = b ∧ m < a)
    · rw [if_neg c1, if_pos c2, if_neg (by show ¬ (m = 0 ∨ p < q ∨ (p = q ∧ n < m)); omega)]
    · rw [if_neg c1, if_neg c2, if_neg c1]
theorem znlg_lt {legs : Int} {f : Int × Int} {k p q : Int} (h : f.1 ≠ 0 ∧ f.2 < q) : (znlg legs f k p).1 ≠ 0 ∧ (znlg legs f k p).2 < q := by
  unfold znlg
  split
  · exact zno_lt h (by decide)
  · exact h
theorem znlg_keep {legs : Int} {f : Int × Int} {k p : Int} (h : f.1 ≠ 0 ∧ f.2 < p) : znlg legs f k p = f := by
  unfold znlg
  split
  · exact zno_keep h.1 (Or.inl h.2)
  · rfl
theorem zm77_lt {legs : Int} {vl pc : Nat → Int} {i : Nat} {f : Int × Int} {q : Int} (h : f.1 ≠ 0 ∧ f.2 < q) : (zm77 legs vl pc i f).1 ≠ 0 ∧ (zm77 legs vl pc i f).2 < q := by
  have h1 := znlg_lt (legs := legs) (k := vl (i + 1)) (p := pc (i + 1)) h
  have h2 : (if vl (i + 3) < vl (i + 2) then zno (znlg legs f (vl (i + 1)) (pc (i + 1))) 5 (pc (i + 2)) else znlg legs f (vl (i + 1)) (pc (i + 1))).1 ≠ 0 ∧ (if vl (i + 3) < vl (i + 2) then zno (znlg legs f (vl (i + 1)) (pc (i + 1))) 5 (pc (i + 2)) else znlg legs f (vl (i + 1)) (pc (i + 1))).2 < q := by
    split
    · exact zno_lt h1 (by decide)
    · exact h1
  unfold zm77
  split
  · exact zno_lt h2 (by decide)
  · exact h2
theorem zm77_keep {legs : Int} {vl pc : Nat → Int} {i : Nat} {f : Int × Int} (h : f.1 ≠ 0) (h1 : f.2 < pc (i + 1)) (h2 : f.2 < pc (i + 2)) (h3 : f.2 < pc (i + 3)) : zm77 legs vl pc i f = f := by
  have e1 : znlg legs f (vl (i + 1)) (pc (i + 1)) = f := znlg_keep ⟨h, h1⟩
  have e2 : (if vl (i + 3) < vl (i + 2) then zno (znlg legs f (vl (i + 1)) (pc (i + 1))) 5 (pc (i + 2)) else znlg legs f (vl (i + 1)) (pc (i + 1))) = f := by
    rw [e1]
    split
    · exact zno_keep h (Or.inl h2)
    · rfl
  unfold zm77
  rw [e2]
  split
  · exact zno_keep h (Or.inl h3)
  · rfl
theorem zpst_lt {op : Option Nat} {st : List (Int × Nat)} {f : Int × Int} {I : List zTe} {p q : Int} (h : f.1 ≠ 0 ∧ f.2 < q) : (zpst op st f I p).1 ≠ 0 ∧ (zpst op st f I p).2 < q := by
  unfold zpst
  split
  · exact zno_lt h (by decide)
  · exact h
theorem zpst_keep {op : Option Nat} {st : List (Int × Nat)} {f : Int × Int} {I : List zTe} {p : Int} (h : op = none → st = [] → f.1 ≠ 0 ∧ f.2 < p) : zpst op st f I p = f := by
  unfold zpst
  split
  · rename_i c
    have := h c.1 c.2.1
    exact zno_keep this.1 (Or.inl this.2)
  · rfl
theorem zpst_0 {op : Option Nat} {st : List (Int × Nat)} {f : Int × Int} {I : List zTe} {p : Int} (h : (zpst op st f I p).1 = 0) : f.1 = 0 := by
  unfold zpst at h
  split at h
  · exact absurd h (zno_ne (by decide))
  · exact h
theorem znlg_0 {legs : Int} {f : Int × Int} {k p : Int} (h : (znlg legs f k p).1 = 0) : f.1 = 0 ∧ k ≤ legs - 2 := by
  unfold znlg at h
  split at h
  · exact absurd h (zno_ne (by decide))
  · exact ⟨h, by omega⟩
theorem zm77_0 {legs : Int} {vl pc : Nat → Int} {i : Nat} {f : Int × Int} (h : (zm77 legs vl pc i f).1 = 0) : f.1 = 0 ∧ vl (i + 1) ≤ legs - 2 ∧ vl (i + 2) ≤ vl (i + 3) ∧ 1 ≤ vl (i + 3) ∧ vl (i + 3) ≤ 4 := by
  unfold zm77 at h
  split at h
  · exact absurd h (zno_ne (by decide))
  · split at h
    · exact absurd h (zno_ne (by decide))
    · have := znlg_0 h
      exact ⟨this.1, this.2, by omega, by omega, by omega⟩
def zeV (legs : Int) (e : zTe) : Prop := e.1 < 4 ∧ 0 ≤ e.2.1 ∧ e.2.1 ≤ legs - 2 ∧ (e.1 = 3 → 0 ≤ e.2.2.1 ∧ e.2.2.1 ≤ e.2.2.2 ∧ 1 ≤ e.2.2.2 ∧ e.2.2.2 ≤ 4)
theorem zflp_v {legs : Int} {e : zTe} (h : zeV legs e) : zeV legs (zflp legs e) := by
  obtain ⟨a, b, c, d⟩ := h
  have k : (zflp legs e).1 = (if e.1 = 1 then 2 else if e.1 = 2 then 1 else e.1) := rfl
  have l : (zflp legs e).2.1 = legs - 2 - e.2.1 := rfl
  have r : (zflp legs e).2.2 = e.2.2 := rfl
  refine ⟨?_, by rw [l]; omega, by rw [l]; omega, fun z => ?_⟩
  · rw [k]; split
    · decide
    · split <;> omega
  · rw [r]
    rw [k] at z
    apply d
    split at z
    · omega
    · split at z
      · omega
      · exact z
theorem zuse_v {legs : Int} {up tu : Bool} {l : List zTe} (h : ∀ e ∈ l, zeV legs e) : ∀ e ∈ zuseL up tu legs l, zeV legs e := fun e he => by
  unfold zuseL at he
  obtain ⟨x, hx, ex⟩ := List.mem_map.mp he
  have hx : x ∈ l := by
    split at hx
    · exact List.mem_reverse.mp hx
    · exact hx
  rw [← ex]
  split
  · exact zflp_v (h x hx)
  · exact h x hx
theorem zrpt_v {legs : Int} {m t : Nat} {l : List zTe} (h : ∀ e ∈ l, zeV legs e) : ∀ e ∈ zrptL m t l, zeV legs e := fun e he => by
  unfold zrptL at he
  rcases List.mem_append.mp he with z | z
  · exact h e (List.mem_of_mem_take z)
  · obtain ⟨x, hx, ex⟩ := List.mem_flatten.mp z
    rw [(List.mem_replicate.mp hx).2] at ex
    exact h e (List.mem_of_mem_drop ex)
/-- faults and what is told -/
def zTF (legs : Int) (pc : Nat → Int) : zTS → Prop
  | (i, ft, P, op, B, st, I, fs) => (op = none → st = [] → zlgL I → ft.1 ≠ 0 ∧ ft.2 < pc i) ∧ (op ≠ none → zlgL B → ft.1 ≠ 0 ∧ ft.2 < pc fs) ∧ (ft.1 = 0 → (∀ e ∈ I, zeV legs e) ∧ (op ≠ none → ∀ e ∈ B, zeV legs e) ∧ ∀ x ∈ P, ∀ e ∈ x.2, zeV legs e)
section
variable {lk : List (Int × List zTe) → Int → Option (List zTe)} {legs : Int} {kd vl pc : Nat → Int} {i : Nat} {ft : Int × Int} {P : List (Int × List zTe)} {op : Option Nat} {B : List zTe} {st : List (Int × Nat)} {I : List zTe} {fs : Nat}
theorem zTF_st (mono : ∀ i, kd i ≠ 69 → pc i < pc (i + 1)) (ints : ∀ i, kd i = 105 → 0 ≤ vl i ∧ vl i < 10000) (lkm : ∀ P n c, lk P n = some c → ∃ x ∈ P, x.2 = c) (H : zTIv kd pc (i, ft, P, op, B, st, I, fs)) (G : zTF legs pc (i, ft, P, op, B, st, I, fs)) (n69 : kd i ≠ 69) : zTF legs pc (zstT lk legs kd vl pc (i, ft, P, op, B, st, I, fs)) := by
  have H2 := zTIv_st (lk := lk) (legs := legs) ints H n69
  obtain ⟨ok, sv, PL, hop, hst, hq⟩ := H
  obtain ⟨F1, F2, F3⟩ := G
  have fsl := zfs_le hst hop
  have kfs : op ≠ none → zfs1 op st i fs = fs := fun z => if_neg fun w => z w.1
  /- what a statement that adds elements does -/
  have add : ∀ (j : Nat) (f1 : Int × Int) (I2 : List zTe), i < j → zTIv kd pc (j, zpst op st f1 I2 (pc (zfs1 op st i fs)), P, op, B, st, I2, zfs1 op st i fs) → (∀ q, ft.1 ≠ 0 ∧ ft.2 < q → f1.1 ≠ 0 ∧ f1.2 < q) → (f1.1 = 0 → ft.1 = 0 ∧ ((∀ e ∈ I, zeV legs e) → (∀ x ∈ P, ∀ e ∈ x.2, zeV legs e) → ∀ e ∈ I2, zeV legs e)) → zTF legs pc (j, zpst op st f1 I2 (pc (zfs1 op st i fs)), P, op, B, st, I2, zfs1 op st i fs) := fun j f1 I2 hj W lt va => by
    have hq2 := W.2.2.2.2.2
    refine ⟨fun o s l => ?_, fun o l => ?_, fun z => ?_⟩
    · have e : zpst op st f1 I2 (pc (zfs1 op st i fs)) = zno f1 6 (pc (zfs1 op st i fs)) := if_pos ⟨o, s, l⟩
      rw [e]
      have ef : zfs1 op st i fs = i := if_pos ⟨o, s⟩
      have a := @zno_le f1 6 (pc (zfs1 op st i fs))
      have b := zpcm mono hq2 hj (Nat.le_refl _)
      rw [ef] at a ⊢
      exact ⟨zno_ne (by decide), by omega⟩
    · rw [kfs o]
      exact zpst_lt (lt _ (F2 o l))
    · have z1 := va (zpst_0 z)
      obtain ⟨g1, g2, g3⟩ := F3 z1.1
      exact ⟨z1.2 g1 g3, g2, g3⟩
  rcases zOK_dom ok with e | e | e | e | e | e | e
  · exact absurd e n69
  · rw [zst_80 e] at H2 ⊢
    obtain ⟨a, b, c, d⟩ := zOK_80 ok e
    have o0 : op = none := by
      by_cases z : op = none
      · exact z
      · have : zo1 op = 1 := if_neg z
        omega
    have s0 : st = [] := List.length_eq_zero_iff.mp (by omega)
    refine ⟨fun z => (by cases z), fun _ l => ?_, fun z => ?_⟩
    · have f := F1 o0 s0 l
      have ef : zfs1 op st i fs = i := if_pos ⟨o0, s0⟩
      rw [ef]
      split
      · exact zno_lt f (by decide)
      · exact f
    · have z0 : ft.1 = 0 := by
        split at z
        · exact absurd z (zno_ne (by decide))
        · exact z
      obtain ⟨g1, g2, g3⟩ := F3 z0
      exact ⟨fun e he => (by cases he), fun _ => g1, g3⟩
  · rw [zst_84 e] at H2 ⊢
    refine ⟨fun _ z => (by cases z), fun o l => ?_, fun z => ?_⟩
    · rw [kfs o]
      split
      · exact zno_lt (F2 o l) (by decide)
      · exact F2 o l
    · have z0 : ft.1 = 0 := by
        split at z
        · exact absurd z (zno_ne (by decide))
        · exact z
      exact F3 z0
  · obtain ⟨a, d⟩ := zOK_125 ok e
    cases st with
    | cons s r =>
      obtain ⟨t, m⟩ := s
      rw [zst_125 e] at H2 ⊢
      have hf := hst (by simp)
      refine ⟨fun o s l => ?_, fun o l => zpst_lt (F2 o l), fun z => ?_⟩
      · have e : zpst op r ft (zrptL m t.toNat I) (pc fs) = zno ft 6 (pc fs) := if_pos ⟨o, s, l⟩
        rw [e]
        have a := @zno_le ft 6 (pc fs)
        have b := zpcm mono H2.2.2.2.2.2 (show fs < i + 1 by omega) (Nat.le_refl _)
        exact ⟨zno_ne (by decide), by omega⟩
      · obtain ⟨g1, g2, g3⟩ := F3 (zpst_0 z)
        exact ⟨zrpt_v g1, g2, g3⟩
    | nil =>
      cases op with
      | none => exact absurd a (by show ¬ 1 ≤ 0 + 0; decide)
      | some j =>
        rw [zst_125p e] at H2 ⊢
        have hj := hop j rfl
        refine ⟨fun _ _ l => ?_, fun z => absurd rfl z, fun z => ?_⟩
        · have f := F2 (by simp) l
          have b := zpcm mono H2.2.2.2.2.2 (show fs < i + 1 by omega) (Nat.le_refl _)
          have f2 : ft.1 ≠ 0 ∧ ft.2 < pc (i + 1) := ⟨f.1, by omega⟩
          split
          · exact zno_lt f2 (by decide)
          · exact f2
        · have z0 : ft.1 = 0 := by
            split at z
            · exact absurd z (zno_ne (by decide))
            · exact z
          obtain ⟨g1, g2, g3⟩ := F3 z0
          refine ⟨g2 (by simp), fun w => absurd rfl w, fun x hx e he => ?_⟩
          rcases List.mem_append.mp hx with w | w
          · exact g3 x w e he
          · rw [List.mem_singleton.mp w] at he
            exact g1 e (List.mem_of_mem_take he)
  · rw [zst_85 e] at H2 ⊢
    have hj : i < zj2 kd i + 1 := by
      unfold zj2 zj1
      split <;> split <;> omega
    refine add _ _ _ hj H2 (fun q w => ?_) (fun z => ?_)
    · split
      · exact zno_lt w (by decide)
      · exact w
    · by_cases c : lk P (vl (i + 1)) = none
      · rw [if_pos c] at z
        exact absurd z (zno_ne (by decide))
      · rw [if_neg c] at z
        refine ⟨z, fun g1 g3 e he => ?_⟩
        rcases List.mem_append.mp he with w | w
        · exact g1 e w
        · refine zuse_v (fun y hy => ?_) e w
          cases q : lk P (vl (i + 1)) with
          | none => exact absurd q c
          | some cc =>
            obtain ⟨x, hx, ex⟩ := lkm P _ cc q
            rw [q] at hy
            have hy : y ∈ cc := hy
            rw [← ex] at hy
            exact g3 x hx y hy
  · rw [zst_77 e] at H2 ⊢
    obtain ⟨a, b, c, d0, d⟩ := zOK_77 ok e
    refine add _ _ _ (by omega) H2 (fun q w => zm77_lt w) (fun z => ?_)
    obtain ⟨z1, z2, z3, z4, z5⟩ := zm77_0 z
    have v1 := ints _ a
    have v2 := ints _ b
    refine ⟨z1, fun g1 g3 e he => ?_⟩
    rcases List.mem_append.mp he with w | w
    · exact g1 e w
    · rw [List.mem_singleton.mp w]
      exact ⟨(by decide : 3 < 4), v1.1, z2, fun _ => ⟨v2.1, z3, z4, z5⟩⟩
  · have e' : ∃ q, kd i = 82 ∧ q = 0 ∨ kd i = 71 ∧ q = 1 ∨ kd i = 66 ∧ q = 2 := by
      rcases e with e | e | e
      · exact ⟨0, Or.inl ⟨e, rfl⟩⟩
      · exact ⟨1, Or.inr (Or.inl ⟨e, rfl⟩)⟩
      · exact ⟨2, Or.inr (Or.inr ⟨e, rfl⟩)⟩
    obtain ⟨qk, e'⟩ := e'
    have q3 : qk < 3 := by omega
    rw [zst_p e'] at H2 ⊢
    obtain ⟨a, b, d⟩ := zOK_p ok e
    refine add _ _ _ (by omega) H2 (fun q w => znlg_lt w) (fun z => ?_)
    obtain ⟨z1, z2⟩ := znlg_0 z
    have v1 := ints _ a
    refine ⟨z1, fun g1 g3 e he => ?_⟩
    rcases List.mem_append.mp he with w | w
    · exact g1 e w
    · rw [List.mem_singleton.mp w]
      exact ⟨(by show qk < 4; omega), v1.1, z2, fun y => absurd (show qk = 3 from y) (by omega)⟩
/-- nothing that comes counts -/
def zFz (pc : Nat → Int) : zTS → Prop
  | (i, ft, _, op, _, st, _, fs) => ft.1 ≠ 0 ∧ (∀ j, op = some j → ft.2 < pc j ∨ (ft.2 = pc j ∧ ft.1 ≤ 6)) ∧ (op = none → st ≠ [] → ft.2 < pc fs) ∧ (op = none → st = [] → ft.2 < pc i)
theorem zFz_st (mono : ∀ i, kd i ≠ 69 → pc i < pc (i + 1)) (ints : ∀ i, kd i = 105 → 0 ≤ vl i ∧ vl i < 10000) (H : zTIv kd pc (i, ft, P, op, B, st, I, fs)) (G : zFz pc (i, ft, P, op, B, st, I, fs)) (n69 : kd i ≠ 69) : zFz pc (zstT lk legs kd vl pc (i, ft, P, op, B, st, I, fs)) ∧ (zstT lk legs kd vl pc (i, ft, P, op, B, st, I, fs)).2.1 = ft := by
  have H2 := zTIv_st (lk := lk) (legs := legs) ints H n69
  obtain ⟨ok, sv, PL, hop, hst, hq⟩ := H
  obtain ⟨G0, G1, G2, G3⟩ := G
  have m1 := mono i n69
  /- any later place -/
  have late : ∀ q, pc i < q → ft.2 < q := fun q hq2 => by
    cases ho : op with
    | some j =>
      have a := G1 j ho
      have b := zpcm mono hq (hop j ho).2 (Nat.le_refl _)
      omega
    | none =>
      by_cases s : st = []
      · have := G3 ho s; omega
      · have a := G2 ho s
        have b := zpcm mono hq (hst s) (Nat.le_refl _)
        omega
  have top : op = none → st = [] → ft.1 ≠ 0 ∧ ft.2 < pc (zfs1 op st i fs) := fun o s => by
    have e : zfs1 op st i fs = i := if_pos ⟨o, s⟩
    rw [e]
    exact ⟨G0, G3 o s⟩
  have fin : ∀ (j : Nat) (I2 : List zTe), pc i < pc j → zFz pc (j, ft, P, op, B, st, I2, zfs1 op st i fs) := fun j I2 hj => by
    refine ⟨G0, G1, fun o s => ?_, fun o s => late _ hj⟩
    have e : zfs1 op st i fs = fs := if_neg fun z => s z.2
    rw [e]
    exact G2 o s
  have pcs : ∀ j, i < j → (∀ q, q < j → kd q ≠ 69) → pc i < pc j := fun j hj h => zpcm mono h hj (Nat.le_refl _)
  rcases zOK_dom ok with e | e | e | e | e | e | e
  · exact absurd e n69
  · rw [zst_80 e] at H2 ⊢
    have p1 : ft.2 < pc (i + 1) := late _ m1
    have k1 : (if zhasP P (vl (i + 1)) = true then zno ft 3 (pc (i + 1)) else ft) = ft := by
      split
      · exact zno_keep G0 (Or.inl p1)
      · rfl
    rw [k1]
    exact ⟨⟨G0, fun j ej => (by injection ej with ej; rw [← ej]; exact Or.inl p1), fun o => (by cases o), fun o => (by cases o)⟩, rfl⟩
  · rw [zst_84 e] at H2 ⊢
    have p1 : ft.2 < pc (i + 1) := late _ m1
    have k1 : (if 20 < vl (i + 1) then zno ft 5 (pc (i + 1)) else ft) = ft := by
      split
      · exact zno_keep G0 (Or.inl p1)
      · rfl
    rw [k1]
    refine ⟨⟨G0, G1, fun o _ => ?_, fun o s => (by cases s)⟩, rfl⟩
    by_cases s : st = []
    · exact (top o s).2
    · have e : zfs1 op st i fs = fs := if_neg fun z => s z.2
      rw [e]
      exact G2 o s
  · obtain ⟨a, d⟩ := zOK_125 ok e
    cases st with
    | cons s r =>
      obtain ⟨t, m⟩ := s
      rw [zst_125 e] at H2 ⊢
      have k1 : zpst op r ft (zrptL m t.toNat I) (pc fs) = ft := zpst_keep fun o s => ⟨G0, G2 o (by simp)⟩
      rw [k1]
      exact ⟨⟨G0, G1, fun o _ => G2 o (by simp), fun o _ => late _ m1⟩, rfl⟩
    | nil =>
      cases op with
      | none => exact absurd a (by show ¬ 1 ≤ 0 + 0; decide)
      | some j =>
        rw [zst_125p e] at H2 ⊢
        have k1 : (if zlgL I then zno ft 6 (pc j) else ft) = ft := by
          split
          · exact zno_keep G0 (G1 j rfl)
          · rfl
        rw [k1]
        exact ⟨⟨G0, fun j ej => (by cases ej), fun _ s => absurd rfl s, fun o _ => late _ m1⟩, rfl⟩
  · rw [zst_85 e] at H2 ⊢
    have hj : i < zj2 kd i + 1 := by
      unfold zj2 zj1
      split <;> split <;> omega
    have k1 : (if lk P (vl (i + 1)) = none then zno ft 4 (pc (i + 1)) else ft) = ft := by
      split
      · exact zno_keep G0 (Or.inl (late _ m1))
      · rfl
    rw [k1] at H2 ⊢
    have k2 := zpst_keep (I := zuI lk legs kd vl i P I) top
    rw [k2] at H2 ⊢
    exact ⟨fin _ _ (pcs _ hj H2.2.2.2.2.2), rfl⟩
  · rw [zst_77 e] at H2 ⊢
    have hq2 := H2.2.2.2.2.2
    have k1 : zm77 legs vl pc i ft = ft := zm77_keep G0 (late _ m1) (late _ (pcs _ (by omega) fun q hq3 => hq2 q (by omega))) (late _ (pcs _ (by omega) fun q hq3 => hq2 q (by omega)))
    rw [k1] at H2 ⊢
    have k2 := zpst_keep (I := I ++ [(3, vl (i + 1), vl (i + 2), vl (i + 3))]) top
    rw [k2] at H2 ⊢
    exact ⟨fin _ _ (pcs _ (by omega) H2.2.2.2.2.2), rfl⟩
  · have e' : ∃ q, kd i = 82 ∧ q = 0 ∨ kd i = 71 ∧ q = 1 ∨ kd i = 66 ∧ q = 2 := by
      rcases e with e | e | e
      · exact ⟨0, Or.inl ⟨e, rfl⟩⟩
      · exact ⟨1, Or.inr (Or.inl ⟨e, rfl⟩)⟩
      · exact ⟨2, Or.inr (Or.inr ⟨e, rfl⟩)⟩
    obtain ⟨qk, e'⟩ := e'
    rw [zst_p e'] at H2 ⊢
    have k1 : znlg legs ft (vl (i + 1)) (pc (i + 1)) = ft := znlg_keep ⟨G0, late _ m1⟩
    rw [k1] at H2 ⊢
    have k2 := zpst_keep (I := I ++ [(qk, vl (i + 1), 0, 0)]) top
    rw [k2] at H2 ⊢
    exact ⟨fin _ _ (pcs _ (by omega) H2.2.2.2.2.2), rfl⟩
end
