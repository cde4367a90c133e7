/-! TEXTS: WHAT HOLDS ON THE WAY -/
def zsvd : Nat → List (Int × Nat) → Prop
  | _, [] => True
  | n, e :: r => e.2 ≤ n ∧ 0 ≤ e.1 ∧ e.1 < 10000 ∧ zsvd e.2 r
theorem zsvd_mono {n n' : Nat} {st : List (Int × Nat)} (h : zsvd n st) (le : n ≤ n') : zsvd n' st := by
  cases st with
  | nil => trivial
  | cons e r => exact ⟨Nat.le_trans h.1 le, h.2⟩
abbrev zo1 (op : Option Nat) : Nat := if op = none then 0 else 1
def zTIv (kd pc : Nat → Int) : zTS → Prop
  | (i, _, P, op, _, st, I, fs) => zOKi kd pc i (st.length + zo1 op) (P.length + zo1 op) ∧ zsvd I.length st ∧ (∀ e ∈ P, e.2.length ≤ 200) ∧ (∀ j, op = some j → fs + 1 = j ∧ j < i) ∧ (st ≠ [] → fs < i) ∧ ∀ q, q < i → kd q ≠ 69
theorem zpcm {kd pc : Nat → Int} (mono : ∀ i, kd i ≠ 69 → pc i < pc (i + 1)) {a b i : Nat} (h : ∀ q, q < i → kd q ≠ 69) (hab : a < b) (hb : b ≤ i) : pc a < pc b := by
  induction b with
  | zero => omega
  | succ b ih =>
    have := mono b (h b (by omega))
    by_cases c : a = b
    · rw [c]; exact this
    · have := ih (by omega) (by omega)
      omega
section
variable {lk : List (Int × List zTe) → Int → Option (List zTe)} {legs : Int} {kd vl pc : Nat → Int} {i : Nat} {ft : Int × Int} {P : List (Int × List zTe)} {op : Option Nat} {B : List zTe} {st : List (Int × Nat)} {I : List zTe} {fs : Nat}
theorem zst_80 (e : kd i = 80) : zstT lk legs kd vl pc (i, ft, P, op, B, st, I, fs) = (i + 3, (if zhasP P (vl (i + 1)) = true then zno ft 3 (pc (i + 1)) else ft), P, some (i + 1), I, st, [], zfs1 op st i fs) := by
  show (if kd i = 80 then (_ : zTS) else _) = _
  rw [if_pos e]
theorem zst_84 (e : kd i = 84) : zstT lk legs kd vl pc (i, ft, P, op, B, st, I, fs) = (i + 3, (if 20 < vl (i + 1) then zno ft 5 (pc (i + 1)) else ft), P, op, B, (vl (i + 1), I.length) :: st, I, zfs1 op st i fs) := by
  show (if kd i = 80 then (_ : zTS) else if kd i = 84 then _ else _) = _
  rw [if_neg (by omega), if_pos e]
theorem zst_125 {t : Int} {m : Nat} {r : List (Int × Nat)} (e : kd i = 125) : zstT lk legs kd vl pc (i, ft, P, op, B, (t, m) :: r, I, fs) = (i + 1, zpst op r ft (zrptL m t.toNat I) (pc fs), P, op, B, r, zrptL m t.toNat I, fs) := by
  have ef : zfs1 op ((t, m) :: r) i fs = fs := if_neg fun z => by cases z.2
  show (if kd i = 80 then (_ : zTS) else if kd i = 84 then _ else if kd i = 125 then (i + 1, zpst op r ft (zrptL m t.toNat I) (pc (zfs1 op ((t, m) :: r) i fs)), P, op, B, r, zrptL m t.toNat I, zfs1 op ((t, m) :: r) i fs) else _) = _
  rw [if_neg (by omega), if_neg (by omega), if_pos e, ef]
theorem zst_125p {j : Nat} (e : kd i = 125) : zstT lk legs kd vl pc (i, ft, P, some j, B, [], I, fs) = (i + 1, (if zlgL I then zno ft 6 (pc j) else ft), P ++ [(vl j, I.take 200)], none, [], [], B, fs) := by
  have ef : zfs1 (some j) [] i fs = fs := if_neg fun z => by cases z.1
  show (if kd i = 80 then (_ : zTS) else if kd i = 84 then _ else if kd i = 125 then (i + 1, (if zlgL I then zno ft 6 (pc j) else ft), P ++ [(vl j, I.take 200)], none, [], [], B, zfs1 (some j) [] i fs) else _) = _
  rw [if_neg (by omega), if_neg (by omega), if_pos e, ef]
abbrev zj1 (kd : Nat → Int) (i : Nat) : Nat := if kd (i + 2) = 117 then i + 3 else i + 2
abbrev zj2 (kd : Nat → Int) (i : Nat) : Nat := if kd (zj1 kd i) = 116 then zj1 kd i + 1 else zj1 kd i
abbrev zuI (lk : List (Int × List zTe) → Int → Option (List zTe)) (legs : Int) (kd vl : Nat → Int) (i : Nat) (P : List (Int × List zTe)) (I : List zTe) : List zTe := I ++ zuseL (decide (kd (i + 2) = 117)) (decide (kd (zj1 kd i) = 116)) legs ((lk P (vl (i + 1))).getD [])
theorem zst_85 (e : kd i = 85) : zstT lk legs kd vl pc (i, ft, P, op, B, st, I, fs) = (zj2 kd i + 1, zpst op st (if lk P (vl (i + 1)) = none then zno ft 4 (pc (i + 1)) else ft) (zuI lk legs kd vl i P I) (pc (zfs1 op st i fs)), P, op, B, st, zuI lk legs kd vl i P I, zfs1 op st i fs) := by
  show (if kd i = 80 then (_ : zTS) else if kd i = 84 then _ else if kd i = 125 then _ else if kd i = 85 then _ else _) = _
  rw [if_neg (by omega), if_neg (by omega), if_neg (by omega), if_pos e]
def zm77 (legs : Int) (vl pc : Nat → Int) (i : Nat) (ft : Int × Int) : Int × Int := if vl (i + 3) < 1 ∨ 4 < vl (i + 3) then zno (if vl (i + 3) < vl (i + 2) then zno (znlg legs ft (vl (i + 1)) (pc (i + 1))) 5 (pc (i + 2)) else znlg legs ft (vl (i + 1)) (pc (i + 1))) 5 (pc (i + 3)) else if vl (i + 3) < vl (i + 2) then zno (znlg legs ft (vl (i + 1)) (pc (i + 1))) 5 (pc (i + 2)) else znlg legs ft (vl (i + 1)) (pc (i + 1))
theorem zst_77 (e : kd i = 77) : zstT lk legs kd vl pc (i, ft, P, op, B, st, I, fs) = (i + 5, zpst op st (zm77 legs vl pc i ft) (I ++ [(3, vl (i + 1), vl (i + 2), vl (i + 3))]) (pc (zfs1 op st i fs)), P, op, B, st, I ++ [(3, vl (i + 1), vl (i + 2), vl (i + 3))], zfs1 op st i fs) := by
  show (if kd i = 80 then (_ : zTS) else if kd i = 84 then _ else if kd i = 125 then _ else if kd i = 85 then _ else if kd i = 77 then _ else _) = _
  rw [if_neg (by omega), if_neg (by omega), if_neg (by omega), if_neg (by omega), if_pos e]
  rfl
theorem zst_p {q : Nat} (e : kd i = 82 ∧ q = 0 ∨ kd i = 71 ∧ q = 1 ∨ kd i = 66 ∧ q = 2) : zstT lk legs kd vl pc (i, ft, P, op, B, st, I, fs) = (i + 3, zpst op st (znlg legs ft (vl (i + 1)) (pc (i + 1))) (I ++ [(q, vl (i + 1), 0, 0)]) (pc (zfs1 op st i fs)), P, op, B, st, I ++ [(q, vl (i + 1), 0, 0)], zfs1 op st i fs) := by
  have eq : (if kd i = 71 then 1 else if kd i = 66 then 2 else 0) = q := by
    rcases e with e | e | e
    · rw [if_neg (by omega), if_neg (by omega)]; exact e.2.symm
    · rw [if_pos e.1]; exact e.2.symm
    · rw [if_neg (by omega), if_pos e.1]; exact e.2.symm
  show (if kd i = 80 then (_ : zTS) else if kd i = 84 then _ else if kd i = 125 then _ else if kd i = 85 then _ else if kd i = 77 then _ else (i + 3, zpst op st (znlg legs ft (vl (i + 1)) (pc (i + 1))) (I ++ [((if kd i = 71 then 1 else if kd i = 66 then 2 else 0), vl (i + 1), 0, 0)]) (pc (zfs1 op st i fs)), P, op, B, st, I ++ [((if kd i = 71 then 1 else if kd i = 66 then 2 else 0), vl (i + 1), 0, 0)], zfs1 op st i fs)) = _
  rw [if_neg (by omega), if_neg (by omega), if_neg (by omega), if_neg (by omega), if_neg (by omega), eq]
theorem zfs_le (H : st ≠ [] → fs < i) (H2 : ∀ j, op = some j → fs + 1 = j ∧ j < i) : zfs1 op st i fs ≤ i := by
  unfold zfs1
  split
  · exact Nat.le_refl _
  · rename_i c
    cases op with
    | some j => have := H2 j rfl; omega
    | none =>
      by_cases z : st = []
      · exact absurd ⟨rfl, z⟩ c
      · have := H z; omega
theorem zrpt_len {m t : Nat} {l : List zTe} (h : m ≤ l.length) : (zrptL m t l).length = m + t * (l.length - m) := by
  unfold zrptL
  rw [List.length_append, List.length_take, Nat.min_eq_left h]
  have e : ∀ t, (List.replicate t (l.drop m)).flatten.length = t * (l.length - m) := by
    intro t
    induction t with
    | zero => rw [Nat.zero_mul]; rfl
    | succ t ih => rw [List.replicate_succ, List.flatten_cons, List.length_append, ih, List.length_drop, Nat.add_mul]; omega
  rw [e]
/-- one statement, what holds still -/
theorem zTIv_st (ints : ∀ i, kd i = 105 → 0 ≤ vl i ∧ vl i < 10000) (H : zTIv kd pc (i, ft, P, op, B, st, I, fs)) (n69 : kd i ≠ 69) : zTIv kd pc (zstT lk legs kd vl pc (i, ft, P, op, B, st, I, fs)) := by
  obtain ⟨ok, sv, PL, hop, hst, hq⟩ := H
  have fsl := zfs_le hst hop
  have keep : ∀ j, op = some j → zfs1 op st i fs + 1 = j ∧ j < i := fun j e => by
    have : zfs1 op st i fs = fs := if_neg fun z => by rw [z.1] at e; cases e
    rw [this]
    exact hop j e
  rcases zOK_dom ok with e | e | e | e | e | e | e
  · exact absurd e n69
  · rw [zst_80 e]
    obtain ⟨a, b, c, d⟩ := zOK_80 ok e
    have o0 : op = none := by
      by_cases z : op = none
      · exact z
      · have : zo1 op = 1 := if_neg z
        omega
    have s0 : st = [] := List.length_eq_zero_iff.mp (by omega)
    rw [o0, s0] at ok ⊢
    rw [o0] at d
    refine ⟨d, trivial, PL, fun j ej => ?_, fun z => absurd rfl z, fun q hq2 => ?_⟩
    · have : i + 1 = j := by injection ej
      have e2 : zfs1 none [] i fs = i := if_pos ⟨rfl, rfl⟩
      rw [e2]
      omega
    · by_cases z : q < i
      · exact hq q z
      · have : q = i ∨ q = i + 1 ∨ q = i + 2 := by omega
        rcases this with z | z | z <;> rw [z] <;> omega
  · rw [zst_84 e]
    obtain ⟨a, b, d⟩ := zOK_84 ok e
    have v := ints _ a
    refine ⟨?_, ⟨Nat.le_refl _, v.1, v.2, sv⟩, PL, fun j ej => ?_, fun _ => by omega, fun q hq2 => ?_⟩
    · rw [List.length_cons, show st.length + 1 + zo1 op = st.length + zo1 op + 1 by omega]
      exact d
    · have := keep j ej
      omega
    · by_cases z : q < i
      · exact hq q z
      · have : q = i ∨ q = i + 1 ∨ q = i + 2 := by omega
        rcases this with z | z | z <;> rw [z] <;> omega
  · obtain ⟨a, d⟩ := zOK_125 ok e
    have qq : ∀ q, q < i + 1 → kd q ≠ 69 := fun q hq2 => by
      by_cases z : q < i
      · exact hq q z
      · have : q = i := by omega
        rw [this]
        omega
    cases st with
    | cons s r =>
      obtain ⟨t, m⟩ := s
      rw [zst_125 e]
      obtain ⟨s1, s2, s3, s4⟩ := sv
      have s1 : m ≤ I.length := s1
      refine ⟨?_, zsvd_mono s4 ?_, PL, fun j ej => ?_, fun _ => ?_, qq⟩
      · rw [List.length_cons, show r.length + 1 + zo1 op - 1 = r.length + zo1 op by omega] at d
        exact d
      · rw [zrpt_len s1]
        exact Nat.le_add_right _ _
      · have := hop j ej
        omega
      · have := hst (by simp)
        omega
    | nil =>
      cases op with
      | none => exact absurd a (by show ¬ 1 ≤ 0 + 0; decide)
      | some j =>
        rw [zst_125p e]
        refine ⟨?_, trivial, fun x hx => ?_, fun j ej => (by cases ej), fun z => absurd rfl z, qq⟩
        · rw [List.length_append]
          exact d
        · rcases List.mem_append.mp hx with z | z
          · exact PL x z
          · rw [List.mem_singleton.mp z]
            exact List.length_take_le _ _
  · rw [zst_85 e]
    obtain ⟨a, d⟩ := zOK_85 ok e
    obtain ⟨d1, d2⟩ := d (zj1 kd i) (zj2 kd i) rfl rfl
    have j12 : i + 2 ≤ zj2 kd i ∧ ∀ q, i ≤ q → q ≤ zj2 kd i → kd q ≠ 69 := by
      have c1 : zj1 kd i = i + 3 ∧ kd (i + 2) = 117 ∨ zj1 kd i = i + 2 := by
        by_cases z : kd (i + 2) = 117
        · exact Or.inl ⟨if_pos z, z⟩
        · exact Or.inr (if_neg z)
      have c2 : zj2 kd i = zj1 kd i + 1 ∧ kd (zj1 kd i) = 116 ∨ zj2 kd i = zj1 kd i := by
        by_cases z : kd (zj1 kd i) = 116
        · exact Or.inl ⟨if_pos z, z⟩
        · exact Or.inr (if_neg z)
      generalize zj2 kd i = b2 at *
      generalize zj1 kd i = b1 at *
      refine ⟨by omega, fun q q1 q2 => ?_⟩
      have : q = i ∨ q = i + 1 ∨ (q = i + 2 ∧ b1 = i + 3) ∨ (q = b1 ∧ b2 = b1 + 1) ∨ q = b2 := by omega
      rcases this with z | z | z | z | z
      · rw [z]; omega
      · rw [z]; omega
      · rcases c1 with y | y
        · rw [z.1]; omega
        · omega
      · rcases c2 with y | y
        · rw [z.1]; omega
        · omega
      · rw [z]; omega
    refine ⟨d2, zsvd_mono sv (by rw [List.length_append]; omega), PL, fun j ej => ?_, fun _ => by omega, fun q hq2 => ?_⟩
    · have := keep j ej
      omega
    · by_cases z : q < i
      · exact hq q z
      · exact j12.2 q (by omega) (by omega)
  · rw [zst_77 e]
    obtain ⟨a, b, c, d0, d⟩ := zOK_77 ok e
    refine ⟨d, zsvd_mono sv (by rw [List.length_append]; omega), PL, fun j ej => ?_, fun _ => by omega, fun q hq2 => ?_⟩
    · have := keep j ej
      omega
    · by_cases z : q < i
      · exact hq q z
      · have : q = i ∨ q = i + 1 ∨ q = i + 2 ∨ q = i + 3 ∨ q = i + 4 := by omega
        rcases this with z | z | z | z | z <;> rw [z] <;> omega
  · have e' : ∃ q, kd i = 82 ∧ q = 0 ∨ kd i = 71 ∧ q = 1 ∨ kd i = 66 ∧ q = 2 := by
      rcases e with e | e | e
      · exact ⟨0, Or.inl ⟨e, rfl⟩⟩
      · exact ⟨1, Or.inr (Or.inl ⟨e, rfl⟩)⟩
      · exact ⟨2, Or.inr (Or.inr ⟨e, rfl⟩)⟩
    obtain ⟨qk, e'⟩ := e'
    rw [zst_p e']
    obtain ⟨a, b, d⟩ := zOK_p ok e
    refine ⟨d, zsvd_mono sv (by rw [List.length_append]; omega), PL, fun j ej => ?_, fun _ => by omega, fun q hq2 => ?_⟩
    · have := keep j ej
      omega
    · by_cases z : q < i
      · exact hq q z
      · have : q = i ∨ q = i + 1 ∨ q = i + 2 := by omega
        rcases this with z | z | z <;> rw [z] <;> omega
end
