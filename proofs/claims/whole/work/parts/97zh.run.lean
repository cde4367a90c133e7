/-! TEXTS: WHAT IS TOLD, AS ONE RUN -/
abbrev zTe : Type := Nat × Int × Int × Int
def zc3L : List zTe → Nat
  | [] => 0
  | e :: r => (if e.1 = 3 then 1 else 0) + zc3L r
theorem zc3L_app (a b : List zTe) : zc3L (a ++ b) = zc3L a + zc3L b := by
  induction a with
  | nil => exact (Nat.zero_add _).symm
  | cons e r ih =>
    show (if e.1 = 3 then 1 else 0) + zc3L (r ++ b) = (if e.1 = 3 then 1 else 0) + zc3L r + zc3L b
    rw [ih, Nat.add_assoc]
abbrev zlgL (l : List zTe) : Prop := 200 < l.length ∨ 20 < zc3L l
def zno (f : Int × Int) (n p : Int) : Int × Int := if f.1 = 0 ∨ p < f.2 ∨ (p = f.2 ∧ n < f.1) then (n, p) else f
def zhasP (P : List (Int × List zTe)) (n : Int) : Bool := P.any fun e => decide (e.1 = n)
/-- the first part of a name, the last one -/
def zlk1 : List (Int × List zTe) → Int → Option (List zTe)
  | [], _ => none
  | e :: r, n => if e.1 = n then some e.2 else zlk1 r n
def zlk2 : List (Int × List zTe) → Int → Option (List zTe)
  | [], _ => none
  | e :: r, n => match zlk2 r n with
    | some x => some x
    | none => if e.1 = n then some e.2 else none
def zflp (legs : Int) (e : zTe) : zTe := (if e.1 = 1 then 2 else if e.1 = 2 then 1 else e.1, legs - 2 - e.2.1, e.2.2)
def zuseL (up tu : Bool) (legs : Int) (l : List zTe) : List zTe := (if up = true then l.reverse else l).map fun e => if tu = true then zflp legs e else e
def zrptL (m t : Nat) (l : List zTe) : List zTe := l.take m ++ (List.replicate t (l.drop m)).flatten
/-- token, (fault, its place), closed parts, the open part's name, the whole meanwhile, open times, where elements go, first token -/
abbrev zTS : Type := Nat × (Int × Int) × List (Int × List zTe) × Option Nat × List zTe × List (Int × Nat) × List zTe × Nat
def zpst (op : Option Nat) (st : List (Int × Nat)) (ft : Int × Int) (I : List zTe) (p : Int) : Int × Int := if op = none ∧ st = [] ∧ zlgL I then zno ft 6 p else ft
def znlg (legs : Int) (ft : Int × Int) (k p : Int) : Int × Int := if legs - 2 < k then zno ft 5 p else ft
def zfs1 (op : Option Nat) (st : List (Int × Nat)) (i fs : Nat) : Nat := if op = none ∧ st = [] then i else fs
section
variable (lk : List (Int × List zTe) → Int → Option (List zTe)) (legs : Int) (kd vl pc : Nat → Int)
def zstT : zTS → zTS
  | (i, ft, P, op, B, st, I, fs) =>
    if kd i = 80 then (i + 3, (if zhasP P (vl (i + 1)) = true then zno ft 3 (pc (i + 1)) else ft), P, some (i + 1), I, st, [], zfs1 op st i fs)
    else if kd i = 84 then (i + 3, (if 20 < vl (i + 1) then zno ft 5 (pc (i + 1)) else ft), P, op, B, (vl (i + 1), I.length) :: st, I, zfs1 op st i fs)
    else if kd i = 125 then (match st with
      | (t, m) :: r => (i + 1, zpst op r ft (zrptL m t.toNat I) (pc (zfs1 op st i fs)), P, op, B, r, zrptL m t.toNat I, zfs1 op st i fs)
      | [] => match op with
        | none => (i + 1, ft, P, none, B, [], I, zfs1 op st i fs)
        | some j => (i + 1, (if zlgL I then zno ft 6 (pc j) else ft), P ++ [(vl j, I.take 200)], none, [], [], B, zfs1 op st i fs))
    else if kd i = 85 then
      ((if kd (if kd (i + 2) = 117 then i + 3 else i + 2) = 116 then (if kd (i + 2) = 117 then i + 3 else i + 2) + 1 else (if kd (i + 2) = 117 then i + 3 else i + 2)) + 1,
        zpst op st (if lk P (vl (i + 1)) = none then zno ft 4 (pc (i + 1)) else ft) (I ++ zuseL (decide (kd (i + 2) = 117)) (decide (kd (if kd (i + 2) = 117 then i + 3 else i + 2) = 116)) legs ((lk P (vl (i + 1))).getD [])) (pc (zfs1 op st i fs)),
        P, op, B, st, I ++ zuseL (decide (kd (i + 2) = 117)) (decide (kd (if kd (i + 2) = 117 then i + 3 else i + 2) = 116)) legs ((lk P (vl (i + 1))).getD []), zfs1 op st i fs)
    else if kd i = 77 then
      (i + 5, zpst op st (let f1 := znlg legs ft (vl (i + 1)) (pc (i + 1)); let f2 := if vl (i + 3) < vl (i + 2) then zno f1 5 (pc (i + 2)) else f1; if vl (i + 3) < 1 ∨ 4 < vl (i + 3) then zno f2 5 (pc (i + 3)) else f2) (I ++ [(3, vl (i + 1), vl (i + 2), vl (i + 3))]) (pc (zfs1 op st i fs)), P, op, B, st, I ++ [(3, vl (i + 1), vl (i + 2), vl (i + 3))], zfs1 op st i fs)
    else (i + 3, zpst op st (znlg legs ft (vl (i + 1)) (pc (i + 1))) (I ++ [((if kd i = 71 then 1 else if kd i = 66 then 2 else 0), vl (i + 1), 0, 0)]) (pc (zfs1 op st i fs)), P, op, B, st, I ++ [((if kd i = 71 then 1 else if kd i = 66 then 2 else 0), vl (i + 1), 0, 0)], zfs1 op st i fs)
/-- to the end -/
def zrnT : Nat → zTS → zTS
  | 0, σ => σ
  | f + 1, σ => if kd σ.1 = 69 then σ else zrnT f (zstT lk legs kd vl pc σ)
end
/-! the form, statement by statement -/
section
variable {kd pc : Nat → Int} {i dp pr : Nat}
theorem zSC_in {s : zSte} (h : zSCn kd pc i s = (0, -1)) (hi : i ≤ 400) (n69 : kd i ≠ 69) : ∃ s', zstpS s (kd i) = some s' ∧ zSCn kd pc (i + 1) s' = (0, -1) ∧ i + 1 ≤ 400 ∧ s'.2.1 ≤ 4 ∧ s'.2.2 ≤ 8 := by
  rw [zSC_go hi] at h
  by_cases c0 : zflN i (kd i) s = 0
  · rw [if_pos c0, if_neg n69] at h
    have n63 : kd i ≠ 63 := fun z => by
      have : zflN i (kd i) s = 1 := if_pos z
      omega
    cases e : zstpS s (kd i) with
    | none =>
      have := zfl_1 (i := i) e
      omega
    | some s' =>
      have fl := zfl_s (i := i) e n63
      rw [e] at h
      by_cases c : (kd i ≠ 69 ∧ 400 ≤ i) ∨ 8 < s'.2.2 ∨ 4 < s'.2.1
      · rw [if_pos c] at fl
        omega
      · exact ⟨s', rfl, h, by omega, by omega, by omega⟩
  · rw [if_neg c0] at h
    exact absurd (congrArg Prod.fst h) c0
theorem zSC_fl {s : zSte} (h : zSCn kd pc i s = (0, -1)) (hi : i ≤ 400) (e : zstpS s (kd i) = none) : False := by
  rw [zSC_go hi, zfl_1 (i := i) e, if_neg (by decide)] at h
  exact absurd (congrArg Prod.fst h) (by decide : (1 : Int) ≠ 0)
theorem zSC_c {c : Int} {r : List Int} (h : zSCn kd pc i (c :: r, dp, pr) = (0, -1)) (hi : i ≤ 400) (h1 : c ≠ 117) (h2 : c ≠ 116) (h3 : c ≠ 69) : kd i = c ∧ i + 1 ≤ 400 ∧ (if c = 123 then dp + 1 else dp) ≤ 4 ∧ zSCn kd pc (i + 1) (r, if c = 123 then dp + 1 else dp, pr) = (0, -1) := by
  have sh := zstp_sh (s := (c :: r, dp, pr)) (k := kd i) (by simp)
  have e : zgsD (kd i) (c :: r) = if kd i = c then some r else none := zgs_1 h1 h2
  have sh : zstpS (c :: r, dp, pr) (kd i) = match zgsD (kd i) (c :: r) with
    | none => none
    | some r' => some (r', if kd i = 123 then dp + 1 else dp, pr) := sh
  rw [e] at sh
  by_cases q : kd i = c
  · rw [if_pos q] at sh
    obtain ⟨s', a, b, d, f, g⟩ := zSC_in h hi (by omega)
    rw [sh] at a
    injection a with a
    rw [← a] at b f
    rw [q] at b f
    exact ⟨q, d, f, b⟩
  · rw [if_neg q] at sh
    exact (zSC_fl h hi sh).elim
def zOKi (kd pc : Nat → Int) (i dp pr : Nat) : Prop := i ≤ 400 ∧ dp ≤ 4 ∧ pr ≤ 8 ∧ zSCn kd pc i ([], dp, pr) = (0, -1)
theorem zOK_69 (H : zOKi kd pc i dp pr) (e : kd i = 69) : dp = 0 := by
  by_cases c : dp = 0
  · exact c
  · exact (zSC_fl H.2.2.2 H.1 (by rw [zstp_nil, e, if_pos rfl, if_neg c])).elim
theorem zOK_go {k : Int} {l : List Int} (H : zOKi kd pc i dp pr) (e : kd i = k) (hl : zshB k = l) (ne : l ≠ []) (h1 : k ≠ 69) (h2 : k ≠ 125) (h3 : k ≠ 80) : i + 1 ≤ 400 ∧ zSCn kd pc (i + 1) (l, dp, pr) = (0, -1) := by
  obtain ⟨s', a, b, c, d, f⟩ := zSC_in H.2.2.2 H.1 (by omega)
  rw [zstp_nil, e, if_neg h1, if_neg h2, if_neg (fun z => h3 z.1), hl, if_neg ne, if_neg h3] at a
  injection a with a
  rw [← a] at b
  exact ⟨c, b⟩
theorem zOK_80 (H : zOKi kd pc i dp pr) (e : kd i = 80) : dp = 0 ∧ kd (i + 1) = 110 ∧ kd (i + 2) = 123 ∧ zOKi kd pc (i + 3) 1 (pr + 1) := by
  obtain ⟨s', a, b, c, d, f⟩ := zSC_in H.2.2.2 H.1 (by omega)
  by_cases z : dp = 0
  · rw [z] at a
    rw [zstp_nil, e, if_neg (by decide), if_neg (by decide), if_neg (fun w => w.2 rfl), if_neg (by decide), if_pos rfl] at a
    injection a with a
    rw [← a] at b f
    obtain ⟨g1, g2, g3, g4⟩ := zSC_c (c := 110) (r := [123]) (dp := 0) b c (by decide) (by decide) (by decide)
    obtain ⟨g5, g6, g7, g8⟩ := zSC_c (c := 123) (r := []) g4 g2 (by decide) (by decide) (by decide)
    exact ⟨z, g1, g5, g6, by decide, f, g8⟩
  · rw [zstp_nil, e, if_neg (by decide), if_neg (by decide), if_pos ⟨rfl, z⟩] at a
    cases a
theorem zOK_84 (H : zOKi kd pc i dp pr) (e : kd i = 84) : kd (i + 1) = 105 ∧ kd (i + 2) = 123 ∧ zOKi kd pc (i + 3) (dp + 1) pr := by
  obtain ⟨a, b⟩ := zOK_go H e (l := [105, 123]) rfl (by simp) (by decide) (by decide) (by decide)
  obtain ⟨g1, g2, g3, g4⟩ := zSC_c b a (by decide) (by decide) (by decide)
  obtain ⟨g5, g6, g7, g8⟩ := zSC_c g4 g2 (by decide) (by decide) (by decide)
  exact ⟨g1, g5, g6, g7, H.2.2.1, g8⟩
theorem zOK_125 (H : zOKi kd pc i dp pr) (e : kd i = 125) : 1 ≤ dp ∧ zOKi kd pc (i + 1) (dp - 1) pr := by
  obtain ⟨s', a, b, c, d, f⟩ := zSC_in H.2.2.2 H.1 (by omega)
  by_cases z : dp = 0
  · rw [zstp_nil, e, if_neg (by decide), if_pos rfl, if_pos z] at a
    cases a
  · rw [zstp_nil, e, if_neg (by decide), if_pos rfl, if_neg z] at a
    injection a with a
    rw [← a] at b d
    exact ⟨by omega, c, d, H.2.2.1, b⟩
theorem zOK_77 (H : zOKi kd pc i dp pr) (e : kd i = 77) : kd (i + 1) = 105 ∧ kd (i + 2) = 105 ∧ kd (i + 3) = 105 ∧ kd (i + 4) = 59 ∧ zOKi kd pc (i + 5) dp pr := by
  obtain ⟨a, b⟩ := zOK_go H e (l := [105, 105, 105, 59]) rfl (by simp) (by decide) (by decide) (by decide)
  obtain ⟨g1, g2, g3, g4⟩ := zSC_c b a (by decide) (by decide) (by decide)
  obtain ⟨i1, i2, i3, i4⟩ := zSC_c g4 g2 (by decide) (by decide) (by decide)
  obtain ⟨j1, j2, j3, j4⟩ := zSC_c i4 i2 (by decide) (by decide) (by decide)
  obtain ⟨k1, k2, k3, k4⟩ := zSC_c j4 j2 (by decide) (by decide) (by decide)
  exact ⟨g1, i1, j1, k1, k2, H.2.1, H.2.2.1, k4⟩
theorem zOK_p (H : zOKi kd pc i dp pr) (e : kd i = 82 ∨ kd i = 71 ∨ kd i = 66) : kd (i + 1) = 105 ∧ kd (i + 2) = 59 ∧ zOKi kd pc (i + 3) dp pr := by
  have key : i + 1 ≤ 400 ∧ zSCn kd pc (i + 1) ([105, 59], dp, pr) = (0, -1) := by
    rcases e with e | e | e <;> exact zOK_go H e (l := [105, 59]) rfl (by simp) (by decide) (by decide) (by decide)
  obtain ⟨a, b⟩ := key
  obtain ⟨g1, g2, g3, g4⟩ := zSC_c b a (by decide) (by decide) (by decide)
  obtain ⟨i1, i2, i3, i4⟩ := zSC_c g4 g2 (by decide) (by decide) (by decide)
  exact ⟨g1, i1, i2, H.2.1, H.2.2.1, i4⟩
theorem zOK_85 (H : zOKi kd pc i dp pr) (e : kd i = 85) : kd (i + 1) = 110 ∧ ∀ j1 j2, j1 = (if kd (i + 2) = 117 then i + 3 else i + 2) → j2 = (if kd j1 = 116 then j1 + 1 else j1) → kd j2 = 59 ∧ zOKi kd pc (j2 + 1) dp pr := by
  obtain ⟨a, b⟩ := zOK_go H e (l := [110, 117, 116, 59]) rfl (by simp) (by decide) (by decide) (by decide)
  obtain ⟨g1, g2, g3, g4⟩ := zSC_c b a (by decide) (by decide) (by decide)
  have g4 : zSCn kd pc (i + 2) ([117, 116, 59], dp, pr) = (0, -1) := g4
  have g2 : i + 2 ≤ 400 := g2
  refine ⟨g1, fun j1 j2 e1 e2 => ?_⟩
  have fin : ∀ (j : Nat) (d : List Int), j ≤ 400 → zSCn kd pc j (d, dp, pr) = (0, -1) → d ≠ [] → zgsD (kd j) d = (if kd j = 59 then some [] else none) → kd j = 59 ∧ zOKi kd pc (j + 1) dp pr := fun j d hj hd dn hz => by
    have sh := zstp_sh (s := (d, dp, pr)) (k := kd j) dn
    have sh : zstpS (d, dp, pr) (kd j) = match zgsD (kd j) d with
      | none => none
      | some r' => some (r', if kd j = 123 then dp + 1 else dp, pr) := sh
    rw [hz] at sh
    by_cases q : kd j = 59
    · rw [if_pos q, if_neg (by omega)] at sh
      obtain ⟨s', a, b, c, f, g⟩ := zSC_in hd hj (by omega)
      rw [sh] at a
      injection a with a
      rw [← a] at b
      exact ⟨q, c, H.2.1, H.2.2.1, b⟩
    · rw [if_neg q] at sh
      exact (zSC_fl hd hj sh).elim
  have at1 : ∀ (j : Nat) (d : List Int), j ≤ 400 → zSCn kd pc j (d, dp, pr) = (0, -1) → d ≠ [] → zgsD (kd j) d = zgsD (kd j) [116, 59] → j2 = (if kd j = 116 then j + 1 else j) → kd j2 = 59 ∧ zOKi kd pc (j2 + 1) dp pr := fun j d hj hd dn hz ej => by
    by_cases q : kd j = 116
    · rw [if_pos q] at ej
      have sh := zstp_sh (s := (d, dp, pr)) (k := kd j) dn
      have sh : zstpS (d, dp, pr) (kd j) = match zgsD (kd j) d with
        | none => none
        | some r' => some (r', if kd j = 123 then dp + 1 else dp, pr) := sh
      have e3 : zgsD (kd j) [116, 59] = some [59] := by rw [q]; exact zgs_3
      rw [hz, e3, if_neg (by omega)] at sh
      obtain ⟨s', a, b, c, f, g⟩ := zSC_in hd hj (by omega)
      rw [sh] at a
      injection a with a
      rw [← a] at b
      rw [ej]
      exact fin (j + 1) [59] c b (by simp) (zgs_1 (by decide) (by decide))
    · rw [if_neg q] at ej
      rw [ej]
      exact fin j d hj hd dn (by rw [hz, zgs_2 q (by decide), zgs_1 (by decide) (by decide)])
  by_cases q : kd (i + 2) = 117
  · rw [if_pos q] at e1
    have sh : zstpS ([117, 116, 59], dp, pr) (kd (i + 2)) = some ([116, 59], dp, pr) := by rw [q]; rfl
    obtain ⟨s', a, b, c, f, g⟩ := zSC_in g4 g2 (by omega)
    rw [sh] at a
    injection a with a
    rw [← a] at b
    refine at1 (i + 3) [116, 59] c b (by simp) rfl ?_
    rw [e2, e1]
  · rw [if_neg q] at e1
    refine at1 (i + 2) [117, 116, 59] g2 g4 (by simp) (zgs_2 q (by decide)) ?_
    rw [e2, e1]
theorem zOK_dom (H : zOKi kd pc i dp pr) : kd i = 69 ∨ kd i = 80 ∨ kd i = 84 ∨ kd i = 125 ∨ kd i = 85 ∨ kd i = 77 ∨ (kd i = 82 ∨ kd i = 71 ∨ kd i = 66) := by
  by_cases c : kd i = 69
  · exact Or.inl c
  · obtain ⟨s', a, b, d, f, g⟩ := zSC_in H.2.2.2 H.1 c
    by_cases c2 : kd i = 125
    · omega
    · by_cases c3 : kd i = 80
      · omega
      · rw [zstp_nil, if_neg c, if_neg c2, if_neg (fun z => c3 z.1)] at a
        by_cases z : zshB (kd i) = []
        · rw [if_pos z] at a
          cases a
        · unfold zshB at z
          by_cases z1 : kd i = 82 ∨ kd i = 71 ∨ kd i = 66
          · omega
          · rw [if_neg z1] at z
            by_cases z2 : kd i = 77
            · omega
            · rw [if_neg z2] at z
              by_cases z3 : kd i = 85
              · omega
              · rw [if_neg z3] at z
                by_cases z4 : kd i = 84
                · omega
                · rw [if_neg z4, if_neg c3] at z
                  exact absurd rfl z
end
