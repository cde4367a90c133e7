/-! TEXTS, THE CLASS: ALL IS TOLD -/
def zTp (pc : Nat → Int) (tp : Int) : zTS → Prop
  | (_, _, _, op, _, st, _, fs) => (∀ j, op = some j → tp = pc j) ∧ (op = none → st ≠ [] → tp = pc fs)
theorem zpst_op {op : Option Nat} {st : List (Int × Nat)} {f : Int × Int} {I : List zTe} {p q : Int} (h : op = none → p = q) : zpst op st f I p = zpst op st f I q := by
  by_cases c : op = none
  · rw [h c]
  · unfold zpst
    rw [if_neg (fun z => c z.1), if_neg (fun z => c z.1)]
section
variable {X : List Int} {h : zHP} {K : Option zAV → zHP → Prop} {tb : Nat → Nat} {vl : Nat → Int} {T L n : Nat} {tp : Int} {i : Nat} {ft : Int × Int} {P : List (Int × List zTe)} {op : Option Nat} {B : List zTe} {st : List (Int × Nat)} {I : List zTe} {fs : Nat}
/-- behind a statement -/
theorem zpost (F : zFin h) (S : zSa h n tp i ft P.length op st.length) (R : zRe h vl n P op B st I) (k : ∀ h', zNt h h' (zpst op st ft I tp) → K none h') : ((¬ (some (zoc op P.length) : Option Nat) = some 76) → (fun v sh' h' => sh' = zSHc ∧ K v h') none zSHc h) ∧ (((some (zoc op P.length) : Option Nat) = some 76) → (¬ h 75 12 = 0) → (fun v sh' h' => sh' = zSHc ∧ K v h') none zSHc h) ∧ (((some (zoc op P.length) : Option Nat) = some 76) → (h 75 12 = 0) → (¬ (200 < h 76 3 ∨ 20 < h 76 4)) → (fun v sh' h' => sh' = zSHc ∧ K v h') none zSHc h) ∧ (((some (zoc op P.length) : Option Nat) = some 76) → (h 75 12 = 0) → (200 < h 76 3 ∨ 20 < h 76 4) → zC X 109 [zR 75, zI 6, zI (h 75 13)] h (fun v h9 => zAt X 111 206 0 0 [none] (zpush v []) zSHc h9 (fun v sh' h' => sh' = zSHc ∧ K v h'))) := by
  have N0 := zNt.rf F S.2.2.2.1 S.2.2.2.2
  have e12 := S.2.1.2.2
  have e13 := S.2.2.1
  have on : (some (zoc op P.length) : Option Nat) = some 76 → op = none := fun z => by
    by_cases c : op = none
    · exact c
    · injection z with z
      rw [show zoc op P.length = 80 + 3 * P.length from if_neg c] at z
      omega
  have lg : op = none → ((200 < h 76 3 ∨ 20 < h 76 4) ↔ zlgL I) := fun o => by
    have L := R.2.2.2.2.1
    rw [show zoc op P.length = 76 from if_pos o] at L
    exact zlg_iff L.1.2.1 L.1.2.2.1
  refine ⟨fun z => ⟨rfl, k h ?_⟩, fun z y => ⟨rfl, k h ?_⟩, fun z y w => ⟨rfl, k h ?_⟩, fun z y w => ?_⟩
  · rw [show zpst op st ft I tp = ft from if_neg fun c => z (by rw [show zoc op P.length = 76 from if_pos c.1])]
    exact N0
  · rw [show zpst op st ft I tp = ft from if_neg fun c => y (by rw [e12, c.2.1]; rfl)]
    exact N0
  · rw [show zpst op st ft I tp = ft from if_neg fun c => w ((lg c.1).mpr c.2.2)]
    exact N0
  · rw [e13]
    refine cx_109 F S.2.2.2.1 S.2.2.2.2 fun h1 N => sg_111_206c ⟨rfl, k h1 ?_⟩
    have s0 : st = [] := List.length_eq_zero_iff.mp (by omega)
    rw [show zpst op st ft I tp = zno ft 6 tp from if_pos ⟨on z, s0, (lg (on z)).mp w⟩]
    exact N
/-- tellNext -/
theorem cx_111 (F : zFin h) (t : zTKc h tb T L) (C : zCTs h (zvlT tb T) n tp (i, ft, P, op, B, st, I, fs)) (H : zTIv (zkdT tb T) (fun i => (zpcT tb T i : Int)) (i, ft, P, op, B, st, I, fs)) (G : op ≠ none → zlgL B → ft.1 ≠ 0 ∧ ft.2 < (zpcT tb T fs : Int)) (Tp : zTp (fun i => (zpcT tb T i : Int)) tp (i, ft, P, op, B, st, I, fs)) (n69 : zkdT tb T i ≠ 69) (hn : n ≤ 7) (k : ∀ h' tp', zTb h h' → zCTs h' (zvlT tb T) n tp' (zstT zlk1 (n : Int) (zkdT tb T) (zvlT tb T) (fun i => (zpcT tb T i : Int)) (i, ft, P, op, B, st, I, fs)) → zTp (fun i => (zpcT tb T i : Int)) tp' (zstT zlk1 (n : Int) (zkdT tb T) (zvlT tb T) (fun i => (zpcT tb T i : Int)) (i, ft, P, op, B, st, I, fs)) → K none h') : zC X 111 [zR 75] h K := by
  have H2 := zTIv_st (lk := zlk1) (legs := (n : Int)) (vl := zvlT tb T) (fun i hi => zvl_int hi) H n69
  obtain ⟨S, R⟩ := C
  obtain ⟨ok, sv, PL, hop, hst, hq⟩ := H
  obtain ⟨T1, T2⟩ := Tp
  have ok0 := ok
  obtain ⟨i4, dp4, pr8, _⟩ := ok
  have iL : i < L := by
    by_cases c : L < i
    · exact absurd t.2.2.1 (hq L c)
    · by_cases d : i = L
      · rw [d] at n69; exact absurd t.2.2.1 n69
      · omega
  have nextL : ∀ j, (∀ q, q < j → zkdT tb T q ≠ 69) → j ≤ L := fun j hj => by
    by_cases c : L < j
    · exact absurd t.2.2.1 (hj L c)
    · omega
  have h8 : P.length + zo1 op ≤ 8 := pr8
  have d4 : st.length + zo1 op ≤ 4 := dp4
  have e9 := S.1.2.2.2
  have e12 := S.2.1.2.2
  have l76 : zLad 76 := by unfold zLad; omega
  have zs : ∀ (o : Option Nat) (m : Nat), m + zo1 o ≤ 8 → zsm (some (zoc o m)) := fun o m hm => by
    have := zoc_ok hm
    unfold zLad at this
    show zoc o m < 1000
    omega
  have kf : op ≠ none ∨ st ≠ [] → zfs1 op st i fs = fs := fun z => if_neg fun w => by
    rcases z with z | z
    · exact z w.1
    · exact z w.2
  /- a statement, from the place told -/
  have disp : ∀ (H1 : zHP) (tq : Int), zTb h H1 → zSa H1 n tq i ft P.length op st.length → zRe H1 (zvlT tb T) n P op B st I → (op = none → tq = (zpcT tb T (zfs1 op st i fs) : Int)) → (∀ j, op = some j → tq = (zpcT tb T j : Int)) →
      (zkdT tb T i = 66 → zAt X 111 155 0 0 [some (zR 75)] [] zSHc H1 (fun v sh' h' => sh' = zSHc ∧ K v h')) ∧ (zkdT tb T i = 71 → zAt X 111 147 0 0 [some (zR 75)] [] zSHc H1 (fun v sh' h' => sh' = zSHc ∧ K v h')) ∧ (zkdT tb T i = 77 → zAt X 111 140 0 0 [some (zR 75)] [] zSHc H1 (fun v sh' h' => sh' = zSHc ∧ K v h')) ∧ (zkdT tb T i = 80 → zAt X 111 112 0 0 [some (zR 75)] [] zSHc H1 (fun v sh' h' => sh' = zSHc ∧ K v h')) ∧ (zkdT tb T i = 84 → zAt X 111 119 0 0 [some (zR 75)] [] zSHc H1 (fun v sh' h' => sh' = zSHc ∧ K v h')) ∧ (zkdT tb T i = 85 → zAt X 111 133 0 0 [some (zR 75)] [] zSHc H1 (fun v sh' h' => sh' = zSHc ∧ K v h')) ∧ (zkdT tb T i = 125 → zAt X 111 126 0 0 [some (zR 75)] [] zSHc H1 (fun v sh' h' => sh' = zSHc ∧ K v h')) ∧ (zkdT tb T i = 82 → zAt X 111 163 0 0 [some (zR 75)] [] zSHc H1 (fun v sh' h' => sh' = zSHc ∧ K v h')) := fun H1 tq b S1 R1 tq0 tq1 => by
    have t1 := b.tk t
    /- the end of a statement that adds -/
    have fin : ∀ (h2 : zHP) (j : Nat) (f2 : Int × Int) (st2 : List (Int × Nat)) (I2 : List zTe), zTb H1 h2 → zSa h2 n tq j f2 P.length op st2.length → zRe h2 (zvlT tb T) n P op B st2 I2 → zstT zlk1 (n : Int) (zkdT tb T) (zvlT tb T) (fun i => (zpcT tb T i : Int)) (i, ft, P, op, B, st, I, fs) = (j, zpst op st2 f2 I2 (zpcT tb T (zfs1 op st i fs) : Int), P, op, B, st2, I2, zfs1 op st i fs) → ∀ h3, zNt h2 h3 (zpst op st2 f2 I2 tq) → K none h3 := fun h2 j f2 st2 I2 b2 S2 R2 e h3 N => by
      have ep : zpst op st2 f2 I2 tq = zpst op st2 f2 I2 (zpcT tb T (zfs1 op st i fs) : Int) := zpst_op tq0
      rw [ep] at N
      refine k h3 tq ((b.tr b2).tr (zTb.nt N)) ?_ ?_
      · rw [e]; exact ⟨S2.nt N, R2.nt N⟩
      · rw [e]; exact ⟨tq1, fun o _ => tq0 o⟩
    refine ⟨fun e => ?_, fun e => ?_, fun e => ?_, fun e => ?_, fun e => ?_, fun e => ?_, fun e => ?_, fun e => ?_⟩
    · have ez := zst_p (lk := zlk1) (legs := (n : Int)) (vl := zvlT tb T) (pc := fun i => (zpcT tb T i : Int)) (ft := ft) (P := P) (op := op) (B := B) (st := st) (I := I) (fs := fs) (q := 2) (Or.inr (Or.inr ⟨e, rfl⟩))
      rw [ez] at H2
      have jL := nextL _ H2.2.2.2.2.2
      obtain ⟨q1, q2, q3⟩ := zOK_p ok0 (Or.inr (Or.inr e))
      refine sg_111_155 (cx_112 (q := 2) b.1 t1 S1 R1 sv h8 hn (by decide) (by omega) q1 rfl fun h2 b2 S2 R2 => ?_)
      obtain ⟨p1, p2, p3, p4⟩ := zpost (X := X) (K := K) b2.1 S2 R2 (fin h2 _ _ _ _ b2 S2 R2 ez)
      exact sg_111_160c b2.1 l76 S2.1.2.1 p1 p2 p3 p4 (zs _ _ h8)
    · have ez := zst_p (lk := zlk1) (legs := (n : Int)) (vl := zvlT tb T) (pc := fun i => (zpcT tb T i : Int)) (ft := ft) (P := P) (op := op) (B := B) (st := st) (I := I) (fs := fs) (q := 1) (Or.inr (Or.inl ⟨e, rfl⟩))
      rw [ez] at H2
      have jL := nextL _ H2.2.2.2.2.2
      obtain ⟨q1, q2, q3⟩ := zOK_p ok0 (Or.inr (Or.inl e))
      refine sg_111_147 (cx_112 (q := 1) b.1 t1 S1 R1 sv h8 hn (by decide) (by omega) q1 rfl fun h2 b2 S2 R2 => ?_)
      obtain ⟨p1, p2, p3, p4⟩ := zpost (X := X) (K := K) b2.1 S2 R2 (fin h2 _ _ _ _ b2 S2 R2 ez)
      exact sg_111_152c b2.1 l76 S2.1.2.1 p1 p2 p3 p4 (zs _ _ h8)
    · have ez := zst_77 (lk := zlk1) (legs := (n : Int)) (vl := zvlT tb T) (pc := fun i => (zpcT tb T i : Int)) (ft := ft) (P := P) (op := op) (B := B) (st := st) (I := I) (fs := fs) e
      rw [ez] at H2
      have jL := nextL _ H2.2.2.2.2.2
      obtain ⟨q1, q2, q3, q4, q5⟩ := zOK_77 ok0 e
      refine sg_111_140 (cx_114 b.1 t1 S1 R1 sv h8 hn (by omega) q1 q2 q3 fun h2 b2 S2 R2 => ?_)
      obtain ⟨p1, p2, p3, p4⟩ := zpost (X := X) (K := K) b2.1 S2 R2 (fin h2 _ _ _ _ b2 S2 R2 ez)
      exact sg_111_144c b2.1 l76 S2.1.2.1 p1 p2 p3 p4 (zs _ _ h8)
    · have ez := zst_80 (lk := zlk1) (legs := (n : Int)) (vl := zvlT tb T) (pc := fun i => (zpcT tb T i : Int)) (ft := ft) (P := P) (op := op) (B := B) (st := st) (I := I) (fs := fs) e
      rw [ez] at H2
      have jL := nextL _ H2.2.2.2.2.2
      obtain ⟨q1, q2, q3, q4⟩ := zOK_80 ok0 e
      have o0 : op = none := by
        by_cases z : op = none
        · exact z
        · have : zo1 op = 1 := if_neg z
          omega
      have s0 : st = [] := List.length_eq_zero_iff.mp (by omega)
      subst o0
      subst s0
      have h8' := q4.2.2.1
      have R1' : zRe H1 (zvlT tb T) n P none [] [] I := by
        obtain ⟨r1, r2, r3, r4, r5, r6, r7⟩ := R1
        exact ⟨r1, r2, r3, r4, r5, fun z => absurd rfl z, r7⟩
      have h8'' : P.length < 8 := h8'
      refine sg_111_112 (cx_118 b.1 t1 S1 R1' h8'' (by omega) fun h2 b2 S2 R2 => ?_)
      have fin2 : ∀ h3, zNt h2 h3 (zpst (some (i + 1)) [] (if zhasP P (zvlT tb T (i + 1)) = true then zno ft 3 (zpcT tb T (i + 1) : Int) else ft) [] (zpcT tb T (i + 1) : Int)) → K none h3 := fun h3 N => by
        refine k h3 (zpcT tb T (i + 1) : Int) ((b.tr b2).tr (zTb.nt N)) ?_ ?_
        · rw [ez]; exact ⟨S2.nt N, R2.nt N⟩
        · rw [ez]; exact ⟨fun j ej => by injection ej with ej; rw [← ej], fun o => (by cases o)⟩
      obtain ⟨p1, p2, p3, p4⟩ := zpost (X := X) (K := K) (st := []) b2.1 S2 R2 fin2
      exact sg_111_116c b2.1 l76 S2.1.2.1 p1 p2 p3 p4 (zs (some (i + 1)) _ h8')
    · have ez := zst_84 (lk := zlk1) (legs := (n : Int)) (vl := zvlT tb T) (pc := fun i => (zpcT tb T i : Int)) (ft := ft) (P := P) (op := op) (B := B) (st := st) (I := I) (fs := fs) e
      rw [ez] at H2
      have jL := nextL _ H2.2.2.2.2.2
      obtain ⟨q1, q2, q3⟩ := zOK_84 ok0 e
      have q3 := q3.2.1
      refine sg_111_119 (cx_117 b.1 t1 S1 R1 h8 (by omega) (by omega) q1 fun h2 b2 S2 R2 => ?_)
      have S2 : zSa h2 n tq (i + 3) (if 20 < zvlT tb T (i + 1) then zno ft 5 (zpcT tb T (i + 1) : Int) else ft) P.length op ((zvlT tb T (i + 1), I.length) :: st).length := S2
      have pz : zpst op ((zvlT tb T (i + 1), I.length) :: st) (if 20 < zvlT tb T (i + 1) then zno ft 5 (zpcT tb T (i + 1) : Int) else ft) I (zpcT tb T (zfs1 op st i fs) : Int) = (if 20 < zvlT tb T (i + 1) then zno ft 5 (zpcT tb T (i + 1) : Int) else ft) := if_neg fun c => by cases c.2.1
      obtain ⟨p1, p2, p3, p4⟩ := zpost (X := X) (K := K) b2.1 S2 R2 (fin h2 _ _ _ _ b2 S2 R2 (by rw [pz]; exact ez))
      exact sg_111_123c b2.1 l76 S2.1.2.1 p1 p2 p3 p4 (zs _ _ h8)
    · have ez := zst_85 (lk := zlk1) (legs := (n : Int)) (vl := zvlT tb T) (pc := fun i => (zpcT tb T i : Int)) (ft := ft) (P := P) (op := op) (B := B) (st := st) (I := I) (fs := fs) e
      rw [ez] at H2
      have jL := nextL _ H2.2.2.2.2.2
      refine sg_111_133 (cx_115 b.1 t1 S1 R1 sv h8 hn (by omega) fun h2 b2 S2 R2 => ?_)
      obtain ⟨p1, p2, p3, p4⟩ := zpost (X := X) (K := K) b2.1 S2 R2 (fin h2 _ _ _ _ b2 S2 R2 ez)
      exact sg_111_137c b2.1 l76 S2.1.2.1 p1 p2 p3 p4 (zs _ _ h8)
    · cases st with
      | cons s r =>
        obtain ⟨tt, m⟩ := s
        have ez := zst_125 (lk := zlk1) (legs := (n : Int)) (vl := zvlT tb T) (pc := fun i => (zpcT tb T i : Int)) (ft := ft) (P := P) (op := op) (B := B) (t := tt) (m := m) (r := r) (I := I) (fs := fs) e
        have ef := kf (Or.inr (by simp))
        have lr : r.length + 1 + zo1 op ≤ 4 := d4
        refine sg_111_126 (cx_119t b.1 S1 R1 sv h8 (by omega) i4 fun h2 b2 S2 R2 => ?_)
        obtain ⟨p1, p2, p3, p4⟩ := zpost (X := X) (K := K) b2.1 S2 R2 (fin h2 _ _ _ _ b2 S2 R2 (by rw [ef]; exact ez))
        exact sg_111_130c b2.1 l76 S2.1.2.1 p1 p2 p3 p4 (zs _ _ h8)
      | nil =>
        cases op with
        | none => exact absurd (zOK_125 ok0 e).1 (by show ¬ 1 ≤ 0 + 0; decide)
        | some j =>
          have ez := zst_125p (lk := zlk1) (legs := (n : Int)) (vl := zvlT tb T) (pc := fun i => (zpcT tb T i : Int)) (ft := ft) (P := P) (B := B) (I := I) (fs := fs) (j := j) e
          have h8' : P.length + 1 ≤ 8 := h8
          refine sg_111_126 (cx_119p b.1 S1 R1 (by omega) i4 fun h2 b2 S2 R2 => ?_)
          rw [tq1 j rfl] at S2
          have hj := hop j rfl
          have keep : zpst none [] (if zlgL I then zno ft 6 (zpcT tb T j : Int) else ft) B (zpcT tb T j : Int) = (if zlgL I then zno ft 6 (zpcT tb T j : Int) else ft) := by
            unfold zpst
            by_cases c : zlgL B
            · rw [if_pos ⟨rfl, rfl, c⟩]
              have g := G (by simp) c
              have lt := zpcm (pc := fun i => (zpcT tb T i : Int)) (fun i hi => zpc_mono hi) hq (show fs < j by omega) (by omega)
              have lt : (zpcT tb T fs : Int) < (zpcT tb T j : Int) := lt
              have g2 : (if zlgL I then zno ft 6 (zpcT tb T j : Int) else ft).1 ≠ 0 ∧ (if zlgL I then zno ft 6 (zpcT tb T j : Int) else ft).2 < (zpcT tb T j : Int) := by
                split
                · exact zno_lt ⟨g.1, by omega⟩ (by decide)
                · exact ⟨g.1, by omega⟩
              exact zno_keep g2.1 (Or.inl g2.2)
            · rw [if_neg fun z => c z.2.2]
          have fin2 : ∀ h3, zNt h2 h3 (zpst none [] (if zlgL I then zno ft 6 (zpcT tb T j : Int) else ft) B (zpcT tb T j : Int)) → K none h3 := fun h3 N => by
            rw [keep] at N
            refine k h3 (zpcT tb T j : Int) ((b.tr b2).tr (zTb.nt N)) ?_ ?_
            · rw [ez]; exact ⟨S2.nt N, R2.nt N⟩
            · rw [ez]; exact ⟨fun j ej => (by cases ej), fun _ z => absurd rfl z⟩
          have len : (P ++ [(zvlT tb T j, I.take 200)]).length = P.length + 1 := by rw [List.length_append]; rfl
          obtain ⟨p1, p2, p3, p4⟩ := zpost (X := X) (K := K) (st := []) b2.1 S2 R2 fin2
          exact sg_111_130c b2.1 l76 S2.1.2.1 p1 p2 p3 p4 (zs none _ (by rw [len]; exact h8'))
    · have ez := zst_p (lk := zlk1) (legs := (n : Int)) (vl := zvlT tb T) (pc := fun i => (zpcT tb T i : Int)) (ft := ft) (P := P) (op := op) (B := B) (st := st) (I := I) (fs := fs) (q := 0) (Or.inl ⟨e, rfl⟩)
      rw [ez] at H2
      have jL := nextL _ H2.2.2.2.2.2
      obtain ⟨q1, q2, q3⟩ := zOK_p ok0 (Or.inl e)
      refine sg_111_163 (cx_112 (q := 0) b.1 t1 S1 R1 sv h8 hn (by decide) (by omega) q1 rfl fun h2 b2 S2 R2 => ?_)
      obtain ⟨p1, p2, p3, p4⟩ := zpost (X := X) (K := K) b2.1 S2 R2 (fin h2 _ _ _ _ b2 S2 R2 ez)
      exact sg_111_168c b2.1 l76 S2.1.2.1 p1 p2 p3 p4 (zs _ _ h8)
  have kk : zTkK h (h 75 9) = zkdT tb T i := t.kk (by omega) e9
  have pp : zTkP h (h 75 9) = (zpcT tb T i : Int) := t.pp iL e9
  have kk2 : zTkK (zup h 75 13 (zTkP h (h 75 9))) (h 75 9) = zkdT tb T i := by rw [zTkK_up]; exact kk
  have dom := zOK_dom ok0
  have d82 : (¬ zkdT tb T i = 66 ∧ ¬ zkdT tb T i = 71 ∧ ¬ zkdT tb T i = 77 ∧ ¬ zkdT tb T i = 80 ∧ ¬ zkdT tb T i = 84 ∧ ¬ zkdT tb T i = 85 ∧ ¬ zkdT tb T i = 125) → zkdT tb T i = 82 := fun z => by omega
  by_cases o : op = none
  · have r76 : (some (zoc op P.length) : Option Nat) = some 76 := by rw [show zoc op P.length = 76 from if_pos o]
    by_cases s : st = []
    · have z12 : h 75 12 = 0 := by rw [e12, s]; rfl
      have ef : zfs1 op st i fs = i := if_pos ⟨o, s⟩
      have S1 : zSa (zup h 75 13 (zTkP h (h 75 9))) n (zpcT tb T i : Int) i ft P.length op st.length := by
        obtain ⟨⟨a1, a2, a3, a4⟩, ⟨b1, b2, b3⟩, c1, c2, c3⟩ := S
        refine ⟨⟨?_, ?_, ?_, ?_⟩, ⟨?_, ?_, ?_⟩, by rw [zup_eq]; exact pp, ?_, ?_⟩
        all_goals rw [zup_k (by decide)]; assumption
      obtain ⟨g1, g2, g3, g4, g5, g6, g7, g8⟩ := disp _ _ ⟨F.up (by decide), zfr.rfl.up (by decide)⟩ S1 R.up (fun _ => by rw [ef]) (fun j ej => by rw [o] at ej; cases ej)
      exact sg_111_0 F S.1.2.1 (fun z => absurd r76 z) (fun z => absurd r76 z) (fun z => absurd r76 z) (fun z => absurd r76 z) (fun z => absurd r76 z) (fun z => absurd r76 z) (fun z => absurd r76 z) (fun z => absurd r76 z) (fun z => absurd r76 z) (fun _ z => absurd z12 z) (fun _ z => absurd z12 z) (fun _ z => absurd z12 z) (fun _ z => absurd z12 z) (fun _ z => absurd z12 z) (fun _ z => absurd z12 z) (fun _ z => absurd z12 z) (fun _ z => absurd z12 z) (fun _ z => absurd z12 z) (fun _ _ => S.1.1) (fun _ _ => by rw [zup_k (by decide)]; exact S.1.1) (fun _ _ z => g1 (kk2.symm.trans z)) (fun _ _ z => g2 (kk2.symm.trans z)) (fun _ _ z => g3 (kk2.symm.trans z)) (fun _ _ z => g4 (kk2.symm.trans z)) (fun _ _ z => g5 (kk2.symm.trans z)) (fun _ _ z => g6 (kk2.symm.trans z)) (fun _ _ z => g7 (kk2.symm.trans z)) (fun _ _ z => g8 (d82 (by rw [kk2] at z; exact z))) (zs _ _ h8)
    · have z12 : ¬ h 75 12 = 0 := fun z => s (List.length_eq_zero_iff.mp (by omega))
      have ef := kf (Or.inr s)
      obtain ⟨g1, g2, g3, g4, g5, g6, g7, g8⟩ := disp h tp ⟨F, zfr.rfl⟩ S R (fun o => by rw [ef]; exact T2 o s) T1
      exact sg_111_0 F S.1.2.1 (fun z => absurd r76 z) (fun z => absurd r76 z) (fun z => absurd r76 z) (fun z => absurd r76 z) (fun z => absurd r76 z) (fun z => absurd r76 z) (fun z => absurd r76 z) (fun z => absurd r76 z) (fun z => absurd r76 z) (fun _ _ => S.1.1) (fun _ _ z => g1 (kk.symm.trans z)) (fun _ _ z => g2 (kk.symm.trans z)) (fun _ _ z => g3 (kk.symm.trans z)) (fun _ _ z => g4 (kk.symm.trans z)) (fun _ _ z => g5 (kk.symm.trans z)) (fun _ _ z => g6 (kk.symm.trans z)) (fun _ _ z => g7 (kk.symm.trans z)) (fun _ _ z => g8 (d82 (by rw [kk] at z; exact z))) (fun _ z => absurd z z12) (fun _ z => absurd z z12) (fun _ z => absurd z z12) (fun _ z => absurd z z12) (fun _ z => absurd z z12) (fun _ z => absurd z z12) (fun _ z => absurd z z12) (fun _ z => absurd z z12) (fun _ z => absurd z z12) (fun _ z => absurd z z12) (zs _ _ h8)
  · have r76 : ¬ (some (zoc op P.length) : Option Nat) = some 76 := fun z => by
      injection z with z
      rw [show zoc op P.length = 80 + 3 * P.length from if_neg o] at z
      omega
    obtain ⟨g1, g2, g3, g4, g5, g6, g7, g8⟩ := disp h tp ⟨F, zfr.rfl⟩ S R (fun z => absurd z o) T1
    exact sg_111_0 F S.1.2.1 (fun _ => S.1.1) (fun _ z => g1 (kk.symm.trans z)) (fun _ z => g2 (kk.symm.trans z)) (fun _ z => g3 (kk.symm.trans z)) (fun _ z => g4 (kk.symm.trans z)) (fun _ z => g5 (kk.symm.trans z)) (fun _ z => g6 (kk.symm.trans z)) (fun _ z => g7 (kk.symm.trans z)) (fun _ z => g8 (d82 (by rw [kk] at z; exact z))) (fun z => absurd z r76) (fun z => absurd z r76) (fun z => absurd z r76) (fun z => absurd z r76) (fun z => absurd z r76) (fun z => absurd z r76) (fun z => absurd z r76) (fun z => absurd z r76) (fun z => absurd z r76) (fun z => absurd z r76) (fun z => absurd z r76) (fun z => absurd z r76) (fun z => absurd z r76) (fun z => absurd z r76) (fun z => absurd z r76) (fun z => absurd z r76) (fun z => absurd z r76) (fun z => absurd z r76) (fun z => absurd z r76) (zs _ _ h8)
end
