/-! TEXTS, THE REFERENCE: ALL IS TOLD, STEP BY STEP -/
theorem zSC_end {kd pc : Nat → Int} : ∀ (p i : Nat) (s : zSte), 401 - i = p → i ≤ 400 → zSCn kd pc i s = (0, -1) → ∃ j, i ≤ j ∧ j ≤ 400 ∧ kd j = 69 ∧ ∀ q, i ≤ q → q < j → kd q ≠ 69 ∧ kd q ≠ 63 := by
  intro p
  induction p with
  | zero => intro i s hp hi; omega
  | succ p ih =>
    intro i s hp hi h
    by_cases c : kd i = 69
    · exact ⟨i, Nat.le_refl _, hi, c, fun q a b => by omega⟩
    · have n63 : kd i ≠ 63 := fun z => by
        rw [zSC_go hi] at h
        have e : zflN i (kd i) s = 1 := if_pos z
        rw [e, if_neg (by decide)] at h
        injection h with h1 h2
        omega
      obtain ⟨s', a, b, d, _, _⟩ := zSC_in h hi c
      obtain ⟨j, j1, j2, j3, j4⟩ := ih (i + 1) s' (by omega) d b
      refine ⟨j, by omega, j2, j3, fun q q1 q2 => ?_⟩
      by_cases z : q = i
      · rw [z]; exact ⟨c, n63⟩
      · exact j4 q (by omega) q2
theorem zTKm.end {h : zHP} {tb : Nat → Nat} {T L : Nat} (t : zTKm h tb T L) (h0 : zS0T tb T = (0, -1)) : zkdT tb T L = 69 ∧ L ≤ 400 := by
  obtain ⟨j, _, j2, j3, j4⟩ := zSC_end 401 0 _ rfl (Nat.zero_le _) h0
  have e : j = L := by
    by_cases c : j < L
    · exact absurd j3 (t.2.2.1 j c).1
    · by_cases d : j = L
      · exact d
      · have := j4 L (Nat.zero_le _) (by omega)
        rcases t.2.1 with z | z
        · exact absurd z this.1
        · exact absurd z this.2
  rw [← e]
  exact ⟨j3, j2⟩
def zMCs (h : zHP) (tb : Nat → Nat) (T n : Nat) : zTS → Prop
  | (i, ft, P, op, B, st, I, _) => zMSa h n i ft P.length op st.length ∧ zMRe h tb T n P op B st I
section
variable {X : List Int} {h : zHP} {Q : zPO} {tb : Nat → Nat} {T L n : Nat} {i : Nat} {ft : Int × Int} {P : List (Int × List zTe)} {op : Option Nat} {B : List zTe} {st : List (Int × Nat)} {I : List zTe} {fs : Nat}
theorem zh73 {x1 y : Int} (F : zFin h) (o1 : 0 ≤ h 108 19 ∧ h 108 19 < 2001) (n4 : ¬ h 120 ((h 108 19).toNat) = 4) (hy : y = if h 108 31 = 0 then h 108 19 else x1) (k2 : (¬ h 120 ((h 108 19).toNat) = 3) → zC X 237 [zR 108] h (fun v h9 => zAt X 238 134 0 0 [some (zR 108), some (zI y), none] (zpush v []) zSHc h9 Q)) (k3 : (h 120 ((h 108 19).toNat) = 3) → (¬ h 122 ((h 108 19).toNat) = (-1)) → (¬ h 122 ((h 108 19).toNat) = 1) → (¬ h 122 ((h 108 19).toNat) = 5) → (¬ h 122 ((h 108 19).toNat) = 6) → (¬ h 122 ((h 108 19).toNat) = 9) → zC X 232 [zR 108, zI (h 122 ((h 108 19).toNat))] h (fun v h9 => zAt X 238 192 0 0 [some (zR 108), some (zI y), none] (zpush v []) zSHc h9 Q)) (k4 : (h 120 ((h 108 19).toNat) = 3) → (h 122 ((h 108 19).toNat) = 9) → zC X 236 [zR 108] h (fun v h9 => zAt X 238 184 0 0 [some (zR 108), some (zI y), none] (zpush v []) zSHc h9 Q)) (k5 : (h 120 ((h 108 19).toNat) = 3) → (h 122 ((h 108 19).toNat) = 6) → zC X 234 [zR 108] h (fun v h9 => zAt X 238 171 0 0 [some (zR 108), some (zI y), none] (zpush v []) zSHc h9 Q)) (k6 : (h 120 ((h 108 19).toNat) = 3) → (h 122 ((h 108 19).toNat) = 5) → zC X 233 [zR 108] h (fun v h9 => zAt X 238 158 0 0 [some (zR 108), some (zI y), none] (zpush v []) zSHc h9 Q)) (k7 : (h 120 ((h 108 19).toNat) = 3) → (h 122 ((h 108 19).toNat) = 1) → zC X 235 [zR 108] h (fun v h9 => zAt X 238 146 0 0 [some (zR 108), some (zI y), none] (zpush v []) zSHc h9 Q)) (k8 : (h 120 ((h 108 19).toNat) = 3) → ¬ h 122 ((h 108 19).toNat) = (-1)) : zAt X 238 73 0 0 [some (zR 108), some (zI x1), none] [] zSHc h Q := by
  by_cases d : h 108 31 = 0
  · rw [if_pos d] at hy
    subst hy
    apply sg_238_73 F o1 <;> intros <;> first | exact absurd ‹_› n4 | exact absurd d ‹_› | exact absurd ‹_› (k8 ‹_›) | (apply k2 <;> assumption) | (apply k3 <;> assumption) | (apply k4 <;> assumption) | (apply k5 <;> assumption) | (apply k6 <;> assumption) | (apply k7 <;> assumption)
  · rw [if_neg d] at hy
    subst hy
    apply sg_238_73 F o1 <;> intros <;> first | exact absurd ‹_› n4 | exact absurd ‹_› d | exact absurd ‹_› (k8 ‹_›) | (apply k2 <;> assumption) | (apply k3 <;> assumption) | (apply k4 <;> assumption) | (apply k5 <;> assumption) | (apply k6 <;> assumption) | (apply k7 <;> assumption)
/-- behind a statement -/
theorem zpostM {q : Nat} {x1 : Int} (F : zFin h) (t : zTKm h tb T L) (S : zMSa h n i ft P.length op st.length) (R : zMRe h tb T n P op B st I) (h8 : P.length + zo1 op ≤ 8) (hq : q ≤ L) (hx : x1 = (q : Int)) (k : ∀ h', zMN h h' (zpst op st ft I (zpcT tb T q : Int)) → zAt X 238 73 0 0 [some (zR 108), some (zI x1), none] [] zSHc h' Q) : ((¬ h 108 31 = 0) → zAt X 238 73 0 0 [some (zR 108), some (zI x1), none] [] zSHc h Q) ∧ ((h 108 31 = 0) → (¬ h 108 34 = 8) → zAt X 238 73 0 0 [some (zR 108), some (zI x1), none] [] zSHc h Q) ∧ ((h 108 31 = 0) → (h 108 34 = 8) → zC X 230 [zR 108] h (fun v h9 => zAt X 238 212 0 0 [some (zR 108), some (zI x1), none] (zpush v []) zSHc h9 Q)) := by
  have e31 := S.2.2.1
  have e34 := S.2.2.2.1
  have N0 := zMN.rf F S.1.2.1 S.1.2.2
  have kn : ¬ (op = none ∧ st = []) → zAt X 238 73 0 0 [some (zR 108), some (zI x1), none] [] zSHc h Q := fun c => k h (by
    rw [show zpst op st ft I (zpcT tb T q : Int) = ft from if_neg fun z => c ⟨z.1, z.2.1⟩]
    exact N0)
  refine ⟨fun z => kn fun c => z ?_, fun z w => kn fun c => w ?_, fun z w => ?_⟩
  · rw [e31, c.1, c.2]; rfl
  · rw [e34, c.1]; rfl
  · have o : op = none := by
      by_cases c : op = none
      · exact c
      · have : zo1 op = 1 := if_neg c
        omega
    have s0 : st = [] := List.length_eq_zero_iff.mp (by omega)
    have M := R.2.2.2.1
    rw [show zot op P.length = 8 from if_pos o] at M
    refine cm_230 (t := 8) F (by omega) (by decide) M (fun l => ?_) (fun l => ?_)
    · refine sg_238_212c (fun z => absurd z (by decide)) fun _ => ?_
      refine cm_228 F t S.1.2.1 S.1.2.2 hq hx fun h2 N => sg_238_222c (k h2 ?_)
      rw [show zpst op st ft I (zpcT tb T q : Int) = zno ft 6 (zpcT tb T q : Int) from if_pos ⟨o, s0, l⟩]
      exact N
    · refine sg_238_212c (fun _ => k h ?_) fun z => absurd rfl z
      rw [show zpst op st ft I (zpcT tb T q : Int) = ft from if_neg fun z => l z.2.2]
      exact N0
/-- one statement -/
theorem cm_238s {x1 : Int} (F : zFin h) (t : zTKm h tb T L) (k69 : zkdT tb T L = 69) (C : zMCs h tb T n (i, ft, P, op, B, st, I, fs)) (H : zTIv (zkdT tb T) (fun i => (zpcT tb T i : Int)) (i, ft, P, op, B, st, I, fs)) (G : op ≠ none → zlgL B → ft.1 ≠ 0 ∧ ft.2 < (zpcT tb T fs : Int)) (X1 : (op ≠ none ∨ st ≠ []) → x1 = (fs : Int)) (n69 : zkdT tb T i ≠ 69) (hn : 2 ≤ n ∧ n ≤ 7) (k : ∀ h' x', zMb h h' → zMCs h' tb T n (zstT zlk2 (n : Int) (zkdT tb T) (zvlT tb T) (fun i => (zpcT tb T i : Int)) (i, ft, P, op, B, st, I, fs)) → x' = ((zstT zlk2 (n : Int) (zkdT tb T) (zvlT tb T) (fun i => (zpcT tb T i : Int)) (i, ft, P, op, B, st, I, fs)).2.2.2.2.2.2.2 : Int) → zAt X 238 73 0 0 [some (zR 108), some (zI x'), none] [] zSHc h' Q) : zAt X 238 73 0 0 [some (zR 108), some (zI x1), none] [] zSHc h Q := by
  have H2 := zTIv_st (lk := zlk2) (legs := (n : Int)) (vl := zvlT tb T) (fun i hi => zvl_int hi) H n69
  obtain ⟨S, R⟩ := C
  obtain ⟨ok, sv, PL, hop, hst, hq⟩ := H
  have ok0 := ok
  obtain ⟨i4, dp4, pr8, _⟩ := ok
  have iL : i < L := by
    by_cases c : L < i
    · exact absurd k69 (hq L c)
    · by_cases d : i = L
      · rw [d] at n69; exact absurd k69 n69
      · omega
  have nextL : ∀ j, (∀ q, q < j → zkdT tb T q ≠ 69) → j ≤ L := fun j hj => by
    by_cases c : L < j
    · exact absurd k69 (hj L c)
    · omega
  have h8 : P.length + zo1 op ≤ 8 := pr8
  have d4 : st.length + zo1 op ≤ 4 := dp4
  have e19 := S.1.1
  have e31 := S.2.2.1
  have L2 := t.1
  have kf : op ≠ none ∨ st ≠ [] → zfs1 op st i fs = fs := fun z => if_neg fun w => by
    rcases z with z | z
    · exact z w.1
    · exact z w.2
  have fL : op ≠ none ∨ st ≠ [] → fs < i := fun z => by
    rcases z with z | z
    · obtain ⟨j, ej⟩ := Option.ne_none_iff_exists'.mp z
      have := hop j ej
      omega
    · exact hst z
  have yL : zfs1 op st i fs ≤ L := by
    by_cases c : op = none ∧ st = []
    · rw [show zfs1 op st i fs = i from if_pos c]; omega
    · have z : op ≠ none ∨ st ≠ [] := by
        by_cases o : op = none
        · exact Or.inr fun s => c ⟨o, s⟩
        · exact Or.inl o
      rw [kf z]
      have := fL z
      omega
  have hy : ((zfs1 op st i fs : Nat) : Int) = if h 108 31 = 0 then h 108 19 else x1 := by
    by_cases c : op = none ∧ st = []
    · rw [show zfs1 op st i fs = i from if_pos c, if_pos (by rw [e31, c.1, c.2]; rfl), e19]
    · have z : op ≠ none ∨ st ≠ [] := by
        by_cases o : op = none
        · exact Or.inr fun s => c ⟨o, s⟩
        · exact Or.inl o
      rw [kf z, X1 z, if_neg]
      intro w
      rcases z with z | z
      · have : zo1 op = 1 := if_neg z
        omega
      · exact z (List.length_eq_zero_iff.mp (by omega))
  have m := t.2.2.2 i (by omega)
  have tn : (h 108 19).toNat = i := by omega
  have m1 : h 120 ((h 108 19).toNat) = zsoT (zkdT tb T i) := by rw [tn]; exact m.1
  have m2 : zsoT (zkdT tb T i) = 3 → h 122 ((h 108 19).toNat) = zwxT (zkdT tb T i) := by rw [tn]; exact m.2.2.2.2.1
  have dom := zOK_dom ok0
  have o1 : 0 ≤ h 108 19 ∧ h 108 19 < 2001 := by omega
  have fin : ∀ (h2 : zHP) (j : Nat) (f2 : Int × Int) (st2 : List (Int × Nat)) (I2 : List zTe), zMb h h2 → zMSa h2 n j f2 P.length op st2.length → zMRe h2 tb T n P op B st2 I2 → zstT zlk2 (n : Int) (zkdT tb T) (zvlT tb T) (fun i => (zpcT tb T i : Int)) (i, ft, P, op, B, st, I, fs) = (j, zpst op st2 f2 I2 (zpcT tb T (zfs1 op st i fs) : Int), P, op, B, st2, I2, zfs1 op st i fs) → ∀ h3, zMN h2 h3 (zpst op st2 f2 I2 (zpcT tb T (zfs1 op st i fs) : Int)) → zAt X 238 73 0 0 [some (zR 108), some (zI ((zfs1 op st i fs : Nat) : Int)), none] [] zSHc h3 Q := fun h2 j f2 st2 I2 b2 S2 R2 e h3 N => by
    refine k h3 _ (b2.tr N.mb) ?_ ?_
    · rw [e]; exact ⟨S2.nt N, R2.nt N⟩
    · rw [e]
  rcases dom with e | e | e | e | e | e | e
  · exact absurd e n69
  · have ez := zst_80 (lk := zlk2) (legs := (n : Int)) (vl := zvlT tb T) (pc := fun i => (zpcT tb T i : Int)) (ft := ft) (P := P) (op := op) (B := B) (st := st) (I := I) (fs := fs) e
    rw [ez] at H2
    have jL := nextL _ H2.2.2.2.2.2
    obtain ⟨q1, q2, q3, q4⟩ := zOK_80 ok0 e
    have w1 : h 120 ((h 108 19).toNat) = 3 := by rw [m1, e]; rfl
    have w2 : h 122 ((h 108 19).toNat) = 1 := by rw [m2 (by rw [e]; rfl), e]; rfl
    refine zh73 F o1 (by omega) hy (fun _ => by omega) (fun _ _ _ => by omega) (fun _ _ => by omega) (fun _ _ => by omega) (fun _ _ => by omega) (fun _ _ => ?_) (fun _ => by omega)
    have o0 : op = none := by
      by_cases z : op = none
      · exact z
      · have : zo1 op = 1 := if_neg z
        omega
    have s0 : st = [] := List.length_eq_zero_iff.mp (by omega)
    subst o0
    subst s0
    have h8' := q4.2.2.1
    have h8'' : P.length < 8 := h8'
    refine cm_235 F t S R h8'' (by omega) q2 fun h2 b2 S2 R2 => ?_
    obtain ⟨p1, p2, p3⟩ := zpostM (X := X) (Q := Q) (st := []) b2.1 (t.mb b2) S2 R2 h8' yL rfl fun h3 N => (by
      refine k h3 _ (b2.tr N.mb) ?_ ?_
      · rw [ez]; exact ⟨S2.nt N, R2.nt N⟩
      · rw [ez])
    exact sg_238_146c p1 p2 p3
  · have ez := zst_84 (lk := zlk2) (legs := (n : Int)) (vl := zvlT tb T) (pc := fun i => (zpcT tb T i : Int)) (ft := ft) (P := P) (op := op) (B := B) (st := st) (I := I) (fs := fs) e
    rw [ez] at H2
    have jL := nextL _ H2.2.2.2.2.2
    obtain ⟨q1, q2, q3⟩ := zOK_84 ok0 e
    have q3 := q3.2.1
    have w1 : h 120 ((h 108 19).toNat) = 3 := by rw [m1, e]; rfl
    have w2 : h 122 ((h 108 19).toNat) = 9 := by rw [m2 (by rw [e]; rfl), e]; rfl
    refine zh73 F o1 (by omega) hy (fun _ => by omega) (fun _ _ _ => by omega) (fun _ _ => ?_) (fun _ _ => by omega) (fun _ _ => by omega) (fun _ _ => by omega) (fun _ => by omega)
    refine cm_236 F t S R h8 (by omega) (by omega) q1 fun h2 b2 S2 R2 => ?_
    have S2 : zMSa h2 n (i + 3) (if 20 < zvlT tb T (i + 1) then zno ft 5 (zpcT tb T (i + 1) : Int) else ft) P.length op ((zvlT tb T (i + 1), I.length) :: st).length := S2
    have pz : zpst op ((zvlT tb T (i + 1), I.length) :: st) (if 20 < zvlT tb T (i + 1) then zno ft 5 (zpcT tb T (i + 1) : Int) else ft) I (zpcT tb T (zfs1 op st i fs) : Int) = (if 20 < zvlT tb T (i + 1) then zno ft 5 (zpcT tb T (i + 1) : Int) else ft) := if_neg fun c => by cases c.2.1
    obtain ⟨p1, p2, p3⟩ := zpostM (X := X) (Q := Q) b2.1 (t.mb b2) S2 R2 h8 yL rfl (fin h2 _ _ _ _ b2 S2 R2 (by rw [pz]; exact ez))
    exact sg_238_184c p1 p2 p3
  · have w1 : h 120 ((h 108 19).toNat) = 2 := by rw [m1, e]; rfl
    refine zh73 F o1 (by omega) hy (fun _ => ?_) (fun _ _ _ => by omega) (fun _ _ => by omega) (fun _ _ => by omega) (fun _ _ => by omega) (fun _ _ => by omega) (fun _ => by omega)
    cases st with
    | cons s r =>
      obtain ⟨tt, m⟩ := s
      have ez := zst_125 (lk := zlk2) (legs := (n : Int)) (vl := zvlT tb T) (pc := fun i => (zpcT tb T i : Int)) (ft := ft) (P := P) (op := op) (B := B) (t := tt) (m := m) (r := r) (I := I) (fs := fs) e
      have ef := kf (Or.inr (by simp))
      have lr : r.length + 1 + zo1 op ≤ 4 := d4
      refine cm_237t F S R sv h8 lr i4 fun h2 b2 S2 R2 => ?_
      obtain ⟨p1, p2, p3⟩ := zpostM (X := X) (Q := Q) b2.1 (t.mb b2) S2 R2 h8 yL rfl (fin h2 _ _ _ _ b2 S2 R2 (by rw [ef]; exact ez))
      exact sg_238_134c p1 p2 p3
    | nil =>
      cases op with
      | none => exact absurd (zOK_125 ok0 e).1 (by show ¬ 1 ≤ 0 + 0; decide)
      | some j =>
        have ez := zst_125p (lk := zlk2) (legs := (n : Int)) (vl := zvlT tb T) (pc := fun i => (zpcT tb T i : Int)) (ft := ft) (P := P) (B := B) (I := I) (fs := fs) (j := j) e
        have h8' : P.length + 1 ≤ 8 := h8
        have hj := hop j rfl
        have ef := kf (Or.inl (by simp))
        refine cm_237p F t S R (by omega) i4 (by omega) fun h2 b2 S2 R2 => ?_
        have keep : zpst none [] (if zlgL I then zno ft 6 (zpcT tb T j : Int) else ft) B (zpcT tb T (zfs1 (some j) [] i fs) : Int) = (if zlgL I then zno ft 6 (zpcT tb T j : Int) else ft) := by
          rw [ef]
          unfold zpst
          by_cases c : zlgL B
          · rw [if_pos ⟨rfl, rfl, c⟩]
            have g := G (by simp) c
            have lt := zpcm (pc := fun i => (zpcT tb T i : Int)) (fun i hi => zpc_mono hi) hq (show fs < j by omega) (by omega)
            have lt : (zpcT tb T fs : Int) < (zpcT tb T j : Int) := lt
            have g2 : (if zlgL I then zno ft 6 (zpcT tb T j : Int) else ft) = ft := by
              split
              · exact zno_keep g.1 (Or.inl (by omega))
              · rfl
            rw [g2]
            exact zno_keep g.1 (Or.inl g.2)
          · rw [if_neg fun z => c z.2.2]
        have len : (P ++ [(zvlT tb T j, I.take 200)]).length = P.length + 1 := by rw [List.length_append]; rfl
        have h8n : (P ++ [(zvlT tb T j, I.take 200)]).length + zo1 none ≤ 8 := by rw [len]; exact h8'
        obtain ⟨p1, p2, p3⟩ := zpostM (X := X) (Q := Q) (st := []) b2.1 (t.mb b2) S2 R2 h8n yL rfl fun h3 N => (by
          rw [keep] at N
          refine k h3 _ (b2.tr N.mb) ?_ ?_
          · rw [ez]; exact ⟨S2.nt N, R2.nt N⟩
          · rw [ez, ef])
        exact sg_238_134c p1 p2 p3
  · have ez := zst_85 (lk := zlk2) (legs := (n : Int)) (vl := zvlT tb T) (pc := fun i => (zpcT tb T i : Int)) (ft := ft) (P := P) (op := op) (B := B) (st := st) (I := I) (fs := fs) e
    rw [ez] at H2
    have jL := nextL _ H2.2.2.2.2.2
    obtain ⟨q1, _⟩ := zOK_85 ok0 e
    have w1 : h 120 ((h 108 19).toNat) = 3 := by rw [m1, e]; rfl
    have w2 : h 122 ((h 108 19).toNat) = 6 := by rw [m2 (by rw [e]; rfl), e]; rfl
    refine zh73 F o1 (by omega) hy (fun _ => by omega) (fun _ _ _ => by omega) (fun _ _ => by omega) (fun _ _ => ?_) (fun _ _ => by omega) (fun _ _ => by omega) (fun _ => by omega)
    refine cm_234 F t S R PL h8 hn (by omega) q1 fun h2 b2 S2 R2 => ?_
    obtain ⟨p1, p2, p3⟩ := zpostM (X := X) (Q := Q) b2.1 (t.mb b2) S2 R2 h8 yL rfl (fin h2 _ _ _ _ b2 S2 R2 ez)
    exact sg_238_171c p1 p2 p3
  · have ez := zst_77 (lk := zlk2) (legs := (n : Int)) (vl := zvlT tb T) (pc := fun i => (zpcT tb T i : Int)) (ft := ft) (P := P) (op := op) (B := B) (st := st) (I := I) (fs := fs) e
    rw [ez] at H2
    have jL := nextL _ H2.2.2.2.2.2
    obtain ⟨q1, q2, q3, q4, q5⟩ := zOK_77 ok0 e
    have w1 : h 120 ((h 108 19).toNat) = 3 := by rw [m1, e]; rfl
    have w2 : h 122 ((h 108 19).toNat) = 5 := by rw [m2 (by rw [e]; rfl), e]; rfl
    refine zh73 F o1 (by omega) hy (fun _ => by omega) (fun _ _ _ => by omega) (fun _ _ => by omega) (fun _ _ => by omega) (fun _ _ => ?_) (fun _ _ => by omega) (fun _ => by omega)
    refine cm_233 F t S R h8 hn (by omega) q1 q2 q3 fun h2 b2 S2 R2 => ?_
    obtain ⟨p1, p2, p3⟩ := zpostM (X := X) (Q := Q) b2.1 (t.mb b2) S2 R2 h8 yL rfl (fin h2 _ _ _ _ b2 S2 R2 ez)
    exact sg_238_158c p1 p2 p3
  · obtain ⟨q, hqq⟩ : ∃ q : Nat, (zkdT tb T i = 82 ∧ q = 0 ∨ zkdT tb T i = 71 ∧ q = 1 ∨ zkdT tb T i = 66 ∧ q = 2) := by
      rcases e with e | e | e
      · exact ⟨0, Or.inl ⟨e, rfl⟩⟩
      · exact ⟨1, Or.inr (Or.inl ⟨e, rfl⟩)⟩
      · exact ⟨2, Or.inr (Or.inr ⟨e, rfl⟩)⟩
    have ez := zst_p (lk := zlk2) (legs := (n : Int)) (vl := zvlT tb T) (pc := fun i => (zpcT tb T i : Int)) (ft := ft) (P := P) (op := op) (B := B) (st := st) (I := I) (fs := fs) (q := q) hqq
    rw [ez] at H2
    have jL := nextL _ H2.2.2.2.2.2
    obtain ⟨q1, q2, q3⟩ := zOK_p ok0 e
    have w1 : h 120 ((h 108 19).toNat) = 3 := by rw [m1]; rcases e with e | e | e <;> rw [e] <;> rfl
    have w3 : zsoT (zkdT tb T i) = 3 := m1.symm.trans w1
    have w2 : h 122 ((h 108 19).toNat) = (q : Int) + 2 := by
      rw [m2 w3]
      rcases hqq with ⟨e, z⟩ | ⟨e, z⟩ | ⟨e, z⟩ <;> rw [e, z] <;> rfl
    have q3' : q < 3 := by omega
    refine zh73 F o1 (by omega) hy (fun _ => by omega) (fun _ _ _ _ _ _ => ?_) (fun _ _ => by omega) (fun _ _ => by omega) (fun _ _ => by omega) (fun _ _ => by omega) (fun _ => by omega)
    refine cm_232 F t S R h8 hn q3' (by omega) q1 w2 fun h2 b2 S2 R2 => ?_
    obtain ⟨p1, p2, p3⟩ := zpostM (X := X) (Q := Q) b2.1 (t.mb b2) S2 R2 h8 yL rfl (fin h2 _ _ _ _ b2 S2 R2 ez)
    exact sg_238_192c p1 p2 p3
end
