/-! TEXTS, THE CLASS: THE TELLER'S CELLS; NOTES; ELEMENTS -/
abbrev zWt : List Nat := [75, 76, 77, 80, 81, 83, 84, 86, 87, 89, 90, 92, 93, 95, 96, 98, 99, 101, 102, 104, 105, 106, 107]
abbrev zoc (op : Option Nat) (m : Nat) : Nat := if op = none then 76 else 80 + 3 * m
theorem zoc_ok {op : Option Nat} {m : Nat} (h : m + zo1 op ≤ 8) : zLad (zoc op m) := by
  by_cases c : op = none
  · rw [show zoc op m = 76 from if_pos c]; unfold zLad; omega
  · have e : zo1 op = 1 := if_neg c
    rw [show zoc op m = 80 + 3 * m from if_neg c]
    unfold zLad
    omega
def zSa (h : zHP) (n : Nat) (tp : Int) (i : Nat) (ft : Int × Int) (m : Nat) (op : Option Nat) (d : Nat) : Prop := (h 75 6 = 68 ∧ h 75 7 = (zoc op m : Int) ∧ h 75 8 = (n : Int) ∧ h 75 9 = (i : Int)) ∧ (h 75 10 = (m : Int) ∧ h 75 11 = ((m + zo1 op : Nat) : Int) ∧ h 75 12 = (d : Int)) ∧ h 75 13 = tp ∧ h 75 14 = ft.1 ∧ h 75 15 = ft.2
def zSK (h : zHP) (I : List zTe) : List (Int × Nat) → Prop
  | [] => True
  | e :: r => (h 105 r.length = ((min e.2 100000 : Nat) : Int) ∧ h 106 r.length = ((min (zc3L (I.take e.2)) 100000 : Nat) : Int) ∧ h 107 r.length = e.1) ∧ zSK h I r
def zRe (h : zHP) (vl : Nat → Int) (n : Nat) (P : List (Int × List zTe)) (op : Option Nat) (B : List zTe) (st : List (Int × Nat)) (I : List zTe) : Prop := (∀ p, p < 8 → h 79 p = ((80 + 3 * p : Nat) : Int)) ∧ (∀ p, p < P.length → h 104 p = (P.getD p (0, [])).1) ∧ (∀ j, op = some j → h 104 P.length = vl j) ∧ zSK h I st ∧ zLE h (zoc op P.length) n I ∧ (op ≠ none → zLE h 76 n B) ∧ ∀ p, p < P.length → zLP h (80 + 3 * p) n (P.getD p (0, [])).2
def zCTs (h : zHP) (vl : Nat → Int) (n : Nat) (tp : Int) : zTS → Prop
  | (i, ft, P, op, B, st, I, _) => zSa h n tp i ft P.length op st.length ∧ zRe h vl n P op B st I
theorem zSK.fr {h h' : zHP} {I : List zTe} (f5 : h' 105 = h 105) (f6 : h' 106 = h 106) (f7 : h' 107 = h 107) : ∀ {st : List (Int × Nat)}, zSK h I st → zSK h' I st
  | [], _ => trivial
  | _ :: _, s => ⟨by rw [f5, f6, f7]; exact s.1, zSK.fr f5 f6 f7 s.2⟩
theorem zSK.app {h : zHP} {I J : List zTe} : ∀ {st : List (Int × Nat)} {n : Nat}, zsvd n st → n ≤ I.length → zSK h I st → zSK h (I ++ J) st
  | [], _, _, _, _ => trivial
  | e :: r, _, sv, hn, s => by
    obtain ⟨s1, _, _, s4⟩ := sv
    have t : (I ++ J).take e.2 = I.take e.2 := by rw [List.take_append_of_le_length (by omega)]
    exact ⟨by rw [t]; exact s.1, zSK.app s4 (by omega) s.2⟩
section
variable {h h' : zHP} {vl : Nat → Int} {n : Nat} {tp : Int} {i : Nat} {ft ft' : Int × Int} {P : List (Int × List zTe)} {op : Option Nat} {B : List zTe} {st : List (Int × Nat)} {I : List zTe} {m d : Nat}
theorem zRe.fr (R : zRe h vl n P op B st I) (f : ∀ c, c ≠ 75 → h' c = h c) (h75 : zoc op P.length ≠ 75) (hz : zoc op P.length + 1 ≠ 75) : zRe h' vl n P op B st I := by
  obtain ⟨a1, a2, a3, a4, a5, a6, a7⟩ := R
  refine ⟨by rw [f 79 (by decide)]; exact a1, by rw [f 104 (by decide)]; exact a2, by rw [f 104 (by decide)]; exact a3, a4.fr (f _ (by decide)) (f _ (by decide)) (f _ (by decide)), a5.fr (f _ h75) (f _ hz), fun o => (a6 o).fr (f _ (by decide)) (f _ (by decide)), fun p hp => (a7 p hp).fr (f _ (by omega)) (f _ (by omega))⟩
theorem zoc75 {op : Option Nat} {m : Nat} : zoc op m ≠ 75 ∧ zoc op m + 1 ≠ 75 := by
  by_cases c : op = none
  · rw [show zoc op m = 76 from if_pos c]; decide
  · rw [show zoc op m = 80 + 3 * m from if_neg c]; omega
def zNt (h h' : zHP) (ft' : Int × Int) : Prop := zFin h' ∧ zfr [75] h h' ∧ (∀ c, c ≠ 14 → c ≠ 15 → h' 75 c = h 75 c) ∧ h' 75 14 = ft'.1 ∧ h' 75 15 = ft'.2
theorem zSa.nt (S : zSa h n tp i ft m op d) (N : zNt h h' ft') : zSa h' n tp i ft' m op d := by
  obtain ⟨⟨a1, a2, a3, a4⟩, ⟨b1, b2, b3⟩, c1, c2, c3⟩ := S
  obtain ⟨n1, n2, n3, n4, n5⟩ := N
  exact ⟨⟨(n3 6 (by decide) (by decide)).trans a1, (n3 7 (by decide) (by decide)).trans a2, (n3 8 (by decide) (by decide)).trans a3, (n3 9 (by decide) (by decide)).trans a4⟩, ⟨(n3 10 (by decide) (by decide)).trans b1, (n3 11 (by decide) (by decide)).trans b2, (n3 12 (by decide) (by decide)).trans b3⟩, (n3 13 (by decide) (by decide)).trans c1, n4, n5⟩
theorem zRe.nt (R : zRe h vl n P op B st I) (N : zNt h h' ft') : zRe h' vl n P op B st I := R.fr (fun c hc => N.2.1 c (by simp; exact hc)) zoc75.1 zoc75.2
theorem zNt.rf (F : zFin h) (e4 : h 75 14 = ft.1) (e5 : h 75 15 = ft.2) : zNt h h ft := ⟨F, zfr.rfl, fun _ _ _ => rfl, e4, e5⟩
theorem zNt.tr {h2 : zHP} (a : zNt h h' ft) (b : zNt h' h2 ft') : zNt h h2 ft' := ⟨b.1, a.2.1.trans b.2.1, fun c h1 h2 => (b.2.2.1 c h1 h2).trans (a.2.2.1 c h1 h2), b.2.2.2⟩
/-- the teller moves on -/
theorem zSa.at {j : Nat} {x : Int} (S : zSa h n tp i ft m op d) (hx : x = (j : Int)) : zSa (zup h 75 9 x) n tp j ft m op d := by
  obtain ⟨⟨a1, a2, a3, a4⟩, ⟨b1, b2, b3⟩, c1, c2, c3⟩ := S
  refine ⟨⟨?_, ?_, ?_, by rw [zup_eq]; exact hx⟩, ⟨?_, ?_, ?_⟩, ?_, ?_, ?_⟩
  all_goals rw [zup_k (by decide)]; assumption
theorem zRe.up {c : Nat} {x : Int} (R : zRe h vl n P op B st I) : zRe (zup h 75 c x) vl n P op B st I := R.fr (fun b hb => by funext j; exact zup_c hb) zoc75.1 zoc75.2
theorem zSa.fr {W : List Nat} (S : zSa h n tp i ft m op d) (f : zfr W h h') (hW : 75 ∉ W) : zSa h' n tp i ft m op d := by
  unfold zSa
  rw [f 75 hW]
  exact S
end
section
variable {X : List Int} {h : zHP} {K : Option zAV → zHP → Prop} {tb : Nat → Nat} {T L n : Nat} {tp : Int} {i : Nat} {ft : Int × Int} {P : List (Int × List zTe)} {op : Option Nat} {B : List zTe} {st : List (Int × Nat)} {I : List zTe} {m d : Nat}
theorem zTKc.fr {h' : zHP} (t : zTKc h tb T L) (f : ∀ c, c = 68 ∨ c = 72 ∨ c = 73 ∨ c = 74 → h' c = h c) : zTKc h' tb T L := by
  unfold zTKc
  rw [f 68 (by omega), f 72 (by omega), f 73 (by omega), f 74 (by omega)]
  exact t
theorem zTKc.kk {x : Int} {j : Nat} (t : zTKc h tb T L) (hj : j ≤ L) (hx : x = (j : Int)) : zTkK h x = zkdT tb T j := by
  obtain ⟨t1, t2, t3, t4, t5⟩ := t
  unfold zTkK
  by_cases c : j < L
  · rw [if_pos (by omega), show x.toNat = j by omega]
    exact (t5 j c).1
  · rw [if_neg (by omega), show j = L by omega]
    exact t3.symm
theorem zTKc.vv {x : Int} {j : Nat} (t : zTKc h tb T L) (hj : j < L) (hx : x = (j : Int)) : zTkV h x = zvlT tb T j := by
  obtain ⟨t1, t2, t3, t4, t5⟩ := t
  unfold zTkV
  rw [if_pos (by omega), show x.toNat = j by omega]
  exact (t5 j hj).2.1
theorem zTKc.pp {x : Int} {j : Nat} (t : zTKc h tb T L) (hj : j < L) (hx : x = (j : Int)) : zTkP h x = (zpcT tb T j : Int) := by
  obtain ⟨t1, t2, t3, t4, t5⟩ := t
  unfold zTkP
  rw [if_pos (by omega), show x.toNat = j by omega]
  exact (t5 j hj).2.2.1
theorem zvl_int {tb : Nat → Nat} {T j : Nat} (h : zkdT tb T j = 105) : 0 ≤ zvlT tb T j ∧ zvlT tb T j < 10000 := by
  have h : zknT tb T (zpcT tb T j) = 105 := h
  show 0 ≤ zvvT tb T (zpcT tb T j) ∧ zvvT tb T (zpcT tb T j) < 10000
  generalize zpcT tb T j = p at h
  unfold zknT at h
  unfold zvvT
  by_cases c : T ≤ p
  · rw [if_pos c] at h; exact absurd h (by decide)
  · rw [if_neg c] at h
    rw [if_neg c]
    by_cases c1 : zltB tb p = true
    · rw [if_pos c1] at h
      by_cases c2 : 8 < zlnE tb T p - p
      · rw [if_pos c2] at h; exact absurd h (by decide)
      · rw [if_neg c2] at h
        rcases zkw_in (zwdN 32 (zlfN tb p) (zlnE tb T p - p)) with z | z
        · rw [z] at h; exact absurd h (by decide)
        · rw [h] at z; exact absurd z (by decide)
    · rw [if_neg c1] at h
      rw [if_neg c1]
      by_cases c2 : zdgB tb p = true
      · rw [if_pos c2] at h
        rw [if_pos c2]
        by_cases c3 : 4 < zdnE tb T p - p
        · rw [if_pos c3] at h; exact absurd h (by decide)
        · obtain ⟨n1, n2, n3, n4⟩ := zeE_ok (p := zdgB tb) (T := T) (T - p) p rfl
          have w := zwdN_lt (β := 10) (f := zdfN tb p) (zdnE tb T p - p) fun i hi => by
            have := n3 (p + i) (by omega) (by show p + i < zdnE tb T p; omega)
            unfold zdgB at this
            rw [decide_eq_true_iff] at this
            unfold zdfN
            omega
          have v2 : (10 : Nat) ^ (zdnE tb T p - p) ≤ 10 ^ 4 := Nat.pow_le_pow_right (by decide) (by omega)
          have v3 : (10 : Nat) ^ 4 = 10000 := by decide
          omega
      · rw [if_neg c2] at h
        by_cases c3 : tb p = 59 ∨ tb p = 123 ∨ tb p = 125
        · rw [if_pos c3] at h; omega
        · rw [if_neg c3] at h; exact absurd h (by decide)
theorem zpc_mono {tb : Nat → Nat} {T j : Nat} (h : zkdT tb T j ≠ 69) : (zpcT tb T j : Int) < (zpcT tb T (j + 1) : Int) := by
  have h : zknT tb T (zpcT tb T j) ≠ 69 := h
  have lt : zpcT tb T j < T := by
    by_cases c : T ≤ zpcT tb T j
    · exact absurd (by unfold zknT; rw [if_pos c]) h
    · omega
  have a := (zbh_gt (tb := tb) lt).1
  have b := (zeE_ok (p := zbkB tb) (T := T) (T - zpsT tb T (j + 1)) _ rfl).1
  have e : zpsT tb T (j + 1) = zbhT tb T (zpcT tb T j) := rfl
  have c : zpsT tb T (j + 1) ≤ zpcT tb T (j + 1) := b
  omega
/-- intAt -/
theorem cx_129 {x : Int} {j : Nat} (F : zFin h) (t : zTKc h tb T L) (hj : j < L) (hx : x = (j : Int)) (hk : zkdT tb T j = 105) (k : K (some (zI (zvlT tb T j))) h) : zC X 129 [zR 68, zI x] h K := by
  have e := t.vv hj hx
  have v := zvl_int hk
  rw [← e] at k v
  exact sg_129_0 F (by omega) ⟨rfl, k⟩
/-- note -/
theorem cx_109 {a p : Int} (F : zFin h) (e4 : h 75 14 = ft.1) (e5 : h 75 15 = ft.2) (k : ∀ h', zNt h h' (zno ft a p) → K none h') : zC X 109 [zR 75, zI a, zI p] h K := by
  have yes : (ft.1 = 0 ∨ p < ft.2 ∨ (p = ft.2 ∧ a < ft.1)) → (fun v sh' h' => sh' = zSHc ∧ K v h') none zSHc (zup (zup h 75 14 a) 75 15 p) := fun c => ⟨rfl, k _ (by
    rw [show zno ft a p = (a, p) from if_pos c]
    exact ⟨(F.up (by decide)).up (by decide), (zfr.rfl.up (by simp)).up (by simp), fun q h1 h2 => by rw [zup_k h2, zup_k h1], by rw [zup_k (by decide), zup_eq], zup_eq⟩)⟩
  have no : ¬ (ft.1 = 0 ∨ p < ft.2 ∨ (p = ft.2 ∧ a < ft.1)) → (fun v sh' h' => sh' = zSHc ∧ K v h') none zSHc h := fun c => ⟨rfl, k _ (by
    rw [show zno ft a p = ft from if_neg c]
    exact zNt.rf F e4 e5)⟩
  exact sg_109_0 (fun _ => yes (by omega)) (fun _ _ => yes (by omega)) (fun _ _ _ => no (by omega)) (fun _ _ _ _ => no (by omega)) (fun _ _ _ _ => yes (by omega))
/-- tellLeg -/
theorem cx_113 (F : zFin h) (t : zTKc h tb T L) (S : zSa h n tp i ft m op d) (hn : n ≤ 7) (hi : i + 1 < L) (hk : zkdT tb T (i + 1) = 105) (k : ∀ h', zNt h h' (znlg (n : Int) ft (zvlT tb T (i + 1)) (zpcT tb T (i + 1) : Int)) → K (some (zI (zvlT tb T (i + 1)))) h') : zC X 113 [zR 75] h K := by
  have tl := t.2.1
  obtain ⟨⟨a1, a2, a3, a4⟩, ⟨b1, b2, b3⟩, c1, c2, c3⟩ := S
  refine sg_113_0 a1 (by omega) (cx_129 (j := i + 1) F t hi (by omega) hk ?_)
  have v := zvl_int hk
  have ep : zTkP h (h 75 9 + 1) = (zpcT tb T (i + 1) : Int) := t.pp hi (by omega)
  refine sg_113_13c F (by omega) (fun le => ⟨rfl, k h ?_⟩) (fun _ => a1) (fun _ => by omega) (fun gt => ?_)
  · rw [show znlg (n : Int) ft (zvlT tb T (i + 1)) (zpcT tb T (i + 1) : Int) = ft from if_neg (by omega)]
    exact zNt.rf F c2 c3
  · rw [ep]
    refine cx_109 F c2 c3 fun h' N => sg_113_42c ⟨rfl, k h' ?_⟩
    rw [show znlg (n : Int) ft (zvlT tb T (i + 1)) (zpcT tb T (i + 1) : Int) = zno ft 5 (zpcT tb T (i + 1) : Int) from if_pos (by omega)]
    exact N
/-- elements come -/
theorem zRe.add {h' : zHP} {J : List zTe} {vl : Nat → Int} (R : zRe h vl n P op B st I) (sv : zsvd I.length st) (h8 : P.length + zo1 op ≤ 8) (fr : zfr [zoc op P.length, zoc op P.length + 1] h h') (L2 : zLE h' (zoc op P.length) n (I ++ J)) : zRe h' vl n P op B st (I ++ J) := by
  obtain ⟨a1, a2, a3, a4, a5, a6, a7⟩ := R
  have oc : zoc op P.length = 76 ∧ op = none ∨ zoc op P.length = 80 + 3 * P.length ∧ op ≠ none := by
    by_cases c : op = none
    · exact Or.inl ⟨if_pos c, c⟩
    · exact Or.inr ⟨if_neg c, c⟩
  have o8 : op ≠ none → P.length + 1 ≤ 8 := fun z => by
    have : zo1 op = 1 := if_neg z
    omega
  have f : ∀ c, c ≠ zoc op P.length → c ≠ zoc op P.length + 1 → h' c = h c := fun c x y => fr c (by simp; exact ⟨x, y⟩)
  have big : ∀ c, c = 79 ∨ 104 ≤ c → h' c = h c := fun c hc => by
    refine f c ?_ ?_ <;> rcases oc with ⟨z, _⟩ | ⟨z, w⟩
    · omega
    · have := o8 w; omega
    · omega
    · have := o8 w; omega
  refine ⟨by rw [big 79 (by omega)]; exact a1, by rw [big 104 (by omega)]; exact a2, by rw [big 104 (by omega)]; exact a3, (a4.fr (big _ (by omega)) (big _ (by omega)) (big _ (by omega))).app sv (Nat.le_refl _), L2, fun o => ?_, fun p hp => ?_⟩
  · rcases oc with ⟨z, w⟩ | ⟨z, w⟩
    · exact absurd w o
    · exact (a6 o).fr (f _ (by omega) (by omega)) (f _ (by omega) (by omega))
  · rcases oc with ⟨z, w⟩ | ⟨z, w⟩
    · exact (a7 p hp).fr (f _ (by omega) (by omega)) (f _ (by omega) (by omega))
    · exact (a7 p hp).fr (f _ (by omega) (by omega)) (f _ (by omega) (by omega))
theorem zoc_n75 {op : Option Nat} {m : Nat} : 75 ∉ [zoc op m, zoc op m + 1] := by
  have a := zoc75 (op := op) (m := m)
  intro z
  rcases List.mem_cons.mp z with z | z
  · exact a.1 z.symm
  · rw [List.mem_singleton] at z
    exact a.2 z.symm
theorem zoc_tk {op : Option Nat} {m c : Nat} (hc : c = 68 ∨ c = 72 ∨ c = 73 ∨ c = 74) : c ∉ [zoc op m, zoc op m + 1] := by
  have e : 76 ≤ zoc op m := by
    by_cases c : op = none
    · rw [show zoc op m = 76 from if_pos c]; decide
    · rw [show zoc op m = 80 + 3 * m from if_neg c]; omega
  intro z
  rcases List.mem_cons.mp z with z | z
  · omega
  · rw [List.mem_singleton] at z
    omega
/-- frames of the teller -/
def zTb (h h' : zHP) : Prop := zFin h' ∧ zfr zWt h h'
theorem zTb.nt {h' : zHP} {ft' : Int × Int} (N : zNt h h' ft') : zTb h h' := ⟨N.1, N.2.1.mono (by simp [zWt])⟩
theorem zTb.tr {h1 h2 : zHP} (a : zTb h h1) (b : zTb h1 h2) : zTb h h2 := ⟨b.1, a.2.trans b.2⟩
theorem zTb.oc {h' : zHP} (F' : zFin h') (h8 : m + zo1 op ≤ 8) (fr : zfr [zoc op m, zoc op m + 1] h h') : zTb h h' := by
  refine ⟨F', fr.mono fun c hc => ?_⟩
  have := zoc_ok h8
  unfold zLad at this
  by_cases z : op = none
  · rw [show zoc op m = 76 from if_pos z] at hc
    revert c; decide
  · have e : zo1 op = 1 := if_neg z
    rw [show zoc op m = 80 + 3 * m from if_neg z] at hc
    have hm : m = 0 ∨ m = 1 ∨ m = 2 ∨ m = 3 ∨ m = 4 ∨ m = 5 ∨ m = 6 ∨ m = 7 := by omega
    rcases hm with y | y | y | y | y | y | y | y <;> subst y <;> revert c <;> decide
theorem zTb.tk {h' : zHP} (b : zTb h h') (t : zTKc h tb T L) : zTKc h' tb T L := t.fr fun c hc => b.2 c (by rcases hc with z | z | z | z <;> subst z <;> decide)
end
