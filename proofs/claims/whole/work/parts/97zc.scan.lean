/-! TEXTS: THE FORM, TOKEN BY TOKEN; THE CLASS'S SCAN -/
def zpsT (tb : Nat → Nat) (T : Nat) : Nat → Nat
  | 0 => 0
  | i + 1 => zbhT tb T (zplc tb T (zpsT tb T i))
def zpcT (tb : Nat → Nat) (T i : Nat) : Nat := zplc tb T (zpsT tb T i)
def zkdT (tb : Nat → Nat) (T i : Nat) : Int := zknT tb T (zpcT tb T i)
def zvlT (tb : Nat → Nat) (T i : Nat) : Int := zvvT tb T (zpcT tb T i)
theorem zps_le {tb : Nat → Nat} {T : Nat} : ∀ i, zpsT tb T i ≤ T
  | 0 => Nat.zero_le _
  | i + 1 => by
    have a := zps_le (tb := tb) (T := T) i
    have b := (zeE_ok (p := zbkB tb) (T := T) (T - zpsT tb T i) _ rfl).2.1 a
    show zbhT tb T (zplc tb T (zpsT tb T i)) ≤ T
    by_cases c : zplc tb T (zpsT tb T i) < T
    · exact (zbh_gt c).2
    · unfold zbhT
      rw [if_pos (by omega)]
      exact b
/-- what a statement still must have -/
def zgsD (k : Int) : List Int → Option (List Int)
  | [] => none
  | c :: r => if k = c then some r else if c = 117 ∨ c = 116 then zgsD k r else none
def zshB (k : Int) : List Int := if k = 82 ∨ k = 71 ∨ k = 66 then [105, 59] else if k = 77 then [105, 105, 105, 59] else if k = 85 then [110, 117, 116, 59] else if k = 84 then [105, 123] else if k = 80 then [110, 123] else []
abbrev zSte : Type := List Int × Nat × Nat
def zstpS (s : zSte) (k : Int) : Option zSte := match s.1 with
  | [] => if k = 69 then (if s.2.1 = 0 then some ([], 0, s.2.2) else none) else if k = 125 then (if s.2.1 = 0 then none else some ([], s.2.1 - 1, s.2.2)) else if k = 80 ∧ s.2.1 ≠ 0 then none else if zshB k = [] then none else some (zshB k, s.2.1, if k = 80 then s.2.2 + 1 else s.2.2)
  | c :: r => match zgsD k (c :: r) with
    | none => none
    | some r' => some (r', if k = 123 then s.2.1 + 1 else s.2.1, s.2.2)
def zflN (i : Nat) (k : Int) (s : zSte) : Int := if k = 63 then 1 else match zstpS s k with
  | none => 1
  | some s' => if (k ≠ 69 ∧ 400 ≤ i) ∨ 8 < s'.2.2 ∨ 4 < s'.2.1 then 2 else 0
def zscF (kd pc : Nat → Int) : Nat → Nat → zSte → Int × Int
  | 0, _, _ => (0, -1)
  | f + 1, i, s => if zflN i (kd i) s = 0 then (if kd i = 69 then (0, -1) else zscF kd pc f (i + 1) ((zstpS s (kd i)).getD s)) else (zflN i (kd i) s, pc i)
def zSCn (kd pc : Nat → Int) (i : Nat) (s : zSte) : Int × Int := zscF kd pc (401 - i) i s
theorem zSC_go {kd pc : Nat → Int} {i : Nat} {s : zSte} (h : i ≤ 400) : zSCn kd pc i s = if zflN i (kd i) s = 0 then (if kd i = 69 then (0, -1) else zSCn kd pc (i + 1) ((zstpS s (kd i)).getD s)) else (zflN i (kd i) s, pc i) := by
  unfold zSCn
  rw [show 401 - i = (401 - (i + 1)) + 1 by omega]
  rfl
def zSD (h : zHP) (s : zSte) : Prop := (∃ j0 a : Nat, j0 < 8 ∧ a ≤ 100 ∧ h 68 13 = ((1100 + j0 : Nat) : Int) ∧ h 68 14 = (a : Int) ∧ (zStr.getD j0 []).drop a = s.1) ∧ h 68 15 = (s.2.1 : Int) ∧ h 68 16 = (s.2.2 : Int)
def zKy (h h' : zHP) : Prop := zFin h' ∧ zfr [68] h h' ∧ ∀ c, c ≠ 13 → c ≠ 14 → c ≠ 15 → c ≠ 16 → h' 68 c = h 68 c
theorem zKy.rf {h : zHP} (F : zFin h) : zKy h h := ⟨F, zfr.rfl, fun _ _ _ _ _ => rfl⟩
theorem zdrop_c {l : List Int} {a : Nat} {c : Int} {r : List Int} (e : l.drop a = c :: r) : a < l.length ∧ l.getD a 0 = c ∧ l.drop (a + 1) = r := by
  have h : a < l.length := by
    by_cases h : a < l.length
    · exact h
    · rw [List.drop_eq_nil_of_le (by omega)] at e
      cases e
  rw [List.drop_eq_getElem_cons h] at e
  injection e with e1 e2
  exact ⟨h, by rw [List.getD_eq_getElem?_getD, List.getElem?_eq_getElem h]; exact e1, e2⟩
theorem zdrop_n {l : List Int} {a : Nat} (e : l.drop a = []) : l.length ≤ a := by
  have := List.drop_eq_nil_iff.mp e
  exact this
theorem zSl_le {j : Nat} (hj : j < 8) : (zStr.getD j []).length ≤ 65 := by
  rcases zj8 hj with e | e | e | e | e | e | e | e <;> subst e <;> decide
section
variable {X : List Int} {h : zHP} {K : Option zAV → zHP → Prop}
/-- shapeBehind -/
theorem cx_137 {k : Int} (q : ∀ j, j < 8 → zStr.getD j [] = zshB k → K (some (zR (1100 + j))) h) : zC X 137 [zI k] h K := by
  apply sg_137_0 <;> intro z
  all_goals first
    | exact sg_137_111 ⟨rfl, q 0 (by decide) (by unfold zshB; rw [if_neg (by omega), if_neg (by omega), if_neg (by omega), if_neg (by omega), if_neg (by omega)]; rfl)⟩
    | exact sg_137_96 ⟨rfl, q 3 (by decide) (by rw [z]; decide)⟩
    | exact sg_137_99 ⟨rfl, q 4 (by decide) (by rw [z]; decide)⟩
    | exact sg_137_108 ⟨rfl, q 7 (by decide) (by rw [z]; decide)⟩
    | exact sg_137_105 ⟨rfl, q 6 (by decide) (by rw [z]; decide)⟩
    | exact sg_137_102 ⟨rfl, q 5 (by decide) (by rw [z]; decide)⟩
/-- goesOnInShape -/
theorem cx_136 {s : zSte} {k : Int} (F : zFin h) (D : zSD h s) (hk : h 68 9 = k) (hs : s.1 ≠ []) (hd : s.2.1 ≤ 4) (k0 : zgsD k s.1 = none → ∀ h', zKy h h' → K (some (zI 0)) h') (k1 : ∀ r, zgsD k s.1 = some r → ∀ h', zKy h h' → zSD h' (r, if k = 123 then s.2.1 + 1 else s.2.1, s.2.2) → K (some (zI 1)) h') : zC X 136 [zR 68] h K := by
  obtain ⟨⟨j0, a0, hj, ha0, g13, g14, gd⟩, g15, g16⟩ := D
  have hl := zSl_le hj
  have hsl : zSl j0 = ((zStr.getD j0 []).length : Int) := rfl
  have loop : ∀ (d : List Int) (c : Int) (a : Nat) (h1 : zHP), (zStr.getD j0 []).drop a = c :: d → zgsD k s.1 = zgsD k (c :: d) → zKy h h1 → h1 68 13 = ((1100 + j0 : Nat) : Int) → h1 68 14 = (a : Int) → h1 68 15 = (s.2.1 : Int) → h1 68 16 = (s.2.2 : Int) → zAt X 136 12 0 0 [some (zR 68), some (zI c)] [] zSHc h1 (fun v sh' h' => sh' = zSHc ∧ K v h') := by
    intro d
    induction d with
    | nil =>
      intro c a h1 ed eg Y e13 e14 e15 e16
      obtain ⟨d1, d2, d3⟩ := zdrop_c ed
      have d4 := zdrop_n d3
      have ek : h1 68 9 = k := (Y.2.2 9 (by decide) (by decide) (by decide) (by decide)).trans hk
      have e0 : zgsD k [c] = if k = c then some [] else if c = 117 ∨ c = 116 then none else none := rfl
      rw [e0] at eg
      by_cases q : k = c
      · rw [if_pos q] at eg
        have F1 := Y.1
        refine sg_136_12 hj (fun _ => by omega) (fun _ z => ⟨rfl, ?_⟩) (fun _ _ => by omega) (fun _ z => ⟨rfl, ?_⟩) (fun z => by omega) (fun z => by omega) (fun z => by omega) (fun z => by omega) (fun z => by omega) (fun z => by omega) (fun z => by omega) (fun z => by omega) (fun z => by omega) (fun z => by omega) (fun z => by omega) (fun z => by omega) (fun z => by omega)
        · refine k1 _ eg _ ⟨F1.up (by decide), Y.2.1.up (by simp), fun c a b d e => by rw [zup_k b]; exact Y.2.2 c a b d e⟩ ⟨⟨j0, a + 1, hj, by omega, by rw [zup_k (by decide)]; exact e13, by rw [zup_eq]; omega, d3⟩, ?_, by rw [zup_k (by decide)]; exact e16⟩
          rw [zup_k (by decide), if_neg (by omega)]
          exact e15
        · refine k1 _ eg _ ⟨(F1.up (by decide)).up (by decide), (Y.2.1.up (by simp)).up (by simp), fun c a b d e => by rw [zup_k d, zup_k b]; exact Y.2.2 c a b d e⟩ ⟨⟨j0, a + 1, hj, by omega, by rw [zup_k (by decide), zup_k (by decide)]; exact e13, by rw [zup_k (by decide), zup_eq]; omega, d3⟩, ?_, by rw [zup_k (by decide), zup_k (by decide)]; exact e16⟩
          rw [zup_eq, if_pos (by omega)]
          show h1 68 15 + 1 = ((s.2.1 + 1 : Nat) : Int)
          omega
      · rw [if_neg q] at eg
        have eg : zgsD k s.1 = none := by
          rw [eg]
          split <;> rfl
        have no := k0 eg h1 Y
        exact sg_136_12 hj (fun z => by omega) (fun z => by omega) (fun z => by omega) (fun z => by omega) (fun _ _ => by omega) (fun _ _ => e13) (fun _ _ _ => ⟨rfl, no⟩) (fun _ _ z => by omega) (fun _ _ z => by omega) (fun _ _ z => by omega) (fun _ _ _ => ⟨rfl, no⟩) (fun _ _ _ => by omega) (fun _ _ _ => e13) (fun _ _ _ _ => ⟨rfl, no⟩) (fun _ _ _ z => by omega) (fun _ _ _ z => by omega) (fun _ _ _ z => by omega)
    | cons c2 d ih =>
      intro c a h1 ed eg Y e13 e14 e15 e16
      obtain ⟨d1, d2, d3⟩ := zdrop_c ed
      obtain ⟨d4, d5, d6⟩ := zdrop_c d3
      have ek : h1 68 9 = k := (Y.2.2 9 (by decide) (by decide) (by decide) (by decide)).trans hk
      have e0 : zgsD k (c :: c2 :: d) = if k = c then some (c2 :: d) else if c = 117 ∨ c = 116 then zgsD k (c2 :: d) else none := rfl
      rw [e0] at eg
      have F1 := Y.1
      by_cases q : k = c
      · rw [if_pos q] at eg
        refine sg_136_12 hj (fun _ => by omega) (fun _ z => ⟨rfl, ?_⟩) (fun _ _ => by omega) (fun _ z => ⟨rfl, ?_⟩) (fun z => by omega) (fun z => by omega) (fun z => by omega) (fun z => by omega) (fun z => by omega) (fun z => by omega) (fun z => by omega) (fun z => by omega) (fun z => by omega) (fun z => by omega) (fun z => by omega) (fun z => by omega) (fun z => by omega)
        · refine k1 _ eg _ ⟨F1.up (by decide), Y.2.1.up (by simp), fun c a b d e => by rw [zup_k b]; exact Y.2.2 c a b d e⟩ ⟨⟨j0, a + 1, hj, by omega, by rw [zup_k (by decide)]; exact e13, by rw [zup_eq]; omega, d3⟩, ?_, by rw [zup_k (by decide)]; exact e16⟩
          rw [zup_k (by decide), if_neg (by omega)]
          exact e15
        · refine k1 _ eg _ ⟨(F1.up (by decide)).up (by decide), (Y.2.1.up (by simp)).up (by simp), fun c a b d e => by rw [zup_k d, zup_k b]; exact Y.2.2 c a b d e⟩ ⟨⟨j0, a + 1, hj, by omega, by rw [zup_k (by decide), zup_k (by decide)]; exact e13, by rw [zup_k (by decide), zup_eq]; omega, d3⟩, ?_, by rw [zup_k (by decide), zup_k (by decide)]; exact e16⟩
          rw [zup_eq, if_pos (by omega)]
          show h1 68 15 + 1 = ((s.2.1 + 1 : Nat) : Int)
          omega
      · rw [if_neg q] at eg
        have ec : zSc j0 (h1 68 14 + 1) = c2 := by
          show (zStr.getD j0 []).getD (h1 68 14 + 1).toNat 0 = c2
          rw [show (h1 68 14 + 1).toNat = a + 1 by omega]
          exact d5
        by_cases o : c = 117 ∨ c = 116
        · rw [if_pos o] at eg
          have nx := ih c2 (a + 1) (zup h1 68 14 (h1 68 14 + 1)) d3 eg ⟨F1.up (by decide), Y.2.1.up (by simp), fun c a b d e => by rw [zup_k b]; exact Y.2.2 c a b d e⟩ (by rw [zup_k (by decide)]; exact e13) (by rw [zup_eq]; omega) (by rw [zup_k (by decide)]; exact e15) (by rw [zup_k (by decide)]; exact e16)
          rw [← ec] at nx
          exact sg_136_12 hj (fun z => by omega) (fun z => by omega) (fun z => by omega) (fun z => by omega) (fun _ _ => by omega) (fun _ _ => e13) (fun _ _ z => by omega) (fun _ _ _ => by rw [zup_k (by decide)]; exact e13) (fun _ _ _ => by omega) (fun _ _ _ => nx) (fun _ z1 z2 => by omega) (fun _ _ _ => by omega) (fun _ _ _ => e13) (fun _ _ _ z => by omega) (fun _ _ _ _ => by rw [zup_k (by decide)]; exact e13) (fun _ _ _ _ => by omega) (fun _ _ _ _ => nx)
        · rw [if_neg o] at eg
          have no := k0 eg h1 Y
          exact sg_136_12 hj (fun z => by omega) (fun z => by omega) (fun z => by omega) (fun z => by omega) (fun _ z => by omega) (fun _ z => by omega) (fun _ z => by omega) (fun _ z => by omega) (fun _ z => by omega) (fun _ z => by omega) (fun _ _ _ => ⟨rfl, no⟩) (fun _ _ z => by omega) (fun _ _ z => by omega) (fun _ _ z => by omega) (fun _ _ z => by omega) (fun _ _ z => by omega) (fun _ _ z => by omega)
  cases e : s.1 with
  | nil => exact absurd e hs
  | cons c d =>
    rw [e] at gd
    obtain ⟨d1, d2, d3⟩ := zdrop_c gd
    refine sg_136_0 hj g13 (by omega) ?_
    have ec : zSc j0 (h 68 14) = c := by
      show (zStr.getD j0 []).getD (h 68 14).toNat 0 = c
      rw [show (h 68 14).toNat = a0 by omega]
      exact d2
    rw [ec]
    exact loop d c a0 h gd (by rw [e]) (zKy.rf F) g13 g14 g15 g16
end
