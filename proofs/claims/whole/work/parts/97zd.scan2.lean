/-! TEXTS, THE CLASS: THE SCAN -/
section
variable {X : List Int} {h : zHP} {K : Option zAV → zHP → Prop}
/-- goesOn -/
theorem cx_135 {s : zSte} {k : Int} (F : zFin h) (D : zSD h s) (hk : h 68 9 = k) (hd : s.2.1 ≤ 4) (hp : s.2.2 ≤ 8) (k0 : zstpS s k = none → ∀ h', zKy h h' → K (some (zI 0)) h') (k1 : ∀ s', zstpS s k = some s' → ∀ h', zKy h h' → zSD h' s' → K (some (zI 1)) h') : zC X 135 [zR 68] h K := by
  subst hk
  have D0 := D
  obtain ⟨⟨j0, a0, hj, ha0, g13, g14, gd⟩, g15, g16⟩ := D
  have hl := zSl_le hj
  have hsl : zSl j0 = ((zStr.getD j0 []).length : Int) := rfl
  obtain ⟨d, dp, pr⟩ := s
  have hd : dp ≤ 4 := hd
  have hp : pr ≤ 8 := hp
  have g15 : h 68 15 = (dp : Int) := g15
  have g16 : h 68 16 = (pr : Int) := g16
  have gd : (zStr.getD j0 []).drop a0 = d := gd
  cases d with
  | cons c r =>
    obtain ⟨d1, d2, d3⟩ := zdrop_c gd
    have e : zstpS (c :: r, dp, pr) (h 68 9) = match zgsD (h 68 9) (c :: r) with
      | none => none
      | some r' => some (r', if h 68 9 = 123 then dp + 1 else dp, pr) := rfl
    refine sg_135_0 hj g13 (fun z => by omega) (fun z => by omega) (fun z => by omega) (fun z => by omega) (fun z => by omega) (fun z => by omega) (fun z => by omega) (fun z => by omega) (fun z => by omega) (fun _ => ?_)
    refine cx_136 F D0 rfl (by simp) hd (fun q h' Y => sg_135_18c ⟨rfl, k0 (by rw [e, show zgsD (h 68 9) (c :: r) = none from q]) h' Y⟩ (by decide)) (fun r' q h' Y D' => sg_135_18c ⟨rfl, k1 _ (by rw [e, show zgsD (h 68 9) (c :: r) = some r' from q]) h' Y D'⟩ (by decide))
  | nil =>
    have d4 := zdrop_n gd
    have e : zstpS ([], dp, pr) (h 68 9) = if h 68 9 = 69 then (if dp = 0 then some ([], 0, pr) else none) else if h 68 9 = 125 then (if dp = 0 then none else some ([], dp - 1, pr)) else if h 68 9 = 80 ∧ dp ≠ 0 then none else if zshB (h 68 9) = [] then none else some (zshB (h 68 9), dp, if h 68 9 = 80 then pr + 1 else pr) := rfl
    have tail : h 68 9 ≠ 69 → h 68 9 ≠ 125 → ¬ (h 68 9 = 80 ∧ dp ≠ 0) → ∀ h1, zKy h h1 → h1 68 15 = (dp : Int) → h1 68 16 = ((if h 68 9 = 80 then pr + 1 else pr : Nat) : Int) → zC X 137 [zI (h 68 9)] h1 (fun v h9 => zAt X 135 109 0 0 [some (zR 68)] (zpush v [zR 68]) zSHc h9 (fun v sh' h' => sh' = zSHc ∧ K v h')) := fun n1 n2 n3 h1 Y e15 e16 => by
      rw [if_neg n1, if_neg n2, if_neg n3] at e
      refine cx_137 fun j hj2 q => ?_
      have Y2 : zKy h (zup (zup h1 68 13 ((1100 + j : Nat) : Int)) 68 14 0) := ⟨(Y.1.up (by decide)).up (by decide), (Y.2.1.up (by simp)).up (by simp), fun c a b d e => by rw [zup_k b, zup_k a]; exact Y.2.2 c a b d e⟩
      refine sg_135_109c hj2 (by rw [zup_k (by decide), zup_eq]) (fun z => ⟨rfl, ?_⟩) (fun z => ⟨rfl, ?_⟩)
      · rw [q] at z
        rw [if_pos (List.length_eq_zero_iff.mp z)] at e
        exact k0 e _ Y2
      · rw [q] at z
        rw [if_neg fun w => z (by rw [w]; rfl)] at e
        refine k1 _ e _ Y2 ⟨⟨j, 0, hj2, by omega, by rw [zup_k (by decide), zup_eq], by rw [zup_eq]; rfl, q⟩, ?_, ?_⟩
        · rw [zup_k (by decide), zup_k (by decide)]; exact e15
        · rw [zup_k (by decide), zup_k (by decide)]; exact e16
    refine sg_135_0 hj g13 (fun _ z1 z2 z3 => ?_) (fun _ _ _ _ _ => by omega) (fun _ z1 z2 z3 z4 => ?_) (fun _ z1 z2 z3 z4 => ⟨rfl, ?_⟩) (fun _ _ _ => by omega) (fun _ z1 z2 z3 => ⟨rfl, ?_⟩) (fun _ z1 z2 z3 => ⟨rfl, ?_⟩) (fun _ z1 z2 => ⟨rfl, ?_⟩) (fun _ z1 z2 => ⟨rfl, ?_⟩) (fun z => by omega)
    · exact tail z1 z2 (fun w => z3 w.1) h (zKy.rf F) g15 (by rw [if_neg z3]; exact g16)
    · exact tail z1 z2 (fun w => w.2 (by omega)) _ ⟨F.up (by decide), zfr.rfl.up (by simp), fun c a b d e => by rw [zup_k e]⟩ (by rw [zup_k (by decide)]; exact g15) (by rw [zup_eq, if_pos z3]; omega)
    · rw [if_neg z1, if_neg z2, if_pos ⟨z3, by omega⟩] at e
      exact k0 e h (zKy.rf F)
    · rw [if_neg z1, if_pos z2, if_pos (by omega)] at e
      exact k0 e _ ⟨F.up (by decide), zfr.rfl.up (by simp), fun c a b d e => by rw [zup_k d]⟩
    · rw [if_neg z1, if_pos z2, if_neg (by omega)] at e
      refine k1 _ e _ ⟨F.up (by decide), zfr.rfl.up (by simp), fun c a b d e => by rw [zup_k d]⟩ ⟨⟨j0, a0, hj, ha0, by rw [zup_k (by decide)]; exact g13, by rw [zup_k (by decide)]; exact g14, gd⟩, ?_, by rw [zup_k (by decide)]; exact g16⟩
      rw [zup_eq]
      show h 68 15 - 1 = ((dp - 1 : Nat) : Int)
      omega
    · rw [if_pos z1, if_neg (by omega)] at e
      exact k0 e h (zKy.rf F)
    · rw [if_pos z1, if_pos (by omega)] at e
      refine k1 _ e h (zKy.rf F) ⟨⟨j0, a0, hj, ha0, g13, g14, gd⟩, ?_, g16⟩
      show h 68 15 = ((0 : Nat) : Int)
      omega
/-- faultOfToken -/
theorem cx_133 {s : zSte} {k : Int} {i : Nat} (F : zFin h) (D : zSD h s) (hk : h 68 9 = k) (hi : h 68 7 = (i : Int)) (hd : s.2.1 ≤ 4) (hp : s.2.2 ≤ 8) (q : ∀ h', zKy h h' → (zflN i k s = 0 → zSD h' ((zstpS s k).getD s) ∧ ((zstpS s k).getD s).2.1 ≤ 4 ∧ ((zstpS s k).getD s).2.2 ≤ 8) → K (some (zI (zflN i k s))) h') : zC X 133 [zR 68] h K := by
  by_cases c : k = 63
  · have e : zflN i k s = 1 := if_pos c
    refine sg_133_0 (fun _ => ⟨rfl, ?_⟩) (fun z => by omega)
    have := q h (zKy.rf F) (fun z => by omega)
    rw [e] at this
    exact this
  · refine sg_133_0 (fun z => by omega) (fun _ => cx_135 F D hk hd hp (fun no h' Y => ?_) (fun s' e' h' Y D' => ?_))
    · have e : zflN i k s = 1 := by unfold zflN; rw [if_neg c, no]
      refine sg_133_13c (fun z => absurd rfl z) (fun z => absurd rfl z) (fun z => absurd rfl z) (fun z => absurd rfl z) (fun z => absurd rfl z) (fun z => absurd rfl z) (fun z => absurd rfl z) (fun _ => ⟨rfl, ?_⟩)
      have := q h' Y (fun z => by omega)
      rw [e] at this
      exact this
    · have e : zflN i k s = if (k ≠ 69 ∧ 400 ≤ i) ∨ 8 < s'.2.2 ∨ 4 < s'.2.1 then 2 else 0 := by unfold zflN; rw [if_neg c, e']
      have eg : (zstpS s k).getD s = s' := by rw [e']; rfl
      have e9 : h' 68 9 = k := (Y.2.2 9 (by decide) (by decide) (by decide) (by decide)).trans hk
      have e7 : h' 68 7 = (i : Int) := (Y.2.2 7 (by decide) (by decide) (by decide) (by decide)).trans hi
      have e15 := D'.2.1
      have e16 := D'.2.2
      have q := q h' Y
      rw [eg, e] at q
      have g2 : ((k ≠ 69 ∧ 400 ≤ i) ∨ 8 < s'.2.2 ∨ 4 < s'.2.1) → K (some (zI 2)) h' := fun z => by
        rw [if_pos z] at q
        exact q (fun w => by omega)
      have g0 : ¬ ((k ≠ 69 ∧ 400 ≤ i) ∨ 8 < s'.2.2 ∨ 4 < s'.2.1) → K (some (zI 0)) h' := fun z => by
        rw [if_neg z] at q
        exact q (fun _ => ⟨D', by omega, by omega⟩)
      clear q D D' F
      exact sg_133_13c (fun _ _ _ => ⟨rfl, g2 (by omega)⟩) (fun _ _ _ _ => ⟨rfl, g0 (by omega)⟩) (fun _ _ _ _ => ⟨rfl, g2 (by omega)⟩) (fun _ _ _ => ⟨rfl, g2 (by omega)⟩) (fun _ _ _ _ => ⟨rfl, g2 (by omega)⟩) (fun _ _ _ _ _ => ⟨rfl, g0 (by omega)⟩) (fun _ _ _ _ _ => ⟨rfl, g2 (by omega)⟩) (fun z => absurd z (by decide))
/-- what a scan without a fault leaves -/
def zTKc (h : zHP) (tb : Nat → Nat) (T L : Nat) : Prop := h 68 7 = (L : Int) ∧ L ≤ 400 ∧ zkdT tb T L = 69 ∧ h 68 6 = (T : Int) ∧ ∀ j, j < L → h 72 j = zkdT tb T j ∧ h 73 j = zvlT tb T j ∧ h 74 j = (zpcT tb T j : Int) ∧ zkdT tb T j ≠ 69 ∧ zkdT tb T j ≠ 63
/-- scan -/
theorem cx_132 {T : Nat} {tb : Nat → Nat} (F : zFin h) (t : zTC h T tb) (W : zWd h) (q : ∀ h', zFin h' → zfr [68, 72, 73, 74] h h' → (∀ c, c < 7 → h' 68 c = h 68 c) → ((zSCn (zkdT tb T) (fun i => (zpcT tb T i : Int)) 0 ([76, 105, 59], 0, 0)).1 = 0 → ∃ L, zTKc h' tb T L) → h' 68 8 = (zSCn (zkdT tb T) (fun i => (zpcT tb T i : Int)) 0 ([76, 105, 59], 0, 0)).2 → K (some (zI (zSCn (zkdT tb T) (fun i => (zpcT tb T i : Int)) 0 ([76, 105, 59], 0, 0)).1)) h') : zC X 132 [zR 68] h K := by
  have loop : ∀ (m i : Nat) (s : zSte) (h1 : zHP) (x1 : Int), 401 - i = m → i ≤ 400 → x1 = (i : Int) → zFin h1 → zfr [68, 72, 73, 74] h h1 → (∀ c, c < 7 → h1 68 c = h 68 c) → zSD h1 s → s.2.1 ≤ 4 → s.2.2 ≤ 8 → h1 68 7 = (i : Int) → h1 68 8 = -1 → h1 68 12 = (zpsT tb T i : Int) → (∀ j, j < i → h1 72 j = zkdT tb T j ∧ h1 73 j = zvlT tb T j ∧ h1 74 j = (zpcT tb T j : Int) ∧ zkdT tb T j ≠ 69 ∧ zkdT tb T j ≠ 63) → zSCn (zkdT tb T) (fun i => (zpcT tb T i : Int)) 0 ([76, 105, 59], 0, 0) = zSCn (zkdT tb T) (fun i => (zpcT tb T i : Int)) i s → zAt X 132 38 0 0 [some (zR 68), some (zI x1), none] [] zSHc h1 (fun v sh' h' => sh' = zSHc ∧ K v h') := by
    intro m
    induction m with
    | zero => intro i s h1 x1 hm hi; omega
    | succ m ih =>
      intro i s h1 x1 hm hi e1 F1 fr fk D hd hp e7 e8 e12 A eS
      have t1 : zTC h1 T tb := t.k (fk 6 (by decide)) (fr 69 (by decide))
      have W1 : zWd h1 := fun j hj => by rw [fr 70 (by decide), fr 71 (by decide)]; exact W j hj
      refine sg_132_38 (fun z => by omega) (fun _ => ?_)
      refine cx_138 F1 t1 W1 (zps_le i) e12 fun h2 Y => sg_132_49c ?_
      obtain ⟨F2, fr2, fk2, y11, y12, y9, y10⟩ := Y
      have D2 : zSD h2 s := by
        obtain ⟨⟨j0, a0, hj, ha0, g13, g14, gd⟩, g15, g16⟩ := D
        exact ⟨⟨j0, a0, hj, ha0, (fk2 13 (by decide) (by decide) (by decide) (by decide)).trans g13, (fk2 14 (by decide) (by decide) (by decide) (by decide)).trans g14, gd⟩, (fk2 15 (by decide) (by decide) (by decide) (by decide)).trans g15, (fk2 16 (by decide) (by decide) (by decide) (by decide)).trans g16⟩
      refine cx_133 (i := i) F2 D2 y9 ((fk2 7 (by decide) (by decide) (by decide) (by decide)).trans e7) hd hp fun h3 Y3 Z => ?_
      have fk3 : ∀ c, c ≠ 9 → c ≠ 10 → c ≠ 11 → c ≠ 12 → c ≠ 13 → c ≠ 14 → c ≠ 15 → c ≠ 16 → h3 68 c = h1 68 c := fun c a b d e f g i j => (Y3.2.2 c f g i j).trans (fk2 c a b d e)
      have f9 : h3 68 9 = zkdT tb T i := (Y3.2.2 9 (by decide) (by decide) (by decide) (by decide)).trans y9
      have f11 : h3 68 11 = (zpcT tb T i : Int) := (Y3.2.2 11 (by decide) (by decide) (by decide) (by decide)).trans y11
      have f12 : h3 68 12 = (zpsT tb T (i + 1) : Int) := (Y3.2.2 12 (by decide) (by decide) (by decide) (by decide)).trans y12
      have f7 : h3 68 7 = (i : Int) := (fk3 7 (by decide) (by decide) (by decide) (by decide) (by decide) (by decide) (by decide) (by decide)).trans e7
      have f8 : h3 68 8 = -1 := (fk3 8 (by decide) (by decide) (by decide) (by decide) (by decide) (by decide) (by decide) (by decide)).trans e8
      have fr3 : zfr [68] h1 h3 := fr2.trans Y3.2.1
      have frh : zfr [68, 72, 73, 74] h h3 := fr.trans (fr3.mono (by simp))
      have fkh : ∀ c, c < 7 → h3 68 c = h 68 c := fun c hc => (fk3 c (by omega) (by omega) (by omega) (by omega) (by omega) (by omega) (by omega) (by omega)).trans (fk c hc)
      have hz : zflN i (zknT tb T (zplc tb T (zpsT tb T i))) s = zflN i (zkdT tb T i) s := rfl
      rw [hz]
      have st := zSC_go (kd := zkdT tb T) (pc := fun i => (zpcT tb T i : Int)) (s := s) hi
      by_cases c0 : zflN i (zkdT tb T i) s = 0
      · rw [if_pos c0] at st
        obtain ⟨D3, b1, b2⟩ := Z c0
        by_cases c9 : zkdT tb T i = 69
        · rw [if_pos c9] at st
          rw [c0]
          refine sg_132_53c (fun _ z => absurd (f9.trans c9) z) (fun _ _ => ⟨rfl, ?_⟩) (fun z => absurd rfl z)
          have qq := q h3 Y3.1 frh fkh (fun _ => ⟨i, f7, hi, c9, (fkh 6 (by decide)).trans t.1, fun j hj => by rw [fr3 72 (by decide), fr3 73 (by decide), fr3 74 (by decide)]; exact A j hj⟩) (by rw [eS, st]; exact f8)
          rw [eS, st] at qq
          exact qq
        · rw [if_neg c9] at st
          have c63 : zkdT tb T i ≠ 63 := fun z => by
            have : zflN i (zkdT tb T i) s = 1 := if_pos z
            omega
          have i4 : i < 400 := by
            by_cases z : i < 400
            · exact z
            · exfalso
              have c0' := c0
              unfold zflN at c0'
              rw [if_neg c63] at c0'
              cases e : zstpS s (zkdT tb T i) with
              | none =>
                rw [e] at c0'
                have c0' : (1 : Int) = 0 := c0'
                exact absurd c0' (by decide)
              | some s' =>
                rw [e] at c0'
                have c0' : (if (zkdT tb T i ≠ 69 ∧ 400 ≤ i) ∨ 8 < s'.2.2 ∨ 4 < s'.2.1 then (2 : Int) else 0) = 0 := c0'
                rw [if_pos (Or.inl ⟨c9, by omega⟩)] at c0'
                exact absurd c0' (by decide)
          have f10 : h3 68 10 = zvlT tb T i := (Y3.2.2 10 (by decide) (by decide) (by decide) (by decide)).trans (y10 c63)
          rw [c0]
          refine sg_132_53c (fun _ _ => ?_) (fun _ z => absurd (f9.symm.trans z) c9) (fun z => absurd rfl z)
          refine sg_134_0 Y3.1 (fun z => by omega) (fun _ _ => by omega) (fun _ _ => by omega) (fun _ _ => ⟨rfl, ?_⟩) (fun _ z => by omega)
          refine sg_132_83c (by omega) ?_
          rw [f7, Int.toNat_natCast, f9, f10, f11]
          refine ih (i + 1) ((zstpS s (zkdT tb T i)).getD s) _ (x1 + 1) (by omega) (by omega) (by omega) ((((Y3.1.upA zfa_72).upA zfa_73).upA zfa_74).up (by decide)) ((((frh.up (by simp)).up (by simp)).up (by simp)).up (by simp)) (fun c hc => ?_) ?_ b1 b2 ?_ ?_ ?_ (fun j hj => ?_) (eS.trans st)
          · rw [zup_k (by omega), zup_c (by decide), zup_c (by decide), zup_c (by decide)]; exact fkh c hc
          · obtain ⟨⟨j0, a0, hj, ha0, g13, g14, gd⟩, g15, g16⟩ := D3
            refine ⟨⟨j0, a0, hj, ha0, ?_, ?_, gd⟩, ?_, ?_⟩
            · rw [zup_k (by decide), zup_c (by decide), zup_c (by decide), zup_c (by decide)]; exact g13
            · rw [zup_k (by decide), zup_c (by decide), zup_c (by decide), zup_c (by decide)]; exact g14
            · rw [zup_k (by decide), zup_c (by decide), zup_c (by decide), zup_c (by decide)]; exact g15
            · rw [zup_k (by decide), zup_c (by decide), zup_c (by decide), zup_c (by decide)]; exact g16
          · rw [zup_eq]; omega
          · rw [zup_k (by decide), zup_c (by decide), zup_c (by decide), zup_c (by decide)]; exact f8
          · rw [zup_k (by decide), zup_c (by decide), zup_c (by decide), zup_c (by decide)]; exact f12
          · by_cases z : j = i
            · rw [z]
              refine ⟨?_, ?_, ?_, c9, c63⟩
              · rw [zup_c (by decide), zup_c (by decide), zup_c (by decide), zup_eq]
              · rw [zup_c (by decide), zup_c (by decide), zup_eq]
              · rw [zup_c (by decide), zup_eq]
            · obtain ⟨a1, a2, a3, a4⟩ := A j (by omega)
              refine ⟨?_, ?_, ?_, a4⟩
              · rw [zup_c (by decide), zup_c (by decide), zup_c (by decide), zup_k z, fr3 72 (by decide)]; exact a1
              · rw [zup_c (by decide), zup_c (by decide), zup_k z, zup_c (by decide), fr3 73 (by decide)]; exact a2
              · rw [zup_c (by decide), zup_k z, zup_c (by decide), zup_c (by decide), fr3 74 (by decide)]; exact a3
      · rw [if_neg c0] at st
        refine sg_132_53c (fun z => absurd z c0) (fun z => absurd z c0) (fun _ => ⟨rfl, ?_⟩)
        have qq := q (zup h3 68 8 (h3 68 11)) (Y3.1.up (by decide)) (frh.up (by simp)) (fun c hc => by rw [zup_k (by omega)]; exact fkh c hc) (fun z => by rw [eS, st] at z; exact absurd z c0) (by rw [zup_eq, eS, st]; exact f11)
        rw [eS, st] at qq
        exact qq
  have F1 : zFin (zup (zup (zup (zup (zup (zup (zup h 68 7 0) 68 12 0) 68 8 (-1)) 68 13 ((1102 : Nat) : Int)) 68 14 0) 68 15 0) 68 16 0) := ((((((F.up (by decide)).up (by decide)).up (by decide)).up (by decide)).up (by decide)).up (by decide)).up (by decide)
  have fr1 : zfr [68, 72, 73, 74] h (zup (zup (zup (zup (zup (zup (zup h 68 7 0) 68 12 0) 68 8 (-1)) 68 13 ((1102 : Nat) : Int)) 68 14 0) 68 15 0) 68 16 0) := (((((((zfr.rfl).up (by simp)).up (by simp)).up (by simp)).up (by simp)).up (by simp)).up (by simp)).up (by simp)
  refine sg_132_0 (loop _ 0 ([76, 105, 59], 0, 0) _ 0 rfl (by omega) rfl F1 fr1 (fun c hc => ?_) ⟨⟨2, 0, by decide, by omega, ?_, ?_, rfl⟩, ?_, zup_eq⟩ (by decide) (by decide) ?_ ?_ ?_ (fun j hj => absurd hj (Nat.not_lt_zero _)) rfl)
  · rw [zup_k (by omega), zup_k (by omega), zup_k (by omega), zup_k (by omega), zup_k (by omega), zup_k (by omega), zup_k (by omega)]
  · rw [zup_k (by decide), zup_k (by decide), zup_k (by decide), zup_eq]
  · rw [zup_k (by decide), zup_k (by decide), zup_eq]; rfl
  · rw [zup_k (by decide), zup_eq]; rfl
  · rw [zup_k (by decide), zup_k (by decide), zup_k (by decide), zup_k (by decide), zup_k (by decide), zup_k (by decide), zup_eq]; rfl
  · rw [zup_k (by decide), zup_k (by decide), zup_k (by decide), zup_k (by decide), zup_eq]
  · rw [zup_k (by decide), zup_k (by decide), zup_k (by decide), zup_k (by decide), zup_k (by decide), zup_eq]; rfl
end
