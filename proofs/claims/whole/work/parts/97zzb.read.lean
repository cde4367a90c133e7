/-! TEXTS, THE CLASS: A TEXT IS READ -/
theorem zmc4 {c : Nat} (z : c ∈ zWt) : c ∈ 68 :: 72 :: 73 :: 74 :: zWt := .tail _ (.tail _ (.tail _ (.tail _ z)))
abbrev zWr (N : Nat) : List Nat := 0 :: 1 :: 2 :: (6 + 3 * N) :: (6 + 3 * N + 1) :: 68 :: 72 :: 73 :: 74 :: zWt
theorem zmc9 {c N : Nat} (z : c ∈ zWt) : c ∈ zWr N := .tail _ (.tail _ (.tail _ (.tail _ (.tail _ (zmc4 z)))))
theorem zuse_id {n : Int} {l : List zTe} : zuseL false false n l = l := by
  unfold zuseL
  show l.map (fun e => e) = l
  exact List.map_id' l
section
variable {X : List Int} {h : zHP} {K : Option zAV → zHP → Prop} {tb : Nat → Nat} {T N s : Nat} {A : Nat → Nat × Nat × zel}
theorem cxl_30b {n o : Nat} {l : List zTe} {p n2 : Nat} {l2 : List zTe} {up tu : Int} {ub tb : Bool} (F : zFin h) (ho : zLad o) (hp : zLad p) (hop : o ≠ p) (L : zLE h o n l) (L2 : zLP h p n2 l2) (hn : n ≤ 7) (hu : up = if ub = true then 1 else 0) (ht : tu = if tb = true then 1 else 0) (k : ∀ h', zFin h' → zfr [o, o + 1] h h' → h' o 5 = h o 5 → zLE h' o n (l ++ zuseL ub tb (n : Int) l2) → K none h') : zC X 30 [zR o, zR p, zI up, zI tu] h K := by
  obtain ⟨r, kk⟩ := L
  obtain ⟨⟨s2, b2, c2, R2, hs2, hm, hc⟩, k2⟩ := L2
  have cell : ∀ j, j < l2.length → zctr n l2.length up tu c2 j = zcdE ((zuseL ub tb (n : Int) l2).getD j ze0) := fun j hj => by
    rw [zuse_get hj]
    unfold zctr
    have e1 : (if up = 0 then j else l2.length - 1 - j) = (if ub = true then l2.length - 1 - j else j) := by
      rw [hu]
      by_cases c : ub = true
      · rw [if_pos c, if_pos c, if_neg (by decide)]
      · rw [if_neg c, if_neg c, if_pos rfl]
    rw [e1]
    have hq : (if ub = true then l2.length - 1 - j else j) < l2.length := by split <;> omega
    generalize (if ub = true then l2.length - 1 - j else j) = q at hq
    rw [hc q hq, ht]
    by_cases c : tb = true
    · rw [if_pos c, if_pos c, if_neg (by decide), zctn_E (k2 _ (zget_in hq))]
    · rw [if_neg c, if_neg c, if_pos rfl]
  have ck : ∀ j, j < (zuseL ub tb (n : Int) l2).length → zctr n l2.length up tu c2 j = zcdE ((zuseL ub tb (n : Int) l2).getD j ze0) := fun j hj => cell j (by rw [zuse_len] at hj; exact hj)
  have cnt : zc3 (zctr n l2.length up tu c2) l2.length = zc3L (zuseL ub tb (n : Int) l2) := by
    have := zc3_take ck (zuse_k k2) l2.length (by rw [zuse_len]; exact Nat.le_refl _)
    rw [List.take_of_length_le (by rw [zuse_len]; exact Nat.le_refl _)] at this
    exact this
  refine cx_30 F ho hp hop r R2 zLle zLle hs2 hn fun h' F' fr e2 e5 e3 e4 e6 e7 => ?_
  rw [hm] at e3 e4 e7
  obtain ⟨r2, r3, r4, rc⟩ := r
  clear R2 hs2 hm hc
  refine k h' F' fr e5 ⟨⟨e2.trans r2, ?_, ?_, fun i hi h2 => ?_⟩, fun e he => ?_⟩
  · rw [e3, List.length_append, zuse_len, zgA]
  · rw [e4, zc3L_app, cnt, zgA]
  · have hi := zLlt hi
    rw [List.length_append, zuse_len] at hi
    show h' (o + 1) i = (zcdE ((l ++ zuseL ub tb (n : Int) l2).getD i ze0) : Int) ∧ zcdE ((l ++ zuseL ub tb (n : Int) l2).getD i ze0) < 2048
    by_cases z : i < l.length
    · have i2 := zLgt z h2
      rw [zget_l z, e6 i i2]
      exact rc i i2 h2
    · have em : min l.length 100000 = l.length := zL200 (by omega)
      rw [em] at e7
      have e7 := e7 (i - l.length) (by omega) (by omega)
      rw [show l.length + (i - l.length) = i by omega, cell _ (by omega)] at e7
      rw [zget_r (by omega)]
      exact ⟨e7, zcdE_lt (zuse_k k2 _ (zget_in (by rw [zuse_len]; omega)))⟩
  · rcases List.mem_append.mp he with z | z
    · exact kk e z
    · exact zuse_k k2 e z
/-- read -/
theorem cx_160 (F : zFin h) (T0 : zOT h) (S : zCS h N s A) (t : zTC h T tb) (W : zWd h) (h79 : ∀ p, p < 8 → h 79 p = ((80 + 3 * p : Nat) : Int)) (hs : s < 100000) (k2 : N = 6 → K (some (zI (-2))) h) (k1 : N < 6 → ∀ h', zFin h' → zOT h' → zfr (zWr N) h h' → h 1 1 ≤ h' 1 1 → zTC h' 0 tb → h' 0 14 = (zRdF tb T).2 → ((zRdF tb T).1 ≠ 0 → zCS h' N s A) → ((zRdF tb T).1 = 0 → zCS h' (N + 1) (s + 1) (zpsh A N (zLgs tb T, (zRdI tb T).length, zeL (zRdI tb T))) ∧ h' (6 + 3 * N) 5 = ((s + 1 : Nat) : Int)) → K (some (zI (zRdF tb T).1)) h') : zC X 160 [zR 0] h K := by
  have S' := S
  obtain ⟨s1, s2, s3, s4, -⟩ := S'
  refine sg_160_0 F (fun a => ?_) (fun a => ⟨rfl, k2 (by omega)⟩)
  have hN : N < 6 := by omega
  have k1 := k1 hN
  refine cx_132 F t W fun h1 F1 fr1 c1 kc e8 => ?_
  have kc : (zS0T tb T).1 = 0 → ∃ L, zTKc h1 tb T L := kc
  have e8 : h1 68 8 = (zS0T tb T).2 := e8
  show zAt X 160 19 0 0 [some (zR 0), none, none, none] [zI (zS0T tb T).1] zSHc h1 (fun v sh' h' => sh' = zSHc ∧ K v h')
  /- the class, as far as nothing is shelved -/
  have lo : ∀ (h' : zHP), zFin h' → zfr (68 :: 72 :: 73 :: 74 :: zWt) h h' → (∀ a : Int, zCS (zup h' 0 14 a) N s A ∧ zOT (zup h' 0 14 a)) := fun h' F' fr a => by
    refine ⟨S.fr ?_ ?_ ?_ ?_ ?_, T0.fr ?_ ?_⟩
    · rw [zup_k (by decide), fr 0 (by decide)]
    · rw [zup_k (by decide), fr 0 (by decide)]
    · funext q; rw [zup_c (by decide), fr 5 (by decide)]
    · rw [zup_c (by decide), fr 1 (by decide)]; exact Int.le_refl _
    · intro u hu
      have q : ∀ c, 6 ≤ c → c < 24 → zup h' 0 14 a c = h c := fun c q1 q2 => by
        funext j
        rw [zup_c (by omega), fr c (by simp; omega)]
      exact ⟨q _ (by omega) (by omega), q _ (by omega) (by omega)⟩
    · funext q; rw [zup_c (by decide), fr 1 (by decide)]
    · funext q; rw [zup_c (by decide), fr 2 (by decide)]
  have t1 : zTC h1 T tb := t.k (c1 6 (by decide)) (fr1 69 (by decide))
  by_cases w0 : (zS0T tb T).1 = 0
  · have h0 := zS0_ok w0
    obtain ⟨L, tL⟩ := kc w0
    have eF := zRd_F h0
    rw [eF] at k1
    rw [w0]
    refine sg_160_19c F1 (fun z => absurd rfl z) (fun _ => ?_)
    have F1u : zFin (zup h1 0 14 (h1 68 8)) := F1.up (by decide)
    refine cx_108 F1u (tL.fr fun c hc => by funext q; exact zup_c (by omega)) (fun p hp => by rw [zup_c (by decide), fr1 79 (by decide)]; exact h79 p hp) h0 fun h2 tp b2 C2 => ?_
    have F2 := b2.1
    have fr2 := b2.2
    have ok := zRd_ok h0
    have t2 : zTC h2 T tb := t1.k (by rw [fr2 68 (by decide), zup_c (by decide)]) (by rw [fr2 69 (by decide)]; funext q; exact zup_c (by decide))
    show zAt X 160 46 0 0 [some (zR 0), none, none, none] [zI (zRun zlk1 tb T).2.1.1] zSHc h2 (fun v sh' h' => sh' = zSHc ∧ K v h')
    have e15 : h2 75 15 = (zRun zlk1 tb T).2.1.2 := by
      generalize zRun zlk1 tb T = σ at C2
      obtain ⟨i, ft, P, op, B, st, I, fs⟩ := σ
      exact C2.1.2.2.2.2
    refine sg_160_46c F2 ?_
    have F2u : zFin (zup h2 0 14 (h2 75 15)) := F2.up (by decide)
    have t2u : zTC (zup h2 0 14 (h2 75 15)) T tb := t2.k (zup_c (by decide)) (by funext q; exact zup_c (by decide))
    have e6 : zup h2 0 14 (h2 75 15) 68 6 = (T : Int) := t2u.1
    rw [e6]
    have frA : zfr (68 :: 72 :: 73 :: 74 :: zWt) h (zup h2 0 14 (h 0 14)) := by
      intro c hc
      have hc' : c ∉ zWt := fun z => hc (zmc4 z)
      have hc2 : c ∉ [68, 72, 73, 74] := fun z => hc (by simp at z ⊢; omega)
      funext q
      by_cases c0 : c = 0
      · subst c0
        by_cases q14 : q = 14
        · rw [q14, zup_eq]
        · rw [zup_k q14, fr2 0 (by decide), zup_k q14, fr1 0 (by decide)]
      · rw [zup_c c0, fr2 c hc', zup_c c0, fr1 c hc2]
    refine cx_124 F2u t2u (fun z => absurd ⟨by omega, by omega⟩ z) fun _ _ h3 F3 fr3 c3 t3 => ?_
    rw [show T - ((T : Int)).toNat = 0 by omega] at t3
    have S2 : zCS (zup h2 0 14 (h2 75 15)) N s A ∧ zOT (zup h2 0 14 (h2 75 15)) := by
      have g := lo _ (F2.up (by decide)) frA (h2 75 15)
      have e : zup (zup h2 0 14 (h 0 14)) 0 14 (h2 75 15) = zup h2 0 14 (h2 75 15) := by
        funext c q
        by_cases c0 : c = 0
        · subst c0
          by_cases q14 : q = 14
          · rw [q14, zup_eq, zup_eq]
          · rw [zup_k q14, zup_k q14, zup_k q14]
        · rw [zup_c c0, zup_c c0, zup_c c0]
      rw [e] at g
      exact g
    have S3 : zCS h3 N s A := S2.1.fr (by rw [fr3 0 (by decide)]) (by rw [fr3 0 (by decide)]) (fr3 5 (by decide)) (by rw [fr3 1 (by decide)]; exact Int.le_refl _) fun u hu => ⟨fr3 _ (by simp; omega), fr3 _ (by simp; omega)⟩
    have T3 : zOT h3 := S2.2.fr (fr3 1 (by decide)) (fr3 2 (by decide))
    have e14 : h3 0 14 = (zRun zlk1 tb T).2.1.2 := by rw [fr3 0 (by decide), zup_eq]; exact e15
    have fr03 : zfr (zWr N) h h3 := by
      intro c hc
      have hc0 : c ≠ 0 := fun z => hc (by simp [z])
      have hc' : c ∉ zWt := fun z => hc (zmc9 z)
      have hc2 : c ∉ [68, 72, 73, 74] := fun z => hc (by simp at z ⊢; omega)
      funext q
      rw [fr3 c (fun z => hc2 (by simp at z ⊢; omega)), zup_c hc0, fr2 c hc', zup_c hc0, fr1 c hc2]
    have r03 : h 1 1 ≤ h3 1 1 := by rw [fr3 1 (by decide), zup_c (by decide), fr2 1 (by decide), zup_c (by decide), fr1 1 (by decide)]; exact Int.le_refl _
    by_cases w : (zRun zlk1 tb T).2.1.1 = 0
    · obtain ⟨ok1, ok2, ok3, ok4, ok5⟩ := ok w
      have k1 := fun h' a b c d e f g => k1 h' a b c d e f (fun z => absurd w z) (fun _ => g)
      have LE : zLE h2 76 (zLgs tb T) (zRdI tb T) := by
        unfold zRdI
        generalize zRun zlk1 tb T = σ at C2 ok1
        obtain ⟨i, ft, P, op, B, st, I, fs⟩ := σ
        have ok1 : op = none := ok1
        have L := C2.2.2.2.2.2.1
        rw [show zoc op P.length = 76 from if_pos ok1] at L
        exact L
      have q76 : h3 76 = h2 76 := by rw [fr3 76 (by decide)]; funext q; exact zup_c (by decide)
      have q77 : h3 77 = h2 77 := by rw [fr3 77 (by decide)]; funext q; exact zup_c (by decide)
      have LE3 : zLE h3 76 (zLgs tb T) (zRdI tb T) := LE.fr q76 q77
      have l76 : zLad 76 := by unfold zLad; omega
      refine sg_160_72c F3 l76 (fun z => absurd w z) fun _ => ?_
      rw [LE3.1.1]
      refine cx_203 F3 T3 S3 hN hs zLgs_ok fun h4 F4 T4 fr4 b1 b2 b3 b4 b5 b6 b7 b8 b9 => ?_
      have hpN := zLadT hN
      have LP4 : zLP h4 76 (zLgs tb T) (zRdI tb T) := by
        have L4 : zLE h4 76 (zLgs tb T) (zRdI tb T) := LE3.fr (fr4 76 (by simp; omega)) (fr4 77 (by simp; omega))
        exact ⟨⟨_, _, _, L4.1, Nat.min_le_right _ _, by omega, fun q hq => rfl⟩, L4.2⟩
      refine sg_160_93c hpN (by omega) (cxl_30b (ub := false) (tb := false) F4 hpN l76 (by omega) (n := zLgs tb T) (l := []) ⟨⟨b4, b5, b6, fun i hi => absurd hi (Nat.not_lt_zero _)⟩, fun e he => (by cases he)⟩ LP4 zLgs_ok.2 rfl rfl fun h5 F5 fr5 e55 L5 => sg_160_105c ⟨rfl, ?_⟩)
      rw [zuse_id, List.nil_append] at L5
      have FR : zfr [0, 1, 2, 6 + 3 * N, 6 + 3 * N + 1] h3 h5 := (fr4.mono (by simp)).trans (fr5.mono (by simp))
      have g0 : h5 0 = h4 0 := fr5 0 (by simp; omega)
      have g1 : h5 1 = h4 1 := fr5 1 (by simp; omega)
      have g2 : h5 2 = h4 2 := fr5 2 (by simp; omega)
      obtain ⟨⟨r1, r2, r3, r4⟩, r5⟩ := L5
      have hl := zeL_ok zLgs_ok ok3 ok4 fun e he => (ok5 e he).1
      have LC : zLC h5 (6 + 3 * N) (zLgs tb T) (zRdI tb T).length (zeL (zRdI tb T)) := by
        refine ⟨r1, by rw [r2]; omega, by rw [r3, zeL_all]; omega, fun i hi => ?_⟩
        rw [(r4 i (by omega) (by omega)).1]
        exact congrArg Nat.cast (zeL_enc zLgs_ok ok5 hi)
      have g5 : h5 (6 + 3 * N) 5 = ((s + 1 : Nat) : Int) := e55.trans b7
      have r35 : h3 1 1 ≤ h5 1 1 := by rw [g1]; exact b8
      refine k1 h5 F5 (T4.fr g1 g2) (fr03.trans (FR.mono (by simp))) (Int.le_trans r03 r35) (t3.k (by rw [FR 68 (by simp; omega)]) (FR 69 (by simp; omega))) (by rw [g0, b3]; exact e14) ?_
      exact ⟨S3.push hN (by rw [g0]; exact b1) (by rw [g0]; exact b2) FR hl LC g5 r35 (by rw [g1]; exact b9), g5⟩
    · refine sg_160_72c F3 (by unfold zLad; omega) (fun _ => ⟨rfl, k1 h3 F3 T3 fr03 r03 t3 e14 (fun _ => S3) fun z => absurd z w⟩) fun z => absurd z w
  · have eF : zRdF tb T = zS0T tb T := if_neg w0
    rw [eF] at k1
    refine sg_160_19c F1 (fun _ => ?_) (fun z => absurd z w0)
    have F1u : zFin (zup h1 0 14 (h1 68 8)) := F1.up (by decide)
    have t1u : zTC (zup h1 0 14 (h1 68 8)) T tb := t1.k (zup_c (by decide)) (by funext q; exact zup_c (by decide))
    have e6 : zup h1 0 14 (h1 68 8) 68 6 = (T : Int) := t1u.1
    rw [e6]
    obtain ⟨S1, T1⟩ := lo h1 F1 (fr1.mono (by simp)) (h1 68 8)
    refine cx_124 F1u t1u (fun z => absurd ⟨by omega, by omega⟩ z) fun _ _ h3 F3 fr3 c3 t3 => ?_
    rw [show T - ((T : Int)).toNat = 0 by omega] at t3
    have S3 : zCS h3 N s A := S1.fr (by rw [fr3 0 (by decide)]) (by rw [fr3 0 (by decide)]) (fr3 5 (by decide)) (by rw [fr3 1 (by decide)]; exact Int.le_refl _) fun u hu => ⟨fr3 _ (by simp; omega), fr3 _ (by simp; omega)⟩
    have T3 : zOT h3 := T1.fr (fr3 1 (by decide)) (fr3 2 (by decide))
    have e14 : h3 0 14 = (zS0T tb T).2 := by rw [fr3 0 (by decide), zup_eq]; exact e8
    have fr03 : zfr (zWr N) h h3 := by
      intro c hc
      have hc0 : c ≠ 0 := fun z => hc (by simp [z])
      have hc2 : c ∉ [68, 72, 73, 74] := fun z => hc (by simp at z ⊢; omega)
      funext q
      rw [fr3 c (fun z => hc2 (by simp at z ⊢; omega)), zup_c hc0, fr1 c hc2]
    have r03 : h 1 1 ≤ h3 1 1 := by rw [fr3 1 (by decide), zup_c (by decide), fr1 1 (by decide)]; exact Int.le_refl _
    refine sg_160_72c F3 (by unfold zLad; omega) (fun _ => ⟨rfl, k1 h3 F3 T3 fr03 r03 t3 e14 (fun _ => S3) fun z => absurd z w0⟩) fun z => absurd z w0
end
