/-! TEXTS, THE REFERENCE: A STATEMENT; A WHOLE TEXT -/
theorem zgs_1 {k c : Int} {r : List Int} (h1 : c ≠ 117) (h2 : c ≠ 116) : zgsD k (c :: r) = if k = c then some r else none := by
  show (if k = c then some r else if c = 117 ∨ c = 116 then zgsD k r else none) = _
  rw [if_neg (show ¬ (c = 117 ∨ c = 116) by omega)]
theorem zgs_2 {k c : Int} {r : List Int} (h1 : k ≠ c) (h2 : c = 117 ∨ c = 116) : zgsD k (c :: r) = zgsD k r := by
  show (if k = c then some r else if c = 117 ∨ c = 116 then zgsD k r else none) = _
  rw [if_neg h1, if_pos h2]
theorem zgs_3 {k : Int} {r : List Int} : zgsD k (k :: r) = some r := by
  show (if k = k then some r else _) = _
  rw [if_pos rfl]
theorem zstp_nil {dp pr : Nat} {k : Int} : zstpS ([], dp, pr) k = if k = 69 then (if dp = 0 then some ([], 0, pr) else none) else if k = 125 then (if dp = 0 then none else some ([], dp - 1, pr)) else if k = 80 ∧ dp ≠ 0 then none else if zshB k = [] then none else some (zshB k, dp, if k = 80 then pr + 1 else pr) := rfl
section
variable {X : List Int} {h h0 : zHP} {K : Option zAV → zHP → Prop} {tb : Nat → Nat} {T L i : Nat}
theorem cm_226u {dp pr : Nat} (P : zPM h0 h tb T i ([117, 116, 59], dp, pr)) (O : zPO2 h ([117, 116, 59], dp, pr)) (M : zTKm h0 tb T L) (hL : i ≤ L) (k0 : ∀ h', zPB h0 h' tb T → K (some (zI 0)) h') (k1 : ∀ h' i', i < i' → zPM h0 h' tb T i' ([], dp, pr) → zPO2 h' ([], dp, pr) → i' ≤ L → K (some (zI 1)) h') : zAt X 226 286 0 0 [some (zR 108), none] [zI 1] zSHc h (fun v sh' h' => sh' = zSHc ∧ K v h') := by
  have w7 := P.wrd M hL (w := 7) (q := 117) (by decide) (by decide) (fun k a _ => zwx_u a (by decide))
  have w8 := P.wrd M hL (w := 8) (q := 116) (by decide) (by decide) (fun k a _ => zwx_u a (by decide))
  have i4 := P.2.2.2.2.2.2.1
  have d4 := P.2.2.2.2.2.2.2.2.1
  have p8 := P.2.2.2.2.2.2.2.2.2
  have last : ∀ (j : Nat) (h2 : zHP) (d : List Int), i ≤ j → d ≠ [] → zgsD (zkdT tb T j) d = (if zkdT tb T j = 59 then some [] else none) → zPM h0 h2 tb T j (d, dp, pr) → zPO2 h2 (d, dp, pr) → j ≤ L → zC X 224 [zR 108, zI 59] h2 (fun v h9 => zAt X 226 333 0 0 [none, none] (zpush v []) zSHc h9 (fun v sh' h' => sh' = zSHc ∧ K v h')) := fun j h2 d hij hd hz P2 O2 L2 => cm_224 (r := []) P2 O2 M L2 hd hz (fun h' B => sg_226_333c ⟨rfl, k0 h' B⟩ (by decide)) fun h3 P3 O3 L3 => sg_226_333c ⟨rfl, k1 h3 (j + 1) (by omega) P3 O3 L3⟩ (by decide)
  have after8 : ∀ (j : Nat) (h2 : zHP), i ≤ j → zPM h0 h2 tb T j ([59], dp, pr) → zPO2 h2 ([59], dp, pr) → j ≤ L → zAt X 226 322 0 0 [some (zR 108), none] [zI 1] zSHc h2 (fun v sh' h' => sh' = zSHc ∧ K v h') := fun j h2 hij P2 O2 L2 => sg_226_322c (fun _ => last j h2 [59] hij (by simp) (zgs_1 (by decide) (by decide)) P2 O2 L2) (fun z => absurd z (by decide))
  by_cases c7 : zkdT tb T i = 117
  · have sh : zstpS ([117, 116, 59], dp, pr) (zkdT tb T i) = some ([116, 59], dp, pr) := by rw [c7]; rfl
    refine sg_226_286c P.1 (fun _ => by have := P.2.2.2.1; omega) (fun _ z => absurd (w7.mpr c7) z) (fun _ z => absurd (w7.mpr c7) z) (fun _ _ => ?_) (fun z => absurd z (by decide))
    refine cm_220 P M hL sh (by omega) (by omega) d4 p8 (fun h' B => sg_226_304c B.1 (fun z => absurd rfl z) (fun z => absurd rfl z) (fun z => absurd rfl z) (fun _ => ⟨rfl, k0 h' B⟩)) fun h2 P2 L2 o1 o2 => ?_
    have O2 : zPO2 h2 ([116, 59], dp, pr) := ⟨o1.trans O.1, o2.trans O.2⟩
    have v8 := P2.wrd M L2 (w := 8) (q := 116) (by decide) (by decide) (fun k a _ => zwx_u a (by decide))
    have j4 := P2.2.2.2.2.2.2.1
    by_cases c8 : zkdT tb T (i + 1) = 116
    · have sh2 : zstpS ([116, 59], dp, pr) (zkdT tb T (i + 1)) = some ([59], dp, pr) := by rw [c8]; rfl
      refine sg_226_304c P2.1 (fun _ => by have := P2.2.2.2.1; omega) (fun _ z => absurd (v8.mpr c8) z) (fun _ _ => ?_) (fun z => absurd z (by decide))
      exact cm_220 P2 M L2 sh2 (by omega) (by omega) d4 p8 (fun h' B => sg_226_322c (fun z => absurd rfl z) (fun _ => ⟨rfl, k0 h' B⟩)) fun h3 P3 L3 o3 o4 => after8 (i + 1 + 1) h3 (by omega) P3 ⟨o3.trans O2.1, o4.trans O2.2⟩ L3
    · refine sg_226_304c P2.1 (fun _ => by have := P2.2.2.2.1; omega) (fun _ _ => ?_) (fun _ z => absurd (v8.mp z) c8) (fun z => absurd z (by decide))
      exact last (i + 1) h2 [116, 59] (by omega) (by simp) (by rw [zgs_2 c8 (by decide), zgs_1 (by decide) (by decide)]) P2 O2 L2
  · by_cases c8 : zkdT tb T i = 116
    · have sh : zstpS ([117, 116, 59], dp, pr) (zkdT tb T i) = some ([59], dp, pr) := by rw [c8]; rfl
      refine sg_226_286c P.1 (fun _ => by have := P.2.2.2.1; omega) (fun _ _ z => absurd (w8.mpr c8) z) (fun _ _ _ => ?_) (fun _ z => absurd (w7.mp z) c7) (fun z => absurd z (by decide))
      exact cm_220 P M hL sh (by omega) (by omega) d4 p8 (fun h' B => sg_226_322c (fun z => absurd rfl z) (fun _ => ⟨rfl, k0 h' B⟩)) fun h3 P3 L3 o3 o4 => after8 (i + 1) h3 (by omega) P3 ⟨o3.trans O.1, o4.trans O.2⟩ L3
    · refine sg_226_286c P.1 (fun _ => by have := P.2.2.2.1; omega) (fun _ _ _ => ?_) (fun _ _ z => absurd (w8.mp z) c8) (fun _ z => absurd (w7.mp z) c7) (fun z => absurd z (by decide))
      exact last i h [117, 116, 59] (by omega) (by simp) (by rw [zgs_2 c7 (by decide), zgs_2 c8 (by decide), zgs_1 (by decide) (by decide)]) P O hL
/-- goesThrough -/
theorem cm_226 {dp pr : Nat} (P : zPM h0 h tb T i ([], dp, pr)) (O : zPO2 h ([], dp, pr)) (M : zTKm h0 tb T L) (hL : i ≤ L) (n69 : zkdT tb T i ≠ 69) (k0 : ∀ h', zPB h0 h' tb T → K (some (zI 0)) h') (k1 : ∀ h' i' dp' pr', i < i' → zPM h0 h' tb T i' ([], dp', pr') → zPO2 h' ([], dp', pr') → i' ≤ L → K (some (zI 1)) h') : zC X 226 [zR 108] h K := by
  have m := P.rd M hL
  have i4 := P.2.2.2.2.2.2.1
  have d4 : dp ≤ 4 := P.2.2.2.2.2.2.2.2.1
  have p8 : pr ≤ 8 := P.2.2.2.2.2.2.2.2.2
  have e19 := P.2.2.2.1
  have o31 : h 108 31 = (dp : Int) := O.1
  have o22 : h 108 22 = (pr : Int) := O.2
  have ei : (h 108 19).toNat = i := by omega
  have g0 : h 120 (h 108 19).toNat = zsoT (zkdT tb T i) := by rw [ei]; exact m.1
  have g2 : zsoT (zkdT tb T i) = 2 → h 122 (h 108 19).toNat = zkdT tb T i := by rw [ei]; exact m.2.2.2.1
  have g3 : zsoT (zkdT tb T i) = 3 → h 122 (h 108 19).toNat = zwxT (zkdT tb T i) := by rw [ei]; exact m.2.2.2.2.1
  have dom : zkdT tb T i ∈ _ := zkn_in tb T (zpcT tb T i)
  have sg := P.sgn M hL (c := 125) (by decide)
  have bad1 : zstpS ([], dp, pr) (zkdT tb T i) = none → ∀ k, (∀ h', K (some (zI 0)) h' → zAt X 226 k 0 0 [none, none] (zpush (some (zI 0)) []) zSHc h' (fun v sh' h' => sh' = zSHc ∧ K v h')) → zC X 219 [zR 108, zI 1] h (fun v h9 => zAt X 226 k 0 0 [none, none] (zpush v []) zSHc h9 (fun v sh' h' => sh' = zSHc ∧ K v h')) := fun e k f => cm_219 P M hL (zfl_1 e) (by decide) fun h' B => f h' (k0 h' B)
  by_cases c : zkdT tb T i = 125
  · have t := sg.mpr c
    by_cases z : dp = 0
    · have e : zstpS ([], dp, pr) (zkdT tb T i) = none := by rw [c, z]; rfl
      have g := bad1 e 21 fun h' q => sg_226_21c ⟨rfl, q⟩ (by decide)
      clear bad1 g2 g3 g0 dom m
      apply sg_226_0 P.1 <;> intros <;> first | omega | exact g
    · have e : zstpS ([], dp, pr) (zkdT tb T i) = some ([], dp - 1, pr) := by
        rw [zstp_nil, c, if_neg (by decide), if_pos rfl, if_neg z]
      have g : zC X 220 [zR 108] (zup h 108 31 ((h 108 31) - 1)) (fun v h9 => zAt X 226 36 0 0 [none, none] (zpush v []) zSHc h9 (fun v sh' h' => sh' = zSHc ∧ K v h')) := by
        refine cm_220 (P.set (by decide)) M hL e (by omega) n69 (by show dp - 1 ≤ 4; omega) p8 (fun h' B => sg_226_36c ⟨rfl, k0 h' B⟩ (by decide)) fun h' P' L' o1 o2 => sg_226_36c ⟨rfl, k1 h' (i + 1) _ _ (by omega) P' ⟨?_, ?_⟩ L'⟩ (by decide)
        · rw [o1, zup_eq]; show _ = ((dp - 1 : Nat) : Int); omega
        · rw [o2, zup_k (by decide)]; exact o22
      clear bad1 g2 g3 g0 dom m
      apply sg_226_0 P.1 <;> intros <;> first | omega | exact g
  have n125 : ¬ (h 120 (h 108 19).toNat = 2 ∧ h 122 (h 108 19).toNat = 125) := fun z => c (sg.mp z)
  by_cases c1 : zkdT tb T i = 80
  · have e0 : h 120 (h 108 19).toNat = 3 := by rw [g0, c1]; rfl
    have e2 : h 122 (h 108 19).toNat = 1 := by rw [g3 (by rw [c1]; rfl), c1]; rfl
    by_cases z : dp = 0
    · have e : zstpS ([], dp, pr) (zkdT tb T i) = some ([110, 123], 0, pr + 1) := by rw [c1, z]; rfl
      by_cases full : pr = 8
      · have fl := zfl_s (i := i) e (by omega)
        rw [if_pos (Or.inr (Or.inl (by show 8 < pr + 1; omega)))] at fl
        have g : zC X 219 [zR 108, zI 2] h (fun v h9 => zAt X 226 98 0 0 [none, none] (zpush v []) zSHc h9 (fun v sh' h' => sh' = zSHc ∧ K v h')) := cm_219 P M hL fl (by decide) fun h' B => sg_226_98c ⟨rfl, k0 h' B⟩ (by decide)
        clear bad1 g2 g3 g0 dom m
        apply sg_226_0 P.1 <;> intros <;> first | omega | exact g
      · have g : zC X 220 [zR 108] (zup h 108 22 ((h 108 22) + 1)) (fun v h9 => zAt X 226 113 0 0 [some (zR 108), none] (zpush v []) zSHc h9 (fun v sh' h' => sh' = zSHc ∧ K v h')) := by
          refine cm_220 (P.set (by decide)) M hL e (by omega) n69 (Nat.zero_le _) (by show pr + 1 ≤ 8; omega) (fun h' B => sg_226_113c (fun _ => ⟨rfl, k0 h' B⟩) (fun z => absurd rfl z)) fun h1 P1 L1 o1 o2 => sg_226_113c (fun z => absurd z (by decide)) (fun _ => ?_)
          refine cm_223 (c := 110) (r := [123]) P1 ⟨?_, ?_⟩ M L1 (by simp) (zgs_1 (by decide) (by decide)) (Or.inr ⟨rfl, rfl⟩) (fun h' B => sg_226_121c (fun _ => ⟨rfl, k0 h' B⟩) (fun z => absurd rfl z)) fun h2 P2 O2 L2 => sg_226_121c (fun z => absurd z (by decide)) (fun _ => ?_)
          · rw [o1, zup_k (by decide), o31, z]
          · rw [o2, zup_eq]; show _ = ((pr + 1 : Nat) : Int); omega
          refine cm_225 P2 O2 M L2 rfl (fun h' B => sg_226_128c (fun _ => ⟨rfl, k0 h' B⟩) (fun z => absurd rfl z)) fun h3 P3 O3 L3 => sg_226_128c (fun z => absurd z (by decide)) (fun _ => ⟨rfl, k1 h3 (i + 1 + 1 + 1) _ _ (by omega) P3 O3 L3⟩)
        clear bad1 g2 g3 g0 dom m
        apply sg_226_0 P.1 <;> intros <;> first | omega | exact g
    · have e : zstpS ([], dp, pr) (zkdT tb T i) = none := by
        rw [zstp_nil, c1, if_neg (by decide), if_neg (by decide), if_pos ⟨rfl, z⟩]
      have g := bad1 e 83 fun h' q => sg_226_83c ⟨rfl, q⟩ (by decide)
      clear bad1 g2 g3 g0 dom m
      apply sg_226_0 P.1 <;> intros <;> first | omega | exact g
  by_cases c2 : zkdT tb T i = 82 ∨ zkdT tb T i = 71 ∨ zkdT tb T i = 66
  · have e0 : h 120 (h 108 19).toNat = 3 := by rw [g0]; rcases c2 with z | z | z <;> rw [z] <;> rfl
    have e2 : 2 ≤ h 122 (h 108 19).toNat ∧ h 122 (h 108 19).toNat ≤ 4 := by rw [g3 (g0.symm.trans e0)]; rcases c2 with z | z | z <;> rw [z] <;> decide
    have e : zstpS ([], dp, pr) (zkdT tb T i) = some ([105, 59], dp, pr) := by rcases c2 with z | z | z <;> rw [z] <;> rfl
    have g : zC X 220 [zR 108] h (fun v h9 => zAt X 226 151 0 0 [some (zR 108), none] (zpush v []) zSHc h9 (fun v sh' h' => sh' = zSHc ∧ K v h')) := by
      refine cm_220 P M hL e (by omega) n69 d4 p8 (fun h' B => sg_226_151c (fun _ => ⟨rfl, k0 h' B⟩) (fun z => absurd rfl z)) fun h1 P1 L1 o1 o2 => sg_226_151c (fun z => absurd z (by decide)) (fun _ => ?_)
      refine cm_223 (c := 105) (r := [59]) P1 ⟨o1.trans O.1, o2.trans O.2⟩ M L1 (by simp) (zgs_1 (by decide) (by decide)) (Or.inl ⟨rfl, rfl⟩) (fun h' B => sg_226_159c (fun _ => ⟨rfl, k0 h' B⟩) (fun z => absurd rfl z)) fun h2 P2 O2 L2 => sg_226_159c (fun z => absurd z (by decide)) (fun _ => ?_)
      refine cm_224 (r := []) P2 O2 M L2 (by simp) (zgs_1 (by decide) (by decide)) (fun h' B => sg_226_168c (fun _ => ⟨rfl, k0 h' B⟩) (fun z => absurd rfl z)) fun h3 P3 O3 L3 => sg_226_168c (fun z => absurd z (by decide)) (fun _ => ⟨rfl, k1 h3 (i + 1 + 1 + 1) _ _ (by omega) P3 O3 L3⟩)
    clear bad1 g2 g3 g0 dom m
    apply sg_226_0 P.1 <;> intros <;> first | omega | exact g
  by_cases c5 : zkdT tb T i = 77
  · have e0 : h 120 (h 108 19).toNat = 3 := by rw [g0, c5]; rfl
    have e2 : h 122 (h 108 19).toNat = 5 := by rw [g3 (by rw [c5]; rfl), c5]; rfl
    have e : zstpS ([], dp, pr) (zkdT tb T i) = some ([105, 105, 105, 59], dp, pr) := by rw [c5]; rfl
    have g : zC X 220 [zR 108] h (fun v h9 => zAt X 226 186 0 0 [some (zR 108), none] (zpush v []) zSHc h9 (fun v sh' h' => sh' = zSHc ∧ K v h')) := by
      refine cm_220 P M hL e (by omega) n69 d4 p8 (fun h' B => sg_226_186c (fun _ => ⟨rfl, k0 h' B⟩) (fun z => absurd rfl z)) fun h1 P1 L1 o1 o2 => sg_226_186c (fun z => absurd z (by decide)) (fun _ => ?_)
      refine cm_223 (c := 105) (r := [105, 105, 59]) P1 ⟨o1.trans O.1, o2.trans O.2⟩ M L1 (by simp) (zgs_1 (by decide) (by decide)) (Or.inl ⟨rfl, rfl⟩) (fun h' B => sg_226_194c (fun _ => ⟨rfl, k0 h' B⟩) (fun z => absurd rfl z)) fun h2 P2 O2 L2 => sg_226_194c (fun z => absurd z (by decide)) (fun _ => ?_)
      refine cm_223 (c := 105) (r := [105, 59]) P2 O2 M L2 (by simp) (zgs_1 (by decide) (by decide)) (Or.inl ⟨rfl, rfl⟩) (fun h' B => sg_226_202c (fun _ => ⟨rfl, k0 h' B⟩) (fun z => absurd rfl z)) fun h3 P3 O3 L3 => sg_226_202c (fun z => absurd z (by decide)) (fun _ => ?_)
      refine cm_223 (c := 105) (r := [59]) P3 O3 M L3 (by simp) (zgs_1 (by decide) (by decide)) (Or.inl ⟨rfl, rfl⟩) (fun h' B => sg_226_210c (fun _ => ⟨rfl, k0 h' B⟩) (fun z => absurd rfl z)) fun h4 P4 O4 L4 => sg_226_210c (fun z => absurd z (by decide)) (fun _ => ?_)
      refine cm_224 (r := []) P4 O4 M L4 (by simp) (zgs_1 (by decide) (by decide)) (fun h' B => sg_226_219c (fun _ => ⟨rfl, k0 h' B⟩) (fun z => absurd rfl z)) fun h5 P5 O5 L5 => sg_226_219c (fun z => absurd z (by decide)) (fun _ => ⟨rfl, k1 h5 (i + 1 + 1 + 1 + 1 + 1) _ _ (by omega) P5 O5 L5⟩)
    clear bad1 g2 g3 g0 dom m
    apply sg_226_0 P.1 <;> intros <;> first | omega | exact g
  by_cases c9 : zkdT tb T i = 84
  · have e0 : h 120 (h 108 19).toNat = 3 := by rw [g0, c9]; rfl
    have e2 : h 122 (h 108 19).toNat = 9 := by rw [g3 (by rw [c9]; rfl), c9]; rfl
    have e : zstpS ([], dp, pr) (zkdT tb T i) = some ([105, 123], dp, pr) := by rw [c9]; rfl
    have g : zC X 220 [zR 108] h (fun v h9 => zAt X 226 238 0 0 [some (zR 108), none] (zpush v []) zSHc h9 (fun v sh' h' => sh' = zSHc ∧ K v h')) := by
      refine cm_220 P M hL e (by omega) n69 d4 p8 (fun h' B => sg_226_238c (fun _ => ⟨rfl, k0 h' B⟩) (fun z => absurd rfl z)) fun h1 P1 L1 o1 o2 => sg_226_238c (fun z => absurd z (by decide)) (fun _ => ?_)
      refine cm_223 (c := 105) (r := [123]) P1 ⟨o1.trans O.1, o2.trans O.2⟩ M L1 (by simp) (zgs_1 (by decide) (by decide)) (Or.inl ⟨rfl, rfl⟩) (fun h' B => sg_226_246c (fun _ => ⟨rfl, k0 h' B⟩) (fun z => absurd rfl z)) fun h2 P2 O2 L2 => sg_226_246c (fun z => absurd z (by decide)) (fun _ => ?_)
      refine cm_225 P2 O2 M L2 rfl (fun h' B => sg_226_253c (fun _ => ⟨rfl, k0 h' B⟩) (fun z => absurd rfl z)) fun h3 P3 O3 L3 => sg_226_253c (fun z => absurd z (by decide)) (fun _ => ⟨rfl, k1 h3 (i + 1 + 1 + 1) _ _ (by omega) P3 O3 L3⟩)
    clear bad1 g2 g3 g0 dom m
    apply sg_226_0 P.1 <;> intros <;> first | omega | exact g
  by_cases c6 : zkdT tb T i = 85
  · have e0 : h 120 (h 108 19).toNat = 3 := by rw [g0, c6]; rfl
    have e2 : h 122 (h 108 19).toNat = 6 := by rw [g3 (by rw [c6]; rfl), c6]; rfl
    have e : zstpS ([], dp, pr) (zkdT tb T i) = some ([110, 117, 116, 59], dp, pr) := by rw [c6]; rfl
    have g : zC X 220 [zR 108] h (fun v h9 => zAt X 226 278 0 0 [some (zR 108), none] (zpush v []) zSHc h9 (fun v sh' h' => sh' = zSHc ∧ K v h')) := by
      refine cm_220 P M hL e (by omega) n69 d4 p8 (fun h' B => sg_226_278c (fun _ => ⟨rfl, k0 h' B⟩) (fun z => absurd rfl z)) fun h1 P1 L1 o1 o2 => sg_226_278c (fun z => absurd z (by decide)) (fun _ => ?_)
      refine cm_223 (c := 110) (r := [117, 116, 59]) P1 ⟨o1.trans O.1, o2.trans O.2⟩ M L1 (by simp) (zgs_1 (by decide) (by decide)) (Or.inr ⟨rfl, rfl⟩) (fun h' B => sg_226_286c B.1 (fun z => absurd rfl z) (fun z => absurd rfl z) (fun z => absurd rfl z) (fun z => absurd rfl z) (fun _ => ⟨rfl, k0 h' B⟩)) fun h2 P2 O2 L2 => ?_
      exact cm_226u P2 O2 M L2 k0 fun h3 i' hi P3 O3 L3 => k1 h3 i' _ _ (by omega) P3 O3 L3
    clear bad1 g2 g3 g0 dom m
    apply sg_226_0 P.1 <;> intros <;> first | omega | exact g
  have e : zstpS ([], dp, pr) (zkdT tb T i) = none := by
    rw [zstp_nil, if_neg n69, if_neg c, if_neg (fun z => c1 z.1), if_pos]
    unfold zshB
    rw [if_neg c2, if_neg c5, if_neg c6, if_neg c9, if_neg c1]
  have w1 := bad1 e 273 fun h' q => sg_226_273c ⟨rfl, q⟩ (by decide)
  have w2 := bad1 e 55 fun h' q => sg_226_55c ⟨rfl, q⟩ (by decide)
  by_cases s3 : zsoT (zkdT tb T i) = 3
  · have e0 : h 120 (h 108 19).toNat = 3 := g0.trans s3
    have e2 : h 122 (h 108 19).toNat = 0 ∨ h 122 (h 108 19).toNat = 7 ∨ h 122 (h 108 19).toNat = 8 ∨ h 122 (h 108 19).toNat = -1 := by
      rw [g3 s3]
      unfold zwxT
      repeat' split
      all_goals omega
    clear bad1 g2 g3 g0 dom m
    apply sg_226_0 P.1 <;> intros <;> first | omega | exact w1
  · have e0 : ¬ h 120 (h 108 19).toNat = 3 := fun z => s3 (g0.symm.trans z)
    clear bad1 g2 g3 g0 dom m
    apply sg_226_0 P.1 <;> intros <;> first | omega | exact w2
/-- parses -/
theorem cm_227 (F : zFin h) (M : zTKm h tb T L) (e20 : h 108 20 = 0) (e21 : h 108 21 = -1) (k0 : ∀ h', zPB h h' tb T → K (some (zI 0)) h') (k1 : ∀ h', zFin h' → zfr [108] h h' → (∀ c, c ≠ 19 → c ≠ 20 → c ≠ 21 → c ≠ 22 → c ≠ 31 → h' 108 c = h 108 c) → h' 108 20 = 0 → h' 108 21 = -1 → zS0T tb T = (0, -1) → K (some (zI 1)) h') : zC X 227 [zR 108] h K := by
  have loop : ∀ (q i dp pr : Nat) (h1 : zHP), 401 - i ≤ q → zPM h h1 tb T i ([], dp, pr) → zPO2 h1 ([], dp, pr) → i ≤ L → zAt X 227 55 0 0 [some (zR 108)] [] zSHc h1 (fun v sh' h' => sh' = zSHc ∧ K v h') := by
    intro q
    induction q with
    | zero => intro i dp pr h1 hq P; have := P.2.2.2.2.2.2.1; omega
    | succ q ih =>
      intro i dp pr h1 hq P O hL
      have m := P.rd M hL
      have i4 := P.2.2.2.2.2.2.1
      have d4 : dp ≤ 4 := P.2.2.2.2.2.2.2.2.1
      have p8 : pr ≤ 8 := P.2.2.2.2.2.2.2.2.2
      have e19 := P.2.2.2.1
      have o31 : h1 108 31 = (dp : Int) := O.1
      have ei : (h1 108 19).toNat = i := by omega
      have g0 : h1 120 (h1 108 19).toNat = zsoT (zkdT tb T i) := by rw [ei]; exact m.1
      by_cases c : zkdT tb T i = 69
      · have g4 : h1 120 (h1 108 19).toNat = 4 := g0.trans (zso_4.mpr c)
        by_cases z : dp = 0
        · have e : zstpS ([], dp, pr) (zkdT tb T i) = some ([], 0, pr) := by rw [c, z]; rfl
          have fl := zfl_s (i := i) e (by omega)
          rw [if_neg (by rintro (a | a | a); exact a.1 c; exact absurd p8 (by have a : 8 < pr := a; omega); exact absurd (show 4 < 0 from a) (by decide))] at fl
          have st := zSC_go (kd := zkdT tb T) (pc := fun i => (zpcT tb T i : Int)) (s := ([], dp, pr)) i4
          rw [if_pos fl, if_pos c] at st
          exact sg_227_55 P.1 (by omega) (fun _ _ => ⟨rfl, k1 h1 P.1 P.2.1 P.2.2.1 P.2.2.2.2.1 P.2.2.2.2.2.1 (P.2.2.2.2.2.2.2.1.trans st)⟩) (fun _ w => by omega) (fun w => absurd g4 w)
        · have e : zstpS ([], dp, pr) (zkdT tb T i) = none := by
            rw [zstp_nil, c, if_pos rfl, if_neg z]
          refine sg_227_55 P.1 (by omega) (fun _ w => by omega) (fun _ _ => ?_) (fun w => absurd g4 w)
          exact cm_219 P M hL (zfl_1 e) (by decide) fun h' B => sg_227_89c (fun _ => ⟨rfl, k0 h' B⟩) (fun w => absurd rfl w)
      · have g4 : ¬ h1 120 (h1 108 19).toNat = 4 := fun w => c (zso_4.mp (g0.symm.trans w))
        refine sg_227_55 P.1 (by omega) (fun w => absurd w g4) (fun w => absurd w g4) (fun _ => ?_)
        exact cm_226 P O M hL c (fun h' B => sg_227_72c (fun w => absurd rfl w) (fun _ => ⟨rfl, k0 h' B⟩)) fun h2 i' dp' pr' hi P2 O2 L2 => sg_227_72c (fun _ => ih i' dp' pr' h2 (by omega) P2 O2 L2) (fun w => absurd w (by decide))
  have P0 : zPM h (zup (zup (zup h 108 19 0) 108 31 0) 108 22 0) tb T 0 ([76, 105, 59], 0, 0) := ⟨((F.up (by decide)).up (by decide)).up (by decide), ((zfr.rfl.up (by simp)).up (by simp)).up (by simp), fun c a b d e f => by rw [zup_k e, zup_k f, zup_k a], by rw [zup_k (by decide), zup_k (by decide), zup_eq]; rfl, by rw [zup_k (by decide), zup_k (by decide), zup_k (by decide)]; exact e20, by rw [zup_k (by decide), zup_k (by decide), zup_k (by decide)]; exact e21, by omega, rfl, by decide, by decide⟩
  have O0 : zPO2 (zup (zup (zup h 108 19 0) 108 31 0) 108 22 0) ([76, 105, 59], 0, 0) := ⟨by rw [zup_k (by decide), zup_eq]; rfl, zup_eq⟩
  have w0 := P0.wrd M (Nat.zero_le _) (w := 0) (q := 76) (by decide) (by decide) (fun k a _ => zwx_u a (by decide))
  have o19 := P0.2.2.2.1
  refine sg_227_0 F (by omega) (fun z => ?_) (fun z => ?_)
  · have c := w0.mp z
    have e : zstpS ([76, 105, 59], 0, 0) (zkdT tb T 0) = some ([105, 59], 0, 0) := by rw [c]; rfl
    refine cm_220 P0 M (Nat.zero_le _) e (by omega) (by omega) (Nat.zero_le _) (Nat.zero_le _) (fun h' B => sg_227_33c (fun _ => ⟨rfl, k0 h' B⟩) (fun z => absurd rfl z)) fun h1 P1 L1 o1 o2 => sg_227_33c (fun z => absurd z (by decide)) (fun _ => ?_)
    refine cm_223 (c := 105) (r := [59]) P1 ⟨o1.trans O0.1, o2.trans O0.2⟩ M L1 (by simp) (zgs_1 (by decide) (by decide)) (Or.inl ⟨rfl, rfl⟩) (fun h' B => sg_227_41c (fun _ => ⟨rfl, k0 h' B⟩) (fun z => absurd rfl z)) fun h2 P2 O2 L2 => sg_227_41c (fun z => absurd z (by decide)) (fun _ => ?_)
    exact cm_224 (r := []) P2 O2 M L2 (by simp) (zgs_1 (by decide) (by decide)) (fun h' B => sg_227_50c (fun z => absurd rfl z) (fun _ => ⟨rfl, k0 h' B⟩)) fun h3 P3 O3 L3 => sg_227_50c (fun _ => loop 401 (0 + 1 + 1 + 1) 0 0 h3 (by omega) P3 O3 L3) (fun z => absurd z (by decide))
  · have c : zkdT tb T 0 ≠ 76 := fun w => z (w0.mpr w)
    have e : zstpS ([76, 105, 59], 0, 0) (zkdT tb T 0) = none := by rw [zstp_sh (by simp), zgs_1 (by decide) (by decide), if_neg c]
    exact cm_219 P0 M (Nat.zero_le _) (zfl_1 e) (by decide) fun h' B => sg_227_28c ⟨rfl, k0 h' B⟩ (by decide)
end
