/-! TEXTS, THE REFERENCE: ALL IS TOLD -/
section
variable {X : List Int} {h : zHP} {K : Option zAV → zHP → Prop} {tb : Nat → Nat} {T L : Nat}
/-- tellAll -/
theorem cm_238 (F : zFin h) (t : zTKm h tb T L) (h0 : zS0T tb T = (0, -1)) (e20 : h 108 20 = 0) (e21 : h 108 21 = -1) (k : ∀ h', zMb h h' → zMCs h' tb T (zLgs tb T) (zRun zlk2 tb T) → K none h') : zC X 238 [zR 108] h K := by
  obtain ⟨V0, G0, A0, kd0, kd1, kd2⟩ := zS00_v h0
  obtain ⟨k69, L4⟩ := t.end h0
  have hL : 3 ≤ L := by
    by_cases c : 3 ≤ L
    · exact c
    · have : L = 0 ∨ L = 1 ∨ L = 2 := by omega
      rcases this with z | z | z <;> rw [z] at k69 <;> omega
  have mono : ∀ i, zkdT tb T i ≠ 69 → (fun i => (zpcT tb T i : Int)) i < (fun i => (zpcT tb T i : Int)) (i + 1) := fun i hi => zpc_mono hi
  have ints : ∀ i, zkdT tb T i = 105 → 0 ≤ zvlT tb T i ∧ zvlT tb T i < 10000 := fun i hi => zvl_int hi
  have loop : ∀ (f : Nat) (σ : zTS) (h1 : zHP) (x1 : Int), 401 - σ.1 ≤ f → zTIv (zkdT tb T) (fun i => (zpcT tb T i : Int)) σ → zTF (zLgs tb T : Int) (fun i => (zpcT tb T i : Int)) σ → zMb h h1 → zMCs h1 tb T (zLgs tb T) σ → x1 = (σ.2.2.2.2.2.2.2 : Int) → zRun zlk2 tb T = zrnT zlk2 (zLgs tb T : Int) (zkdT tb T) (zvlT tb T) (fun i => (zpcT tb T i : Int)) f σ → zAt X 238 73 0 0 [some (zR 108), some (zI x1), none] [] zSHc h1 (fun v sh' h' => sh' = zSHc ∧ K v h') := by
    intro f
    induction f with
    | zero =>
      intro σ h1 x1 hf V
      obtain ⟨i, ft, P, op, B, st, I, fs⟩ := σ
      have := V.1.1
      have hf : 401 - i ≤ 0 := hf
      omega
    | succ f ih =>
      intro σ h1 x1 hf V G b C X1 e
      obtain ⟨i, ft, P, op, B, st, I, fs⟩ := σ
      have hf : 401 - i ≤ f + 1 := hf
      have X1 : x1 = (fs : Int) := X1
      have t1 := t.mb b
      have e19 := C.1.1.1
      have iL : i ≤ L := by
        by_cases c : L < i
        · exact absurd k69 (V.2.2.2.2.2 L c)
        · omega
      by_cases c : i = L
      · have k69 : zkdT tb T i = 69 := by rw [c]; exact k69
        rw [zrn_69 (σ := (i, ft, P, op, B, st, I, fs)) k69] at e
        have kk := k h1 b (by rw [e]; exact C)
        have m1 : h1 120 ((h1 108 19).toNat) = 4 := by
          have m0 : h1 120 i = zsoT (zkdT tb T i) := (t1.2.2.2 i (by omega)).1
          rw [show (h1 108 19).toNat = i by omega, m0, k69]; rfl
        have o1 : 0 ≤ h1 108 19 ∧ h1 108 19 < 2001 := by omega
        clear ih G V C t1 e
        apply sg_238_73 b.1 o1 <;> intros <;> first | exact absurd m1 ‹_› | exact ⟨rfl, kk⟩
      · have n69 : zkdT tb T i ≠ 69 := (t.2.2.1 i (by omega)).1
        rw [zrn_go (σ := (i, ft, P, op, B, st, I, fs)) n69] at e
        have lt := zst_ilt (lk := zlk2) (legs := (zLgs tb T : Int)) (vl := zvlT tb T) V n69
        refine cm_238s b.1 t1 k69 C V G.2.1 (fun _ => X1) n69 zLgs_ok fun h2 x2 b2 C2 X2 => ?_
        exact ih _ h2 x2 (by omega) (zTIv_st ints V n69) (zTF_st mono ints zlk2_m V G n69) (b.tr b2) C2 X2 e
  have v1 : h 122 1 = zvlT tb T 1 := t.it (j := 1) (x := 1) (by omega) rfl kd1
  have F1 : zFin (zup (zup (zup (zup (zup (zup h 108 19 3) 108 31 0) 108 22 0) 108 34 8) 127 8 0) 108 35 (h 122 1)) := (((((F.up (by decide)).up (by decide)).up (by decide)).up (by decide)).up (by decide)).up (by decide)
  have b0 : zMb h (zup (zup (zup (zup (zup h 108 19 3) 108 31 0) 108 22 0) 108 34 8) 127 8 0) := by
    refine zMb.tr ((((zMb.rf F).up (by simp)).up (by simp)).up (by simp) |>.up (by simp)) (zMb.of (W := [127]) ?_ (zfr.rfl.up (by simp)) (by simp [zWm]) (by decide))
    exact ((((F.up (by decide)).up (by decide)).up (by decide)).up (by decide)).up (by decide)
  have gen : ∀ (h1 : zHP) (ft : Int × Int), zMb h h1 → ft = zF00 tb T → h1 108 19 = 3 → h1 108 31 = 0 → h1 108 22 = 0 → h1 108 34 = 8 → h1 127 8 = 0 → h1 108 35 = (zLgs tb T : Int) → h1 108 20 = ft.1 → h1 108 21 = ft.2 → zAt X 238 73 0 0 [some (zR 108), some (zI 3), none] [] zSHc h1 (fun v sh' h' => sh' = zSHc ∧ K v h') := fun h1 ft b ef g19 g31 g22 g34 g127 g35 g20 g21 => by
    subst ef
    refine loop 400 (zS00 tb T) h1 3 (by show 401 - 3 ≤ 400; decide) V0 G0 b ⟨⟨⟨by rw [g19]; rfl, g20, g21⟩, by rw [g22]; rfl, by rw [g31]; rfl, by rw [g34]; rfl, g35⟩, fun p hp => absurd hp (Nat.not_lt_zero _), fun j ej => (by cases ej), trivial, ⟨by show h1 127 8 = _; rw [g127]; rfl, fun q hq => absurd hq (Nat.not_lt_zero _)⟩, fun z => absurd rfl z, fun p hp => absurd hp (Nat.not_lt_zero _), fun e he => (by cases he), fun z => absurd rfl z, fun p hp => absurd hp (Nat.not_lt_zero _)⟩ rfl rfl
  have q : ∀ (x : Int), zup (zup (zup (zup (zup (zup h 108 19 3) 108 31 0) 108 22 0) 108 34 8) 127 8 0) 108 35 x 108 20 = 0 ∧ zup (zup (zup (zup (zup (zup h 108 19 3) 108 31 0) 108 22 0) 108 34 8) 127 8 0) 108 35 x 108 21 = -1 := fun x => ⟨by rw [zup_k (by decide), zup_c (by decide), zup_k (by decide), zup_k (by decide), zup_k (by decide), zup_k (by decide)]; exact e20, by rw [zup_k (by decide), zup_c (by decide), zup_k (by decide), zup_k (by decide), zup_k (by decide), zup_k (by decide)]; exact e21⟩
  have r : ∀ (x : Int), zup (zup (zup (zup (zup (zup h 108 19 3) 108 31 0) 108 22 0) 108 34 8) 127 8 0) 108 35 x 108 19 = 3 ∧ zup (zup (zup (zup (zup (zup h 108 19 3) 108 31 0) 108 22 0) 108 34 8) 127 8 0) 108 35 x 108 31 = 0 ∧ zup (zup (zup (zup (zup (zup h 108 19 3) 108 31 0) 108 22 0) 108 34 8) 127 8 0) 108 35 x 108 22 = 0 ∧ zup (zup (zup (zup (zup (zup h 108 19 3) 108 31 0) 108 22 0) 108 34 8) 127 8 0) 108 35 x 108 34 = 8 ∧ zup (zup (zup (zup (zup (zup h 108 19 3) 108 31 0) 108 22 0) 108 34 8) 127 8 0) 108 35 x 127 8 = 0 := fun x => by
    refine ⟨?_, ?_, ?_, ?_, ?_⟩
    · rw [zup_k (by decide), zup_c (by decide), zup_k (by decide), zup_k (by decide), zup_k (by decide), zup_eq]
    · rw [zup_k (by decide), zup_c (by decide), zup_k (by decide), zup_k (by decide), zup_eq]
    · rw [zup_k (by decide), zup_c (by decide), zup_k (by decide), zup_eq]
    · rw [zup_k (by decide), zup_c (by decide), zup_eq]
    · rw [zup_c (by decide), zup_eq]
  have b1 : ∀ x : Int, zMb h (zup (zup (zup (zup (zup (zup h 108 19 3) 108 31 0) 108 22 0) 108 34 8) 127 8 0) 108 35 x) := fun x => b0.up (by simp)
  by_cases c : 2 ≤ zvlT tb T 1 ∧ zvlT tb T 1 ≤ 7
  · have el : (zLgs tb T : Int) = zvlT tb T 1 := by unfold zLgs; rw [if_pos c]; omega
    have ef : (0, -1) = zF00 tb T := (if_pos c : zF00 tb T = _).symm
    obtain ⟨r1, r2, r3, r4, r5⟩ := r (h 122 1)
    refine sg_238_0 F (fun z => by omega) (fun _ _ => ?_) (fun _ z => by omega)
    exact gen _ (0, -1) (b1 _) ef r1 r2 r3 r4 r5 (by rw [zup_eq, v1, el]) (q _).1 (q _).2
  · have el : (zLgs tb T : Int) = 7 := by unfold zLgs; rw [if_neg c]; rfl
    have ef : (5, (zpcT tb T 1 : Int)) = zF00 tb T := (if_neg c : zF00 tb T = _).symm
    have b1' := b1 (h 122 1)
    have t1 := t.mb b1'
    obtain ⟨r1, r2, r3, r4, r5⟩ := r (h 122 1)
    obtain ⟨q1, q2⟩ := q (h 122 1)
    have go : zC X 228 [zR 108, zI 5, zI 1] (zup (zup (zup (zup (zup (zup h 108 19 3) 108 31 0) 108 22 0) 108 34 8) 127 8 0) 108 35 (h 122 1)) (fun v h9 => zAt X 238 62 0 0 [some (zR 108), none, none] (zpush v []) zSHc h9 (fun v sh' h' => sh' = zSHc ∧ K v h')) := by
      generalize hH : zup (zup (zup (zup (zup (zup h 108 19 3) 108 31 0) 108 22 0) 108 34 8) 127 8 0) 108 35 (h 122 1) = H at *
      refine cm_228 (ft := (0, -1)) (j := 1) F1 t1 q1 q2 (by omega) rfl fun h2 N => sg_238_62c ?_
      have ez : zno (0, -1) 5 (zpcT tb T 1 : Int) = (5, (zpcT tb T 1 : Int)) := if_pos (Or.inl rfl)
      rw [ez] at N
      obtain ⟨n1, n2, n3, n4, n5⟩ := N
      have e3 : h2 108 19 = 3 := (n3 19 (by decide) (by decide)).trans r1
      rw [e3]
      refine gen _ (5, (zpcT tb T 1 : Int)) ((b1'.tr ⟨n1, n2.mono (by simp [zWm]), fun c _ a b _ _ _ _ => n3 c a b⟩).up (by simp)) ef ?_ ?_ ?_ ?_ ?_ ?_ ?_ ?_
      · rw [zup_k (by decide)]; exact e3
      · rw [zup_k (by decide), n3 31 (by decide) (by decide)]; exact r2
      · rw [zup_k (by decide), n3 22 (by decide) (by decide)]; exact r3
      · rw [zup_k (by decide), n3 34 (by decide) (by decide)]; exact r4
      · rw [zup_c (by decide), n2 127 (by decide)]; exact r5
      · rw [zup_eq, el]
      · rw [zup_k (by decide)]; exact n4
      · rw [zup_k (by decide)]; exact n5
    exact sg_238_0 F (fun _ => go) (fun z w => absurd ⟨by omega, by omega⟩ c) (fun _ _ => go)
end
