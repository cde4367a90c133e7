/-! TEXTS, THE CLASS: THE TELLER FROM ITS START; WHAT A TEXT COMES TO -/
def zLgs (tb : Nat → Nat) (T : Nat) : Nat := if 2 ≤ zvlT tb T 1 ∧ zvlT tb T 1 ≤ 7 then (zvlT tb T 1).toNat else 7
def zF00 (tb : Nat → Nat) (T : Nat) : Int × Int := if 2 ≤ zvlT tb T 1 ∧ zvlT tb T 1 ≤ 7 then (0, -1) else (5, (zpcT tb T 1 : Int))
def zS00 (tb : Nat → Nat) (T : Nat) : zTS := (3, zF00 tb T, [], none, [], [], [], 3)
/-- what is told at the end -/
def zRun (lk : List (Int × List zTe) → Int → Option (List zTe)) (tb : Nat → Nat) (T : Nat) : zTS := zrnT lk (zLgs tb T : Int) (zkdT tb T) (zvlT tb T) (fun i => (zpcT tb T i : Int)) 400 (zS00 tb T)
theorem zLgs_ok {tb : Nat → Nat} {T : Nat} : 2 ≤ zLgs tb T ∧ zLgs tb T ≤ 7 := by
  unfold zLgs
  split
  · omega
  · omega
theorem zS00_v {tb : Nat → Nat} {T : Nat} (h0 : zS0T tb T = (0, -1)) : zTIv (zkdT tb T) (fun i => (zpcT tb T i : Int)) (zS00 tb T) ∧ zTF (zLgs tb T : Int) (fun i => (zpcT tb T i : Int)) (zS00 tb T) ∧ zAgr (zvlT tb T) (zS00 tb T) ∧ zkdT tb T 0 = 76 ∧ zkdT tb T 1 = 105 ∧ zkdT tb T 2 = 59 := by
  obtain ⟨a1, a2, a3, a4⟩ := zSC_c (kd := zkdT tb T) (i := 0) (dp := 0) (pr := 0) (c := 76) (r := [105, 59]) h0 (by decide) (by decide) (by decide) (by decide)
  obtain ⟨b1, b2, b3, b4⟩ := zSC_c a4 a2 (by decide) (by decide) (by decide)
  obtain ⟨c1, c2, c3, c4⟩ := zSC_c b4 b2 (by decide) (by decide) (by decide)
  refine ⟨⟨⟨c2, by decide, by decide, c4⟩, trivial, fun e he => (by cases he), fun j ej => (by cases ej), fun z => absurd rfl z, fun q hq => ?_⟩, ⟨fun _ _ l => absurd l (by decide), fun z => absurd rfl z, fun _ => ⟨fun e he => (by cases he), fun z => absurd rfl z, fun x hx => (by cases hx)⟩⟩, ⟨fun n => rfl, fun j ej => (by cases ej)⟩, a1, b1, c1⟩
  have : q = 0 ∨ q = 1 ∨ q = 2 := by omega
  rcases this with z | z | z <;> rw [z]
  · omega
  · have : zkdT tb T 1 = 105 := b1
    omega
  · have : zkdT tb T 2 = 59 := c1
    omega
section
variable {X : List Int} {h : zHP} {K : Option zAV → zHP → Prop} {tb : Nat → Nat} {T L : Nat}
/-- tellLegs -/
theorem cx_110 (F : zFin h) (t : zTKc h tb T L) (hL : 1 < L) (e6 : h 75 6 = 68) (e4 : h 75 14 = 0) (e5 : h 75 15 = -1) (hk : zkdT tb T 1 = 105) (k : ∀ h', zFin h' → zfr [75] h h' → (∀ c, c ≠ 8 → c ≠ 14 → c ≠ 15 → h' 75 c = h 75 c) → h' 75 8 = (zLgs tb T : Int) → h' 75 14 = (zF00 tb T).1 → h' 75 15 = (zF00 tb T).2 → K none h') : zC X 110 [zR 75] h K := by
  refine sg_110_0 e6 (cx_129 (j := 1) F t hL rfl hk ?_)
  have v := zvl_int hk
  by_cases c : 2 ≤ zvlT tb T 1 ∧ zvlT tb T 1 ≤ 7
  · have el : (zLgs tb T : Int) = zvlT tb T 1 := by unfold zLgs; rw [if_pos c]; omega
    have ef : zF00 tb T = (0, -1) := if_pos c
    refine sg_110_9c F (fun _ => ⟨rfl, k _ (F.up (by decide)) (zfr.rfl.up (by simp)) (fun q a _ _ => zup_k a) (by rw [zup_eq, el]) (by rw [zup_k (by decide), ef]; exact e4) (by rw [zup_k (by decide), ef]; exact e5)⟩) (fun z => absurd c z) (fun z => absurd c z)
  · have el : (zLgs tb T : Int) = 7 := by unfold zLgs; rw [if_neg c]; rfl
    have ef : zF00 tb T = (5, (zpcT tb T 1 : Int)) := if_neg c
    have F1 : zFin (zup h 75 8 (zvlT tb T 1)) := F.up (by decide)
    have t1 : zTKc (zup h 75 8 (zvlT tb T 1)) tb T L := t.fr fun c hc => by funext q; exact zup_c (by omega)
    refine sg_110_9c F (fun z => absurd z c) (fun _ => by rw [zup_k (by decide)]; exact e6) (fun _ => ?_)
    rw [show zTkP (zup h 75 8 (zvlT tb T 1)) 1 = (zpcT tb T 1 : Int) from t1.pp hL rfl]
    refine cx_109 (ft := (0, -1)) F1 (by rw [zup_k (by decide)]; exact e4) (by rw [zup_k (by decide)]; exact e5) fun h2 N => ?_
    obtain ⟨n1, n2, n3, n4, n5⟩ := N
    have ez : zno (0, -1) 5 (zpcT tb T 1 : Int) = (5, (zpcT tb T 1 : Int)) := if_pos (Or.inl rfl)
    rw [ez] at n4 n5
    refine sg_110_35c ⟨rfl, k _ (n1.up (by decide)) (((zfr.rfl.up (by simp)).trans n2).up (by simp)) (fun q a b d => by rw [zup_k a, n3 q b d, zup_k a]) (by rw [zup_eq, el]) (by rw [zup_k (by decide), ef]; exact n4) (by rw [zup_k (by decide), ef]; exact n5)⟩
/-- tell -/
theorem cx_108 (F : zFin h) (t : zTKc h tb T L) (h79 : ∀ p, p < 8 → h 79 p = ((80 + 3 * p : Nat) : Int)) (h0 : zS0T tb T = (0, -1)) (k : ∀ h' tp', zTb h h' → zCTs h' (zvlT tb T) (zLgs tb T) tp' (zRun zlk1 tb T) → K (some (zI (zRun zlk1 tb T).2.1.1)) h') : zC X 108 [zR 75, zR 68] h K := by
  obtain ⟨V0, G0, A0, kd0, kd1, kd2⟩ := zS00_v h0
  have hL : 3 ≤ L := by
    by_cases c : 3 ≤ L
    · exact c
    · have e := t.2.2.1
      have : L = 0 ∨ L = 1 ∨ L = 2 := by omega
      rcases this with z | z | z <;> rw [z] at e <;> omega
  have L4 := t.2.1
  have mono : ∀ i, zkdT tb T i ≠ 69 → (fun i => (zpcT tb T i : Int)) i < (fun i => (zpcT tb T i : Int)) (i + 1) := fun i hi => zpc_mono hi
  have ints : ∀ i, zkdT tb T i = 105 → 0 ≤ zvlT tb T i ∧ zvlT tb T i < 10000 := fun i hi => zvl_int hi
  have loop : ∀ (f : Nat) (σ : zTS) (h1 : zHP) (tp x2 : Int), 401 - σ.1 ≤ f → zTIv (zkdT tb T) (fun i => (zpcT tb T i : Int)) σ → zTF (zLgs tb T : Int) (fun i => (zpcT tb T i : Int)) σ → zTb h h1 → zCTs h1 (zvlT tb T) (zLgs tb T) tp σ → zTp (fun i => (zpcT tb T i : Int)) tp σ → 0 ≤ x2 → x2 + 3 ≤ (σ.1 : Int) → zRun zlk1 tb T = zrnT zlk1 (zLgs tb T : Int) (zkdT tb T) (zvlT tb T) (fun i => (zpcT tb T i : Int)) f σ → zAt X 108 61 0 0 [some (zR 75), none, some (zI x2)] [] zSHc h1 (fun v sh' h' => sh' = zSHc ∧ K v h') := by
    intro f
    induction f with
    | zero =>
      intro σ h1 tp x2 hf V
      obtain ⟨i, ft, P, op, B, st, I, fs⟩ := σ
      have := V.1.1
      have hf : 401 - i ≤ 0 := hf
      omega
    | succ f ih =>
      intro σ h1 tp x2 hf V G b C Tp x0 hx e
      obtain ⟨i, ft, P, op, B, st, I, fs⟩ := σ
      have hf : 401 - i ≤ f + 1 := hf
      have hx : x2 + 3 ≤ (i : Int) := hx
      have t1 := b.tk t
      have e9 := C.1.1.2.2.2
      have e6 := C.1.1.1
      have e14 := C.1.2.2.2.1
      have e7 := t1.1
      have iL : i ≤ L := by
        by_cases c : L < i
        · exact absurd t.2.2.1 (V.2.2.2.2.2 L c)
        · omega
      by_cases c : i = L
      · have k69 : zkdT tb T i = 69 := by rw [c]; exact t.2.2.1
        rw [zrn_69 (σ := (i, ft, P, op, B, st, I, fs)) k69] at e
        have kk := k h1 tp b (by rw [e]; exact C)
        rw [e] at kk
        have kk : K (some (zI ft.1)) h1 := kk
        rw [← e14] at kk
        exact sg_108_61 e6 (fun _ => ⟨rfl, kk⟩) (fun z => by omega) (fun z => by omega)
      · have n69 : zkdT tb T i ≠ 69 := (t.2.2.2.2 i (by omega)).2.2.2.1
        rw [zrn_go (σ := (i, ft, P, op, B, st, I, fs)) n69] at e
        have lt := zst_ilt (lk := zlk1) (legs := (zLgs tb T : Int)) (vl := zvlT tb T) V n69
        refine sg_108_61 e6 (fun z => by omega) (fun _ z => by omega) (fun _ _ => ?_)
        refine cx_111 b.1 t1 C V G.2.1 Tp n69 zLgs_ok.2 fun h2 tp2 b2 C2 Tp2 => sg_108_90c (by omega) ?_
        exact ih _ h2 tp2 (x2 + 1) (by omega) (zTIv_st ints V n69) (zTF_st mono ints zlk1_m V G n69) (b.tr b2) C2 Tp2 (by omega) (by omega) e
  have F1 : zFin (zup (zup (zup (zup (zup (zup h 75 6 ((68 : Nat) : Int)) 75 14 0) 75 15 (-1)) 75 10 0) 75 11 0) 75 12 0) := (((((F.up (by decide)).up (by decide)).up (by decide)).up (by decide)).up (by decide)).up (by decide)
  have fr1 : zfr [75] h (zup (zup (zup (zup (zup (zup h 75 6 ((68 : Nat) : Int)) 75 14 0) 75 15 (-1)) 75 10 0) 75 11 0) 75 12 0) := (((((zfr.rfl.up (by simp)).up (by simp)).up (by simp)).up (by simp)).up (by simp)).up (by simp)
  have t1 : zTKc (zup (zup (zup (zup (zup (zup h 75 6 ((68 : Nat) : Int)) 75 14 0) 75 15 (-1)) 75 10 0) 75 11 0) 75 12 0) tb T L := t.fr fun c hc => fr1 c (by simp; omega)
  refine sg_108_0 (cx_110 F1 t1 (by omega) ?_ ?_ ?_ kd1 fun h2 F2 fr2 g2 g8 g14 g15 => ?_)
  · rw [zup_k (by decide), zup_k (by decide), zup_k (by decide), zup_k (by decide), zup_k (by decide), zup_eq]; rfl
  · rw [zup_k (by decide), zup_k (by decide), zup_k (by decide), zup_k (by decide), zup_eq]
  · rw [zup_k (by decide), zup_k (by decide), zup_k (by decide), zup_eq]
  have frh := fr1.trans fr2
  have g6 : h2 75 6 = 68 := by
    rw [g2 6 (by decide) (by decide) (by decide), zup_k (by decide), zup_k (by decide), zup_k (by decide), zup_k (by decide), zup_k (by decide), zup_eq]; rfl
  have g10 : h2 75 10 = 0 := by
    rw [g2 10 (by decide) (by decide) (by decide), zup_k (by decide), zup_k (by decide), zup_eq]
  have g11 : h2 75 11 = 0 := by
    rw [g2 11 (by decide) (by decide) (by decide), zup_k (by decide), zup_eq]
  have g12 : h2 75 12 = 0 := by
    rw [g2 12 (by decide) (by decide) (by decide), zup_eq]
  refine sg_108_34c F2 ?_
  rw [g8]
  refine cx_15 (F2.up (by decide)) (by unfold zLad; omega) fun h3 F3 fr3 L3 => sg_108_54c ?_
  have q : ∀ c, c ≠ 7 → h3 75 c = h2 75 c := fun c hc => by rw [fr3 75 (by decide), zup_k hc]
  have q7 : h3 75 7 = 76 := by rw [fr3 75 (by decide), zup_eq]; rfl
  have fr4 : zfr [75, 76] h h3 := (frh.mono (by simp)).trans (((zfr.rfl.up (by simp)).trans (fr3.mono (by simp))))
  refine loop 400 (zS00 tb T) _ (h3 75 13) 0 (by show 401 - 3 ≤ 400; decide) V0 G0 ⟨F3.up (by decide), (fr4.mono (by simp [zWt])).up (by decide)⟩ ⟨⟨⟨?_, ?_, ?_, by rw [zup_eq]; rfl⟩, ⟨?_, ?_, ?_⟩, ?_, ?_, ?_⟩, fun p hp => ?_, fun p hp => absurd hp (Nat.not_lt_zero _), fun j ej => (by cases ej), trivial, ?_, fun z => absurd rfl z, fun p hp => absurd hp (Nat.not_lt_zero _)⟩ ⟨fun j ej => (by cases ej), fun _ z => absurd rfl z⟩ (by decide) (by show (0 : Int) + 3 ≤ ((3 : Nat) : Int); decide) rfl
  · rw [zup_k (by decide), q 6 (by decide)]; exact g6
  · rw [zup_k (by decide), q7]; rfl
  · rw [zup_k (by decide), q 8 (by decide)]; exact g8
  · rw [zup_k (by decide), q 10 (by decide), g10]; rfl
  · rw [zup_k (by decide), q 11 (by decide), g11]; rfl
  · rw [zup_k (by decide), q 12 (by decide), g12]; rfl
  · rw [zup_k (by decide)]
  · rw [zup_k (by decide), q 14 (by decide)]; exact g14
  · rw [zup_k (by decide), q 15 (by decide)]; exact g15
  · rw [zup_c (by decide), fr4 79 (by decide)]
    exact h79 p hp
  · exact L3.fr (by funext q; exact zup_c (by decide)) (by funext q; exact zup_c (by decide))
end
