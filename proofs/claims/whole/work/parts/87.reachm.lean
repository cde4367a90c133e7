section
variable {X : List Int} {h : zHP} {K : Option zAV → zHP → Prop} {N s : Nat} {A : Nat → Nat × Nat × zel}
/-- what the class keeps of its last reachAll -/
def zPV (h : zHP) (N s : Nat) (A : Nat → Nat × Nat × zel) : Prop := h 28 6 ≤ (s : Int) ∧ ∀ u, u < N → h (6 + 3 * u) 5 = h 28 6 → ∃ R, zDA (A u).1 (A u).2.2 (A u).2.1 R ∧ ∀ o, o < zfac (A u).1 → h 33 o = (R o : Int)
/-- drawnAll -/
theorem cx_191 {t o : Int} (F : zFin h) (T : zOT h) (S : zCS h N s A) (V : zPV h N s A) (k0 : (∀ u : Nat, u < N → t = (u : Int) → 0 ≤ o → o < zFc (A u).1 → False) → K (some (zI (-1))) h) (k2 : ∀ u : Nat, u < N → t = (u : Int) → 0 ≤ o → o < zFc (A u).1 → ¬ zplb (A u).2.2 (A u).2.1 = true → K (some (zI (-2))) h) (k3 : ∀ u : Nat, u < N → t = (u : Int) → 0 ≤ o → o < zFc (A u).1 → zplb (A u).2.2 (A u).2.1 = true → 5 < (A u).1 → K (some (zI (-3))) h) (k1 : ∀ u : Nat, u < N → t = (u : Int) → 0 ≤ o → o < zFc (A u).1 → zplb (A u).2.2 (A u).2.1 = true → (A u).1 ≤ 5 → ∀ h' R, zFin h' → zfr [28, 33] h h' → zPV h' N s A → zDA (A u).1 (A u).2.2 (A u).2.1 R → K (some (zI (R o.toNat : Int))) h') : zC X 191 [zR 0, zI t, zI o] h K := by
  have h6 := S.2.1
  refine sg_191_0 (cx_202 F S (fun c => sg_191_5cz ⟨rfl, k0 fun u hu a => by omega⟩) (fun u hu htu => ?_))
  have S' := S
  obtain ⟨s1, s2, s3, s4, s5, s6⟩ := S
  obtain ⟨hl, L, hr, st1, st2⟩ := s5 u hu
  have hpu := zLadT (t := u) (by omega)
  have hn := hl.1
  have q1 := L.1
  have one : ∀ u' : Nat, t = (u' : Int) → u' = u := fun u' a => by omega
  have e1 : ((2 ≤ h (6 + 3 * u) 2 ∧ h (6 + 3 * u) 2 ≤ 7) ∧ 0 ≤ o ∧ o < zFc (h (6 + 3 * u) 2)) ↔ (0 ≤ o ∧ o < zFc (A u).1) := by
    rw [q1]
    constructor
    · rintro ⟨a, b⟩; exact b
    · intro a; exact ⟨by omega, a⟩
  refine sg_191_5c F hpu (by omega) (fun a => ?_) (fun a => ⟨rfl, k0 fun u' _ b z1 z2 => ?_⟩)
  · rw [e1] at a
    have ho : o.toNat < zfac (A u).1 := by have h9 : o < ((zfac (A u).1 : Nat) : Int) := a.2; omega
    refine cx_32 F hpu L hl (fun pl => ?_) (fun pl => ?_)
    · have pl := (zplb_iff _ _).mpr pl
      refine sg_191_31c F hpu (fun _ c => ?_) (fun _ c => ⟨rfl, k3 u hu htu a.1 a.2 pl (by omega)⟩) (fun z => absurd z (by decide))
      have c5 : (A u).1 ≤ 5 := by omega
      have f5 := zfac5 c5
      have kk := k1 u hu htu a.1 a.2 pl c5
      by_cases cs : h (6 + 3 * u) 5 = h 28 6
      · obtain ⟨R, A1, A2⟩ := V.2 u hu cs
        have kv := kk h R F zfr.rfl V A1
        rw [← A2 _ ho] at kv
        exact sg_101_0 F hpu (fun _ z => by omega) (fun _ _ z => by omega) (fun _ _ _ => by omega) (fun _ _ _ => ⟨rfl, sg_191_57c ⟨rfl, kv⟩⟩) (fun z => absurd cs z)
      · refine sg_101_0 F hpu (fun z => absurd z cs) (fun z => absurd z cs) (fun z => absurd z cs) (fun z => absurd z cs) (fun _ => ?_)
        have ne : 6 + 3 * u ≠ 28 ∧ 6 + 3 * u + 1 ≠ 28 := by omega
        have L2 : zLC (zup h 28 6 (h (6 + 3 * u) 5)) (6 + 3 * u) (A u).1 (A u).2.1 (A u).2.2 := by
          have g1 : zup h 28 6 (h (6 + 3 * u) 5) (6 + 3 * u) = h (6 + 3 * u) := by funext j; exact zup_c ne.1
          have g2 : zup h 28 6 (h (6 + 3 * u) 5) (6 + 3 * u + 1) = h (6 + 3 * u + 1) := by funext j; exact zup_c ne.2
          unfold zLC
          rw [g1, g2]
          exact L
        have F2 : zFin (zup h 28 6 (h (6 + 3 * u) 5)) := F.up (by decide)
        have fr2 : zfr [28, 33] h (zup h 28 6 (h (6 + 3 * u) 5)) := (zfr.rfl).up (by simp)
        refine cx_102 F2 (T.fr (fr2 1 (by decide)) (fr2 2 (by decide))) hpu L2 hl (by rw [fr2 1 (by decide)]; exact hr) c5 fun h' R F' fr D A1 => ?_
        have FR := fr2.trans (fr.mono (by simp))
        have e28 : h' 28 6 = h (6 + 3 * u) 5 := by rw [fr 28 (by decide), zup_eq]
        have V' : zPV h' N s A := ⟨by rw [e28]; exact st2, fun u2 hu2 e2 => by
          rw [FR _ (by simp; omega), e28] at e2
          have := s6 u2 u hu2 hu e2
          subst this
          exact ⟨R, A1, D⟩⟩
        have kv := kk h' R F' FR V' A1
        rw [← D _ ho] at kv
        exact sg_101_24c F' (fun z => by omega) (fun _ z => by omega) (fun _ _ => by omega) (fun _ _ => ⟨rfl, sg_191_57c ⟨rfl, kv⟩⟩)
    · exact sg_191_31c F hpu (fun z => absurd rfl z) (fun z => absurd rfl z) (fun _ => ⟨rfl, k2 u hu htu a.1 a.2 fun z => pl ((zplb_iff _ _).mp z)⟩)
  · rw [one u' b] at z2; rw [e1] at a; exact a ⟨z1, z2⟩
end
/-! THE REFERENCE -/
def zqv (v : Nat) : Int := if v = 10000 then -1 else (v : Int)
/-- what holds while relax goes on: f what it began with, P what the round began with -/
def zRI (n : Nat) (f P : Nat → Nat) (a b : Nat) (w : Int) (C : Nat → Nat) : Prop :=
  (∀ o, o < zfac n → C o ≤ f o) ∧ (∀ g, zlz n g → (∀ o, o < zfac n → g o ≤ f o) → ∀ o, o < zfac n → g o ≤ C o) ∧ (∀ o, o < zfac n → C o = 10000 ∨ 9000 * C o + zsu C (zfac n) ≤ 1300000) ∧ ((w = 0 ∧ (∀ o, o < zfac n → C o = P o) ∧ ∀ o k, o < zfac n → k + 2 ≤ n → (o < a ∨ (o = a ∧ k < b)) → C o = 10000 ∨ C (zx n k o) ≤ C o + 1) ∨ (w = 1 ∧ zsu C (zfac n) < zsu P (zfac n)))
theorem zRI.skip {n a b : Nat} {f P C : Nat → Nat} {w : Int} (I : zRI n f P a b w C) (c : C (zx n b a) ≤ C a + 1) : zRI n f P a (b + 1) w C := by
  obtain ⟨i1, i2, i3, i4⟩ := I
  refine ⟨i1, i2, i3, ?_⟩
  rcases i4 with ⟨j1, j2, j3⟩ | z
  · refine Or.inl ⟨j1, j2, fun o k ho hk hc => ?_⟩
    by_cases c1 : o = a ∧ k = b
    · rw [c1.1, c1.2]; exact Or.inr c
    · exact j3 o k ho hk (by omega)
  · exact Or.inr z
theorem zRI.take {n a b : Nat} {f P C : Nat → Nat} {w : Int} (I : zRI n f P a b w C) (ha : a < zfac n) (hb : b + 2 ≤ n) (fin : C a ≠ 10000) (c : C a + 1 < C (zx n b a)) (hC : ∀ o, o < zfac n → C o ≤ 10000) : zRI n f P a (b + 1) 1 (fun o => if o = zx n b a then C a + 1 else C o) := by
  obtain ⟨i1, i2, i3, i4⟩ := I
  have hx := zx_lt ha hb
  have le : ∀ o, (fun o => if o = zx n b a then C a + 1 else C o) o ≤ C o := fun o => by
    show (if o = zx n b a then C a + 1 else C o) ≤ C o
    by_cases c1 : o = zx n b a
    · rw [if_pos c1, c1]; omega
    · rw [if_neg c1]; exact Nat.le_refl _
  have su := zsu_upd (C := C) (a := zx n b a) (x := C a + 1) (N := zfac n) hx
  have b1 := i3 a ha
  have b2 := hC _ hx
  have b3 := i3 _ hx
  refine ⟨fun o ho => Nat.le_trans (le o) (i1 o ho), fun g hg hR o ho => ?_, fun o ho => ?_, Or.inr ⟨rfl, ?_⟩⟩
  · show g o ≤ if o = zx n b a then C a + 1 else C o
    by_cases c1 : o = zx n b a
    · rw [if_pos c1, c1]
      have a1 := hg (zx n b a) b hx hb
      rw [zx_x ha hb] at a1
      have a2 := i2 g hg hR a ha
      omega
    · rw [if_neg c1]; exact i2 g hg hR o ho
  · show (if o = zx n b a then C a + 1 else C o) = 10000 ∨ 9000 * (if o = zx n b a then C a + 1 else C o) + _ ≤ 1300000
    by_cases c1 : o = zx n b a
    · rw [if_pos c1]
      refine Or.inr ?_
      omega
    · rw [if_neg c1]
      have := i3 o ho
      omega
  · rcases i4 with ⟨j1, j2, j3⟩ | z
    · have : zsu C (zfac n) = zsu P (zfac n) := zsu_congr j2
      omega
    · omega
section
variable {X : List Int} {h : zHP} {K : Option zAV → zHP → Prop}
/-- relax -/
theorem cm_308 {n : Nat} {x : Int} {f : Nat → Nat} (F : zFin h) (MO : zMO h n) (hn : 2 ≤ n ∧ n ≤ 5) (hx : x = (n : Int)) (H : ∀ o, o < zfac n → h 151 o = zqv (f o)) (f0 : f 0 ≠ 10000) (fb : ∀ o, o < zfac n → f o ≤ 10000) (fs : ∀ o, o < zfac n → f o = 10000 ∨ 9000 * f o + zsu f (zfac n) ≤ 1300000) (k : ∀ h' C, zFin h' → zfr [151] h h' → (∀ o, o < zfac n → h' 151 o = (C o : Int)) → zgm n f C → K none h') : zC X 308 [zR 108, zI x] h K := by
  have h5 := zfac5 hn.2
  have hf1 := zfac_pos n
  have hn7 : n ≤ 7 := by omega
  obtain ⟨h39, -, SW, -⟩ := MO
  have C144 : ∀ {C : Nat → Nat}, (∀ o, o < zfac n → C o = 10000 ∨ 9000 * C o + zsu C (zfac n) ≤ 1300000) → ∀ o, o < zfac n → C o = 10000 ∨ C o ≤ 144 := fun hC o ho => by
    have := hC o ho
    omega
  have fin : ∀ (h1 : zHP) (P : Nat → Nat), zFin h1 → zfr [151] h h1 → (∀ o, o < zfac n → h1 151 o = zqv (P o)) → (∀ o, o < zfac n → P o ≤ f o) → (∀ g, zlz n g → (∀ o, o < zfac n → g o ≤ f o) → ∀ o, o < zfac n → g o ≤ P o) → (∀ o, o < zfac n → P o = 10000 ∨ 9000 * P o + zsu P (zfac n) ≤ 1300000) → (∀ o k, o < zfac n → k + 2 ≤ n → P o = 10000 ∨ P (zx n k o) ≤ P o + 1) → K none h1 := by
    intro h1 P F1 fr D p1 p2 p3 p4
    have P144 := C144 p3
    have all : ∀ b o, o < b → o < zfac n → P o ≠ 10000 := by
      intro b
      induction b with
      | zero => intro o q; omega
      | succ b ih =>
        intro o q ho
        by_cases c : o = 0
        · have a1 := p1 0 hf1
          have a2 := fb 0 hf1
          rw [c]
          omega
        · obtain ⟨kk, hk, hd⟩ := zdesc_ex ho c
          have e2 := (zx_desc ho hn7 hk).mpr hd
          have hxl := zx_lt ho hk
          have a1 := ih _ (by omega) hxl
          have a2 := P144 _ hxl
          have a3 := p4 _ kk hxl hk
          rw [zx_x ho hk] at a3
          omega
    refine k h1 P F1 fr (fun o ho => ?_) ⟨fun o kk ho hk => ?_, p1, p2⟩
    · rw [D o ho]
      unfold zqv
      rw [if_neg (all (o + 1) o (by omega) ho)]
    · have hxl := zx_lt ho hk
      have a3 := p4 _ kk hxl hk
      rw [zx_x ho hk] at a3
      have := all (zx n kk o + 1) _ (by omega) hxl
      omega
  have main : ∀ (b : Nat) (h1 : zHP) (x2 : Int) (P : Nat → Nat), zsu P (zfac n) < b → x2 ≠ 0 → zFin h1 → zfr [151] h h1 → (∀ o, o < zfac n → h1 151 o = zqv (P o)) → (∀ o, o < zfac n → P o ≤ f o) → (∀ g, zlz n g → (∀ o, o < zfac n → g o ≤ f o) → ∀ o, o < zfac n → g o ≤ P o) → (∀ o, o < zfac n → P o = 10000 ∨ 9000 * P o + zsu P (zfac n) ≤ 1300000) → zAt X 308 2 0 0 [some (zR 108), some (zI x), some (zI x2), none, none, none] [] zSHc h1 (fun v sh' h' => sh' = zSHc ∧ K v h') := by
    intro b
    induction b with
    | zero => intro h1 x2 P hb; omega
    | succ b ih =>
      intro h1 x2 P hb hx2 F1 fr D p1 p2 p3
      have outer : ∀ (r a : Nat) (h1 : zHP) (x2 x3 : Int) (C : Nat → Nat), zfac n - a = r → a ≤ zfac n → x3 = (a : Int) → zFin h1 → zfr [151] h h1 → (∀ o, o < zfac n → h1 151 o = zqv (C o)) → zRI n f P a 0 x2 C → zAt X 308 10 0 0 [some (zR 108), some (zI x), some (zI x2), some (zI x3), none, none] [] zSHc h1 (fun v sh' h' => sh' = zSHc ∧ K v h') := by
        intro r
        induction r with
        | zero =>
          intro a h1 x2 x3 C hr ha h3 F1 fr D I
          have ea : a = zfac n := by omega
          rw [ea] at I
          obtain ⟨i1, i2, i3, i4⟩ := I
          have e39 : h1 108 39 = (zfac n : Int) := by rw [fr 108 (by decide)]; exact h39
          refine sg_308_10 F1 (fun _ => ?_) (fun c => by omega) (fun c => by omega) (fun c => by omega) (fun c => by omega)
          rcases i4 with ⟨j1, j2, j3⟩ | ⟨j1, j2⟩
          · exact sg_308_2 (fun _ => ⟨rfl, fin h1 C F1 fr D i1 i2 i3 fun o kk ho hk => j3 o kk ho hk (Or.inl ho)⟩) (fun z => absurd j1 z)
          · exact ih h1 x2 C (by omega) (by omega) F1 fr D i1 i2 i3
        | succ r ihr =>
          intro a h1 x2 x3 C hr ha h3 F1 fr D I
          have ha' : a < zfac n := by omega
          have e39 : h1 108 39 = (zfac n : Int) := by rw [fr 108 (by decide)]; exact h39
          have e3 : x3.toNat = a := by omega
          have va := D a ha'
          rw [← e3] at va
          have cb := C144 I.2.2.1 a ha'
          by_cases ci : C a = 10000
          · have vz : h1 151 x3.toNat = -1 := by rw [va, e3]; unfold zqv; rw [if_pos ci]
            refine sg_308_10 F1 (fun c => by omega) (fun _ => by omega) (fun _ c => by omega) (fun _ _ => by omega) (fun _ _ => ?_)
            refine ihr (a + 1) h1 x2 _ C (by omega) (by omega) (by omega) F1 fr D ?_
            obtain ⟨i1, i2, i3, i4⟩ := I
            refine ⟨i1, i2, i3, ?_⟩
            rcases i4 with ⟨j1, j2, j3⟩ | z
            · refine Or.inl ⟨j1, j2, fun o kk ho hk hc => ?_⟩
              by_cases c1 : o = a
              · rw [c1]; exact Or.inl ci
              · exact j3 o kk ho hk (by omega)
            · exact Or.inr z
          · have inner : ∀ (r2 bb : Nat) (h1 : zHP) (x2 x4 : Int) (C : Nat → Nat), n - 1 - bb = r2 → bb ≤ n - 1 → x4 = (bb : Int) → zFin h1 → zfr [151] h h1 → (∀ o, o < zfac n → h1 151 o = zqv (C o)) → C a ≠ 10000 → zRI n f P a bb x2 C → zAt X 308 33 0 0 [some (zR 108), some (zI x), some (zI x2), some (zI x3), some (zI x4), none] [] zSHc h1 (fun v sh' h' => sh' = zSHc ∧ K v h') := by
              intro r2
              induction r2 with
              | zero =>
                intro bb h1 x2 x4 C hr2 hb2 h4 F1 fr D cN I
                have nx : zAt X 308 10 0 0 [some (zR 108), some (zI x), some (zI x2), some (zI (x3 + 1)), none, none] [] zSHc h1 (fun v sh' h' => sh' = zSHc ∧ K v h') := by
                  refine ihr (a + 1) h1 x2 _ C (by omega) (by omega) (by omega) F1 fr D ?_
                  obtain ⟨i1, i2, i3, i4⟩ := I
                  refine ⟨i1, i2, i3, ?_⟩
                  rcases i4 with ⟨j1, j2, j3⟩ | z
                  · exact Or.inl ⟨j1, j2, fun o kk ho hk hc => j3 o kk ho hk (by omega)⟩
                  · exact Or.inr z
                clear ihr ih fin k I D p1 p2 p3 fb fs H C144
                apply sg_308_33 F1 <;> intros <;> (try omega)
                all_goals exact nx
              | succ r2 ih2 =>
                intro bb h1 x2 x4 C hr2 hb2 h4 F1 fr D cN I
                have hb' : bb + 2 ≤ n := by omega
                have hxl := zx_lt ha' hb'
                have Cb := C144 I.2.2.1
                have ca := Cb a ha'
                have cx := Cb _ hxl
                have v0 : h1 151 x3.toNat = (C a : Int) := by rw [e3, D a ha']; unfold zqv; rw [if_neg cN]
                have v1 : h1 137 (((6 * x3) + x4).toNat) = (zx n bb a : Int) := by rw [fr 137 (by decide), show ((6 * x3) + x4).toNat = 6 * a + bb by omega]; exact (SW a ha' bb hb').1
                have v2 : h1 151 ((h1 137 (((6 * x3) + x4).toNat)).toNat) = zqv (C (zx n bb a)) := by rw [v1, Int.toNat_natCast]; exact D _ hxl
                have stay : C (zx n bb a) ≤ C a + 1 → zAt X 308 33 0 0 [some (zR 108), some (zI x), some (zI x2), some (zI x3), some (zI (x4 + 1)), none] [] zSHc h1 (fun v sh' h' => sh' = zSHc ∧ K v h') := fun c => ih2 (bb + 1) h1 x2 _ C (by omega) (by omega) (by omega) F1 fr D cN (I.skip c)
                have put : C a + 1 < C (zx n bb a) → zAt X 308 33 0 0 [some (zR 108), some (zI x), some (zI 1), some (zI x3), some (zI (x4 + 1)), none] [] zSHc (zup h1 151 ((h1 137 (((6 * x3) + x4).toNat)).toNat) ((h1 151 x3.toNat) + 1)) (fun v sh' h' => sh' = zSHc ∧ K v h') := fun c => by
                  rw [v1, v0, Int.toNat_natCast]
                  have nae : a ≠ zx n bb a := fun z => by rw [← z] at c; omega
                  refine ih2 (bb + 1) _ 1 _ (fun o => if o = zx n bb a then C a + 1 else C o) (by omega) (by omega) (by omega) (F1.upA zfa_151) (fr.up (by simp)) (fun o ho => ?_) (by show (if a = zx n bb a then C a + 1 else C a) ≠ 10000; rw [if_neg nae]; exact cN) (I.take ha' hb' cN c (fun o ho => by have := Cb o ho; omega))
                  show _ = zqv (if o = zx n bb a then C a + 1 else C o)
                  by_cases c1 : o = zx n bb a
                  · rw [c1, zup_eq, if_pos rfl]
                    unfold zqv
                    rw [if_neg (by omega)]
                    omega
                  · rw [zup_k c1, if_neg c1]
                    exact D o ho
                have dec : (zqv (C (zx n bb a)) < 0 ∧ C (zx n bb a) = 10000) ∨ (zqv (C (zx n bb a)) = (C (zx n bb a) : Int) ∧ C (zx n bb a) ≤ 144) := by
                  unfold zqv
                  by_cases c1 : C (zx n bb a) = 10000
                  · rw [if_pos c1]; exact Or.inl ⟨by decide, c1⟩
                  · rw [if_neg c1]; exact Or.inr ⟨rfl, by omega⟩
                rw [← v2] at dec
                have hx120 : zx n bb a < 120 := by omega
                generalize zx n bb a = xx at *
                clear ih2 ihr ih fin k I D p1 p2 p3 fb fs H C144 SW Cb v2
                apply sg_308_33 F1 <;> intros <;> (try omega)
                · exact put (by omega)
                · exact put (by omega)
                · exact stay (by omega)
            refine sg_308_10 F1 (fun c => by omega) (fun _ => by omega) (fun _ _ => inner (n - 1) 0 h1 x2 0 C (by omega) (by omega) rfl F1 fr D ci I) (fun _ c => ?_) (fun _ c => ?_)
            · rw [va, e3] at c; unfold zqv at c; rw [if_neg ci] at c; omega
            · rw [va, e3] at c; unfold zqv at c; rw [if_neg ci] at c; omega
      exact sg_308_2 (fun z => absurd z hx2) (fun _ => outer (zfac n) 0 h1 0 0 P (by omega) (by omega) rfl F1 fr D ⟨p1, p2, p3, Or.inl ⟨rfl, fun o ho => rfl, fun o kk ho hk hc => by omega⟩⟩)
  exact sg_308_0 (main (zsu f (zfac n) + 1) h 1 f (by omega) (by decide) F zfr.rfl H (fun o ho => Nat.le_refl _) (fun g hg hR => hR) fs)
end
section
variable {X : List Int} {h : zHP} {K : Option zAV → zHP → Prop} {N : Nat} {A : Nat → Nat × Nat × zel}
theorem zsu_bd {f : Nat → Nat} {b : Nat} : ∀ n, (∀ i, i < n → f i ≤ b) → zsu f n ≤ n * b := by
  intro n
  induction n with
  | zero => intro _; exact Nat.zero_le _
  | succ n ih =>
    intro hb
    show zsu f n + f n ≤ (n + 1) * b
    have a1 := ih (fun i hi => hb i (by omega))
    have a2 := hb n (by omega)
    rw [Nat.add_mul, Nat.one_mul]
    omega
def zLr (h h' : zHP) : Prop := zFin h' ∧ zfr [108, 136, 137, 138, 139, 140, 141, 142, 151, 152] h h' ∧ (∀ i, i ≠ 38 → i ≠ 39 → h' 108 i = h 108 i) ∧ zML h'
/-- drawnAll -/
theorem cm_309 {t o : Int} (F : zFin h) (M : zMS h N A) (L : zML h) (k0 : (∀ u : Nat, u < N → t = (u : Int) → 0 ≤ o → o < zFc (A u).1 → False) → K (some (zI (-1))) h) (k2 : ∀ u : Nat, u < N → t = (u : Int) → 0 ≤ o → o < zFc (A u).1 → ¬ zplb (A u).2.2 (A u).2.1 = true → K (some (zI (-2))) h) (k3 : ∀ u : Nat, u < N → t = (u : Int) → 0 ≤ o → o < zFc (A u).1 → zplb (A u).2.2 (A u).2.1 = true → 5 < (A u).1 → K (some (zI (-3))) h) (k1 : ∀ u : Nat, u < N → t = (u : Int) → 0 ≤ o → o < zFc (A u).1 → zplb (A u).2.2 (A u).2.1 = true → (A u).1 ≤ 5 → ∀ h' R, zLr h h' → zDA (A u).1 (A u).2.2 (A u).2.1 R → K (some (zI (R o.toNat : Int))) h') : zC X 309 [zR 108, zI t, zI o] h K := by
  have hN := M.2.1
  have h0 := M.1
  by_cases ct : 0 ≤ t ∧ t < (N : Int)
  · obtain ⟨u, hu⟩ : ∃ u : Nat, t = (u : Int) := ⟨t.toNat, by omega⟩
    have hu' : u < N := by omega
    obtain ⟨n1, n2⟩ := M.n hu' hu
    have hl := (M.2.2 u hu').1
    have hn := hl.1
    have one : ∀ u' : Nat, t = (u' : Int) → u' = u := fun u' a => by omega
    refine sg_309_0 F (fun c => by omega) (fun _ => by omega) (fun _ => ?_)
    rw [n1]
    refine cm_or (fun c => sg_309_19c (fun a => absurd rfl a) (fun _ => ⟨rfl, k0 fun u2 _ b z1 z2 => ?_⟩)) (fun a b ha hb e1 e2 => ?_)
    · rw [one u2 b] at z2
      exact c ⟨by omega, z1, z2⟩
    · have ea : a = (A u).1 := by omega
      subst ea
      have o0 : 0 ≤ o := by omega
      have o1 : o < zFc (A u).1 := by rw [e2]; exact zFc_c hb
      refine sg_309_19c (fun _ => cm_245 F M hu' hu (fun pl => ?_) (fun pl => ?_)) (fun z => absurd z (by decide))
      · refine sg_309_29c F (by omega) (fun _ c => ?_) (fun _ c => ⟨rfl, k3 u hu' hu o0 o1 pl (by omega)⟩) (fun z => absurd z (by decide))
        have c5 : (A u).1 ≤ 5 := by omega
        have f5 := zfac5 c5
        have kk := k1 u hu' hu o0 o1 pl c5
        rw [n1]
        refine cm_lay F L hn rfl fun h2 y2 MO => sg_309_58c ?_
        have Y : ∀ h3, zFin h3 → zfr [151, 152] h2 h3 → zLr h h3 ∧ zMO h3 (A u).1 ∧ zMS h3 N A := fun h3 F3 fr3 => by
          obtain ⟨yF, yfr, y8, yL⟩ := y2
          have e8 : h3 108 = h2 108 := fr3 108 (by decide)
          refine ⟨⟨F3, (yfr.mono (by simp)).trans (fr3.mono (by simp)), fun i a b => by rw [e8]; exact y8 i a b, yL.keep (by rw [e8]) (by rw [e8]) fun c a b => fr3 c (by simp; omega)⟩, ?_, ?_⟩
          · obtain ⟨m1, m2, m3, m4, m5⟩ := MO
            unfold zMO zRT
            rw [e8, fr3 136 (by decide), fr3 137 (by decide), fr3 138 (by decide), fr3 139 (by decide), fr3 140 (by decide)]
            exact ⟨m1, m2, m3, m4, m5⟩
          · exact (M.ly ⟨yF, yfr, y8, yL⟩).fr (by rw [e8]) fun c a b => fr3 c (by simp; omega)
        have hll : ∀ j, j < (A u).2.1 → ((A u).2.2 j).2.1 + 2 ≤ (A u).1 := fun j hj => (hl.2.2.2 j hj).2.1
        have hf1 := zfac_pos (A u).1
        have rungs : ∀ (r i : Nat) (h3 : zHP) (x3 : Int) (R : Nat → Nat), (A u).2.1 - i = r → i ≤ (A u).2.1 → x3 = (i : Int) → zFin h3 → zfr [151, 152] h2 h3 → (∀ o, o < zfac (A u).1 → h3 151 o = (R o : Int)) → zDA (A u).1 (A u).2.2 i R → zAt X 309 101 0 0 [some (zR 108), some (zI t), some (zI o), some (zI x3), none] [] zSHc h3 (fun v sh' h' => sh' = zSHc ∧ K v h') := by
          intro r
          induction r with
          | zero =>
            intro i h3 x3 R hr hi h3' F3 fr3 D A1
            have ei : i = (A u).2.1 := by omega
            rw [ei] at A1
            obtain ⟨Y1, Y2, Y3⟩ := Y h3 F3 fr3
            obtain ⟨q1, q2⟩ := Y3.n hu' hu
            have kv := kk h3 R Y1 A1
            rw [← D _ (by omega)] at kv
            exact sg_309_101 F3 (by omega) (fun _ => by omega) (fun _ => ⟨rfl, kv⟩) (fun z => by omega)
          | succ r ih =>
            intro i h3 x3 R hr hi h3' F3 fr3 D A1
            have hi' : i < (A u).2.1 := by omega
            obtain ⟨Y1, Y2, Y3⟩ := Y h3 F3 fr3
            obtain ⟨q1, q2⟩ := Y3.n hu' hu
            have hle := hll i hi'
            have le21 := zDA_le hn.2 i R (fun j hj => hll j (by omega)) A1
            have hm := hl.2.1
            -- relax, then on
            have last : ∀ (h4 : zHP), zFin h4 → zfr [151, 152] h2 h4 → (∀ v, v < zfac (A u).1 → h4 151 v = (R (zx (A u).1 ((A u).2.2 i).2.1 v) : Int)) → zC X 308 [zR 108, zI (h4 109 t.toNat)] h4 (fun v h9 => zAt X 309 206 0 0 [some (zR 108), some (zI t), some (zI o), some (zI x3), none] (zpush v []) zSHc h9 (fun v sh' h' => sh' = zSHc ∧ K v h')) := fun h4 F4 fr4 D4 => by
              obtain ⟨W1, W2, W3⟩ := Y h4 F4 fr4
              obtain ⟨w1, w2⟩ := W3.n hu' hu
              have b21 : ∀ v, v < zfac (A u).1 → R (zx (A u).1 ((A u).2.2 i).2.1 v) ≤ 21 := fun v hv => le21 _ (zx_lt hv hle)
              have sb := zsu_bd (zfac (A u).1) b21
              have sb2 : zfac (A u).1 * 21 ≤ 120 * 21 := Nat.mul_le_mul_right 21 f5
              refine cm_308 (f := fun v => R (zx (A u).1 ((A u).2.2 i).2.1 v)) F4 W2 ⟨hn.1, c5⟩ w1 (fun v hv => ?_) (fun z => ?_) (fun v hv => ?_) (fun v hv => Or.inr ?_) fun h5 C F5 fr5 D5 G => sg_309_206c (by omega) ?_
              · rw [D4 v hv]
                unfold zqv
                have := b21 v hv
                rw [if_neg (by omega)]
              · have := b21 0 hf1
                have z : R (zx (A u).1 ((A u).2.2 i).2.1 0) = 10000 := z
                omega
              · show R (zx (A u).1 ((A u).2.2 i).2.1 v) ≤ 10000
                have := b21 v hv
                omega
              · show 9000 * R (zx (A u).1 ((A u).2.2 i).2.1 v) + _ ≤ 1300000
                have := b21 v hv
                omega
              · exact ih (i + 1) h5 _ C (by omega) (by omega) (by omega) F5 (fr4.trans (fr5.mono (by simp))) D5 ⟨R, A1, G⟩
            have back : ∀ (r2 v : Nat) (h4 : zHP) (x4 : Int), zfac (A u).1 - v = r2 → v ≤ zfac (A u).1 → x4 = (v : Int) → zFin h4 → zfr [151, 152] h2 h4 → (∀ w, w < zfac (A u).1 → h4 152 w = (R (zx (A u).1 ((A u).2.2 i).2.1 w) : Int)) → (∀ w, w < v → h4 151 w = (R (zx (A u).1 ((A u).2.2 i).2.1 w) : Int)) → zAt X 309 167 0 0 [some (zR 108), some (zI t), some (zI o), some (zI x3), some (zI x4)] [] zSHc h4 (fun v sh' h' => sh' = zSHc ∧ K v h') := by
              intro r2
              induction r2 with
              | zero =>
                intro v h4 x4 hr2 hv h4' F4 fr4 D4 E4
                have e39 := (Y h4 F4 fr4).2.1.1
                exact sg_309_167 F4 (fun _ => by omega) (fun _ => last h4 F4 fr4 fun w hw => E4 w (by omega)) (fun z => by omega) (fun z => by omega) (fun z => by omega)
              | succ r2 ih2 =>
                intro v h4 x4 hr2 hv h4' F4 fr4 D4 E4
                have e39 := (Y h4 F4 fr4).2.1.1
                refine sg_309_167 F4 (fun z => by omega) (fun z => by omega) (fun _ => by omega) (fun _ => by omega) (fun _ => ?_)
                rw [show x4.toNat = v by omega]
                refine ih2 (v + 1) _ _ (by omega) (by omega) (by omega) (F4.upA zfa_151) (fr4.up (by simp)) (fun w hw => by rw [zup_c (by decide)]; exact D4 w hw) fun w hw => ?_
                by_cases c1 : w = v
                · rw [c1, zup_eq]; exact D4 v (by omega)
                · rw [zup_k c1]; exact E4 w (by omega)
            have forth : ∀ (r2 v : Nat) (h4 : zHP) (x4 : Int), zfac (A u).1 - v = r2 → v ≤ zfac (A u).1 → x4 = (v : Int) → zFin h4 → zfr [151, 152] h2 h4 → (∀ w, w < zfac (A u).1 → h4 151 w = (R w : Int)) → (∀ w, w < zfac (A u).1 → zx (A u).1 ((A u).2.2 i).2.1 w < v → h4 152 w = (R (zx (A u).1 ((A u).2.2 i).2.1 w) : Int)) → zAt X 309 114 0 0 [some (zR 108), some (zI t), some (zI o), some (zI x3), some (zI x4)] [] zSHc h4 (fun v sh' h' => sh' = zSHc ∧ K v h') := by
              intro r2
              induction r2 with
              | zero =>
                intro v h4 x4 hr2 hv h4' F4 fr4 D4 E4
                have e39 := (Y h4 F4 fr4).2.1.1
                have nx := back (zfac (A u).1) 0 h4 0 (by omega) (by omega) rfl F4 fr4 (fun w hw => E4 w hw (by have := zx_lt hw hle; omega)) (fun w hw => by omega)
                clear ih back last D4 E4 D Y kk k0 k1 k2 k3 le21
                apply sg_309_114 F4 <;> intros <;> (try omega)
                all_goals exact nx
              | succ r2 ih2 =>
                intro v h4 x4 hr2 hv h4' F4 fr4 D4 E4
                have hv' : v < zfac (A u).1 := by omega
                obtain ⟨W1, W2, W3⟩ := Y h4 F4 fr4
                have e39 := W2.1
                have hxl := zx_lt hv' hle
                have r1 : h4 112 (((200 * t) + x3).toNat) = (((A u).2.2 i).2.1 : Int) := (W3.rd hu' hu hi' h3').2.1
                have r2 : h4 137 (((6 * x4) + (h4 112 (((200 * t) + x3).toNat))).toNat) = (zx (A u).1 ((A u).2.2 i).2.1 v : Int) := by
                  rw [r1, show ((6 * x4) + (((A u).2.2 i).2.1 : Int)).toNat = 6 * v + ((A u).2.2 i).2.1 by omega]
                  exact (W2.2.2.1 v hv' _ hle).1
                have nx : zAt X 309 114 0 0 [some (zR 108), some (zI t), some (zI o), some (zI x3), some (zI (x4 + 1))] [] zSHc (zup h4 152 ((h4 137 (((6 * x4) + (h4 112 (((200 * t) + x3).toNat))).toNat)).toNat) (h4 151 x4.toNat)) (fun v sh' h' => sh' = zSHc ∧ K v h') := by
                  rw [r2, Int.toNat_natCast, show x4.toNat = v by omega, D4 v hv']
                  refine ih2 (v + 1) _ _ (by omega) (by omega) (by omega) (F4.upA zfa_152) (fr4.up (by simp)) (fun w hw => by rw [zup_c (by decide)]; exact D4 w hw) fun w hw hw2 => ?_
                  by_cases c1 : w = zx (A u).1 ((A u).2.2 i).2.1 v
                  · rw [c1, zup_eq, zx_x hv' hle]
                  · rw [zup_k c1]
                    refine E4 w hw ?_
                    by_cases c2 : zx (A u).1 ((A u).2.2 i).2.1 w = v
                    · have := zx_x hw hle
                      rw [c2] at this
                      exact absurd this.symm c1
                    · omega
                have q9 : zfac (A u).1 ≤ 120 := f5
                have m9 := hl.2.1
                generalize zx (A u).1 ((A u).2.2 i).2.1 v = xx at *
                clear ih ih2 back last D4 E4 D Y kk k0 k1 k2 k3 le21
                apply sg_309_114 F4 <;> intros <;> (try omega)
                all_goals exact nx
            exact sg_309_101 F3 (by omega) (fun z => by omega) (fun z => by omega) (fun _ => forth (zfac (A u).1) 0 h3 0 (by omega) (by omega) rfl F3 fr3 D fun w _ hw => by omega)
        have ini : ∀ (r v : Nat) (h3 : zHP) (x3 : Int), zfac (A u).1 - v = r → v ≤ zfac (A u).1 → x3 = (v : Int) → zFin h3 → zfr [151, 152] h2 h3 → (∀ w, w < v → h3 151 w = zqv (if w = 0 then 0 else 10000)) → zAt X 309 60 0 0 [some (zR 108), some (zI t), some (zI o), some (zI x3), none] [] zSHc h3 (fun v sh' h' => sh' = zSHc ∧ K v h') := by
          intro r
          induction r with
          | zero =>
            intro v h3 x3 hr hv h3' F3 fr3 D
            obtain ⟨Y1, Y2, Y3⟩ := Y h3 F3 fr3
            obtain ⟨q1, q2⟩ := Y3.n hu' hu
            have e39 := Y2.1
            refine sg_309_60 F3 (fun _ => by omega) (fun _ => ?_) (fun z => by omega) (fun z => by omega) (fun z => by omega) (fun z => by omega) (fun z => by omega) (fun z => by omega)
            have e1 : zsu (fun w => if w = 0 then 0 else 10000) (zfac (A u).1) + 10000 = zsu (fun _ => 10000) (zfac (A u).1) + 0 := zsu_upd (C := fun _ => 10000) (a := 0) (x := 0) hf1
            have e2 := zsu_bd (f := fun _ => 10000) (b := 10000) (zfac (A u).1) (fun _ _ => Nat.le_refl _)
            have e3 : zfac (A u).1 * 10000 ≤ 120 * 10000 := Nat.mul_le_mul_right 10000 f5
            refine cm_308 (f := fun w => if w = 0 then 0 else 10000) F3 Y2 ⟨hn.1, c5⟩ q1 (fun w hw => D w (by omega)) (by decide) (fun w hw => ?_) (fun w hw => ?_) fun h5 C F5 fr5 D5 G => sg_309_99c ?_
            · show (if w = 0 then 0 else 10000) ≤ 10000
              split <;> omega
            · show (if w = 0 then 0 else 10000) = 10000 ∨ 9000 * (if w = 0 then 0 else 10000) + _ ≤ 1300000
              by_cases c1 : w = 0
              · rw [if_pos c1]; refine Or.inr ?_; omega
              · rw [if_neg c1]; exact Or.inl rfl
            · refine rungs (A u).2.1 0 h5 0 C (by omega) (by omega) rfl F5 (fr3.trans (fr5.mono (by simp))) D5 ?_
              exact zgm_one (fun _ _ => rfl) G (zgm_inv hn.2)
          | succ r ih =>
            intro v h3 x3 hr hv h3' F3 fr3 D
            obtain ⟨Y1, Y2, Y3⟩ := Y h3 F3 fr3
            have e39 := Y2.1
            have st : ∀ c : Int, c = zqv (if v = 0 then 0 else 10000) → zAt X 309 60 0 0 [some (zR 108), some (zI t), some (zI o), some (zI (x3 + 1)), none] [] zSHc (zup h3 151 x3.toNat c) (fun v sh' h' => sh' = zSHc ∧ K v h') := fun c hc => by
              rw [show x3.toNat = v by omega]
              refine ih (v + 1) _ _ (by omega) (by omega) (by omega) (F3.upA zfa_151) (fr3.up (by simp)) fun w hw => ?_
              by_cases c1 : w = v
              · rw [c1, zup_eq]; exact hc
              · rw [zup_k c1]; exact D w (by omega)
            refine sg_309_60 F3 (fun z => by omega) (fun z => by omega) (fun _ _ => by omega) (fun _ _ => by omega) (fun _ z => st (-1) ?_) (fun _ _ => by omega) (fun _ _ => by omega) (fun _ z => st 0 ?_)
            · rw [if_neg (by omega)]; rfl
            · rw [if_pos (by omega)]; rfl
        exact ini (zfac (A u).1) 0 h2 0 (by omega) (by omega) rfl y2.1 zfr.rfl fun w hw => by omega
      · exact sg_309_29c F (by omega) (fun z => absurd rfl z) (fun z => absurd rfl z) (fun _ => ⟨rfl, k2 u hu' hu o0 o1 pl⟩)
  · exact sg_309_0 F (fun _ => ⟨rfl, k0 fun u a1 a2 _ _ => by omega⟩) (fun c => by omega) (fun c => by omega)
end
