/-! TEXTS, THE REFERENCE: ELEMENTS, TIMES, A PART BEGINS -/
theorem zflp_b {n : Nat} {e : zTe} (hn : 2 ≤ n) (h : zeb n e) : zeb n (zflp (n : Int) e) := by
  obtain ⟨a, b, c⟩ := h
  refine ⟨zflp_k a, ?_, ?_⟩
  · show (n : Int) - 10001 ≤ (n : Int) - 2 - e.2.1; omega
  · show (n : Int) - 2 - e.2.1 ≤ 9999; omega
theorem zuse_b {up tu : Bool} {n : Nat} {l : List zTe} (hn : 2 ≤ n) (h : ∀ e ∈ l, zeb n e) : ∀ e ∈ zuseL up tu (n : Int) l, zeb n e := fun e he => by
  unfold zuseL at he
  obtain ⟨x, hx, ex⟩ := List.mem_map.mp he
  have hx : x ∈ l := by
    split at hx
    · exact List.mem_reverse.mp hx
    · exact hx
  rw [← ex]
  split
  · exact zflp_b hn (h x hx)
  · exact h x hx
theorem zrpt_m {m t : Nat} {l : List zTe} {p : zTe → Prop} (h : ∀ e ∈ l, p e) : ∀ e ∈ zrptL m t l, p e := fun e he => by
  unfold zrptL at he
  rcases List.mem_append.mp he with z | z
  · exact h e (List.mem_of_mem_take z)
  · obtain ⟨x, hx, ex⟩ := List.mem_flatten.mp z
    rw [(List.mem_replicate.mp hx).2] at ex
    exact h e (List.mem_of_mem_drop ex)
theorem zot9 {op : Option Nat} {m : Nat} (h : m + zo1 op ≤ 8) : zot op m < 9 := by
  by_cases c : op = none
  · rw [show zot op m = 8 from if_pos c]; decide
  · have : zo1 op = 1 := if_neg c
    rw [show zot op m = m from if_neg c]
    omega
theorem zno_id {f : Int × Int} {a p : Int} : zno (zno f a p) a p = zno f a p := by
  unfold zno
  by_cases c : f.1 = 0 ∨ p < f.2 ∨ (p = f.2 ∧ a < f.1)
  · rw [if_pos c]
    split <;> rfl
  · rw [if_neg c, if_neg c]
section
variable {X : List Int} {h : zHP} {K : Option zAV → zHP → Prop} {tb : Nat → Nat} {T L n : Nat} {i : Nat} {ft : Int × Int} {P : List (Int × List zTe)} {op : Option Nat} {B : List zTe} {st : List (Int × Nat)} {I : List zTe} {m d : Nat}
theorem zMSa.fr {h' : zHP} {W : List Nat} (S : zMSa h n i ft m op d) (f : zfr W h h') (hW : 108 ∉ W) : zMSa h' n i ft m op d := by
  unfold zMSa
  rw [f 108 hW]
  exact S
/-- elements come -/
theorem zMRe.add {h' : zHP} {J : List zTe} (R : zMRe h tb T n P op B st I) (h8 : P.length + zo1 op ≤ 8) (fr : zfr [127, 128, 129, 130, 131] h h') (M2 : zME h' (zot op P.length) (I ++ J)) (oth : ∀ t' l', t' ≠ zot op P.length → zME h t' l' → zME h' t' l') (hJ : ∀ e ∈ J, zeb n e) : zMRe h' tb T n P op B st (I ++ J) := by
  obtain ⟨r1, r2, r3, r4, r5, r6, r7, r8, r9⟩ := R
  have oc : zot op P.length = 8 ∧ op = none ∨ zot op P.length = P.length ∧ op ≠ none := by
    by_cases c : op = none
    · exact Or.inl ⟨if_pos c, c⟩
    · exact Or.inr ⟨if_neg c, c⟩
  refine ⟨by rw [fr 124 (by decide), fr 125 (by decide)]; exact r1, by rw [fr 124 (by decide), fr 125 (by decide), fr 126 (by decide), fr 132 (by decide)]; exact r2, r3.lt fun q _ => by rw [fr 132 (by decide), fr 133 (by decide)]; exact ⟨rfl, rfl⟩, M2, fun o => ?_, fun p hp => ?_, fun e he => ?_, r8, r9⟩
  · rcases oc with ⟨z, w⟩ | ⟨z, w⟩
    · exact absurd w o
    · have : zo1 op = 1 := if_neg w
      exact oth 8 B (by omega) (r5 o)
  · rcases oc with ⟨z, w⟩ | ⟨z, w⟩
    · have : zo1 op = 0 := if_pos w
      exact oth p _ (by omega) (r6 p hp)
    · exact oth p _ (by omega) (r6 p hp)
  · rcases List.mem_append.mp he with z | z
    · exact r7 e z
    · exact hJ e z
theorem zMb.put {h' : zHP} (F : zFin h') (fr : zfr [127, 128, 129, 130, 131] h h') : zMb h h' := zMb.of F fr (by simp [zWm]) (by decide)
/-- tellElement -/
theorem cm_232 {q : Nat} {x : Int} (F : zFin h) (t : zTKm h tb T L) (S : zMSa h n i ft P.length op st.length) (R : zMRe h tb T n P op B st I) (h8 : P.length + zo1 op ≤ 8) (hn : 2 ≤ n ∧ n ≤ 7) (hq : q < 3) (hi : i + 1 ≤ L) (hk : zkdT tb T (i + 1) = 105) (hx : x = (q : Int) + 2) (k : ∀ h', zMb h h' → zMSa h' n (i + 3) (znlg (n : Int) ft (zvlT tb T (i + 1)) (zpcT tb T (i + 1) : Int)) P.length op st.length → zMRe h' tb T n P op B st (I ++ [(q, zvlT tb T (i + 1), 0, 0)]) → K none h') : zC X 232 [zR 108, zI x] h K := by
  have tl := t.1
  have e19 := S.1.1
  refine sg_232_0 (by omega) (cm_231 (j := i + 1) F t S hn.2 hi (by omega) hk fun h1 N => ?_)
  have S1 := S.nt N
  have R1 := R.nt N
  have t1 := t.mb N.mb
  have g19 := S1.1.1
  have v := zvl_int hk
  refine sg_232_10c N.1 (by omega) (by omega) (by omega) ?_
  rw [t1.it hi (show h1 108 19 + 1 = ((i + 1 : Nat) : Int) by omega) hk]
  refine cm_229 (kd := q) (e := (q, zvlT tb T (i + 1), 0, 0)) N.1 S1.2.2.2.1 (zot9 h8) R1.2.2.2.1 (by omega) ⟨rfl, rfl, fun z => by omega⟩ fun h2 F2 fr2 M2 oth => ?_
  have S2 := S1.fr fr2 (by decide)
  have e9 := S2.1.1
  refine sg_232_30c (by omega) ⟨rfl, k _ ((N.mb.tr (zMb.put F2 fr2)).up (by decide)) (S2.at (by omega)) (R1.add h8 fr2 M2 oth fun e he => ?_).up⟩
  rw [List.mem_singleton.mp he]
  exact ⟨by show q < 4; omega, by show (n : Int) - 10001 ≤ zvlT tb T (i + 1); omega, by show zvlT tb T (i + 1) ≤ 9999; omega⟩
/-- tellMaybe -/
theorem cm_233 (F : zFin h) (t : zTKm h tb T L) (S : zMSa h n i ft P.length op st.length) (R : zMRe h tb T n P op B st I) (h8 : P.length + zo1 op ≤ 8) (hn : 2 ≤ n ∧ n ≤ 7) (hi : i + 3 ≤ L) (hk : zkdT tb T (i + 1) = 105) (hk2 : zkdT tb T (i + 2) = 105) (hk3 : zkdT tb T (i + 3) = 105) (k : ∀ h', zMb h h' → zMSa h' n (i + 5) (zm77 (n : Int) (zvlT tb T) (fun i => (zpcT tb T i : Int)) i ft) P.length op st.length → zMRe h' tb T n P op B st (I ++ [(3, zvlT tb T (i + 1), zvlT tb T (i + 2), zvlT tb T (i + 3))]) → K none h') : zC X 233 [zR 108] h K := by
  have tl := t.1
  have e19 := S.1.1
  have v1 := zvl_int hk
  have v2 := zvl_int hk2
  have v3 := zvl_int hk3
  refine sg_233_0 (by omega) (cm_231 (j := i + 1) F t S hn.2 (by omega) (by omega) hk fun h1 N => ?_)
  have S1 := S.nt N
  have R1 := R.nt N
  have t1 := t.mb N.mb
  have g19 := S1.1.1
  have w1 : h1 122 (((h1 108 19) + 1).toNat) = zvlT tb T (i + 1) := t1.it (by omega) (by omega) hk
  have w2 : h1 122 (((h1 108 19) + 2).toNat) = zvlT tb T (i + 2) := t1.it (by omega) (by omega) hk2
  have w3 : h1 122 (((h1 108 19) + 3).toNat) = zvlT tb T (i + 3) := t1.it (by omega) (by omega) hk3
  have ne : (zpcT tb T (i + 2) : Int) ≠ (zpcT tb T (i + 3) : Int) := by
    have := zpc_mono (tb := tb) (T := T) (j := i + 2) (by omega)
    have e : i + 2 + 1 = i + 3 := rfl
    rw [e] at this
    omega
  have em : zm77 (n : Int) (zvlT tb T) (fun i => (zpcT tb T i : Int)) i ft = if zvlT tb T (i + 3) < zvlT tb T (i + 2) then zno (if zvlT tb T (i + 3) < 1 ∨ 4 < zvlT tb T (i + 3) then zno (znlg (n : Int) ft (zvlT tb T (i + 1)) (zpcT tb T (i + 1) : Int)) 5 (zpcT tb T (i + 3) : Int) else znlg (n : Int) ft (zvlT tb T (i + 1)) (zpcT tb T (i + 1) : Int)) 5 (zpcT tb T (i + 2) : Int) else (if zvlT tb T (i + 3) < 1 ∨ 4 < zvlT tb T (i + 3) then zno (znlg (n : Int) ft (zvlT tb T (i + 1)) (zpcT tb T (i + 1) : Int)) 5 (zpcT tb T (i + 3) : Int) else znlg (n : Int) ft (zvlT tb T (i + 1)) (zpcT tb T (i + 1) : Int)) := by
    unfold zm77
    by_cases c1 : zvlT tb T (i + 3) < 1 ∨ 4 < zvlT tb T (i + 3)
    · rw [if_pos c1, if_pos c1]
      by_cases c2 : zvlT tb T (i + 3) < zvlT tb T (i + 2)
      · rw [if_pos c2, if_pos c2]
        exact zno_sw (by decide) (by decide) ne
      · rw [if_neg c2, if_neg c2]
    · rw [if_neg c1, if_neg c1]
  have last : ∀ (h2 : zHP) (f2 : Int × Int), zMN h1 h2 f2 → f2 = zm77 (n : Int) (zvlT tb T) (fun i => (zpcT tb T i : Int)) i ft → zC X 229 [zR 108, zI 3, zI (h2 122 (((h2 108 19) + 1).toNat)), zI (zvlT tb T (i + 2)), zI (zvlT tb T (i + 3))] h2 (fun v h9 => zAt X 233 89 0 0 [some (zR 108), none, none] (zpush v []) zSHc h9 (fun v sh' h' => sh' = zSHc ∧ K v h')) := fun h2 f2 N2 ef => by
    have S2 := S1.nt N2
    have R2 := R1.nt N2
    have t2 := t1.mb N2.mb
    have y19 := S2.1.1
    rw [t2.it (show i + 1 ≤ L by omega) (show h2 108 19 + 1 = ((i + 1 : Nat) : Int) by omega) hk]
    refine cm_229 (kd := 3) (e := (3, zvlT tb T (i + 1), zvlT tb T (i + 2), zvlT tb T (i + 3))) N2.1 S2.2.2.2.1 (zot9 h8) R2.2.2.2.1 rfl ⟨rfl, rfl, fun _ => ⟨rfl, rfl⟩⟩ fun h3 F3 fr3 M3 oth => ?_
    have S3 := S2.fr fr3 (by decide)
    have z9 := S3.1.1
    rw [ef] at S3
    refine sg_233_89c (by omega) ⟨rfl, k _ (((N.mb.tr N2.mb).tr (zMb.put F3 fr3)).up (by decide)) (S3.at (by omega)) (R2.add h8 fr3 M3 oth fun e he => ?_).up⟩
    rw [List.mem_singleton.mp he]
    exact ⟨by show 3 < 4; decide, by show (n : Int) - 10001 ≤ zvlT tb T (i + 1); omega, by show zvlT tb T (i + 1) ≤ 9999; omega⟩
  have there : ∀ (h2 : zHP) (f2 : Int × Int), zMN h1 h2 f2 → f2 = (if zvlT tb T (i + 3) < 1 ∨ 4 < zvlT tb T (i + 3) then zno (znlg (n : Int) ft (zvlT tb T (i + 1)) (zpcT tb T (i + 1) : Int)) 5 (zpcT tb T (i + 3) : Int) else znlg (n : Int) ft (zvlT tb T (i + 1)) (zpcT tb T (i + 1) : Int)) → (zvlT tb T (i + 2) ≤ zvlT tb T (i + 3) → zC X 229 [zR 108, zI 3, zI (h2 122 (((h2 108 19) + 1).toNat)), zI (zvlT tb T (i + 2)), zI (zvlT tb T (i + 3))] h2 (fun v h9 => zAt X 233 89 0 0 [some (zR 108), none, none] (zpush v []) zSHc h9 (fun v sh' h' => sh' = zSHc ∧ K v h'))) ∧ (zvlT tb T (i + 3) < zvlT tb T (i + 2) → zC X 228 [zR 108, zI 5, zI ((h2 108 19) + 2)] h2 (fun v h9 => zAt X 233 71 0 0 [some (zR 108), some (zI (zvlT tb T (i + 2))), some (zI (zvlT tb T (i + 3)))] (zpush v []) zSHc h9 (fun v sh' h' => sh' = zSHc ∧ K v h'))) := fun h2 f2 N2 ef => by
    have S2 := S1.nt N2
    have t2 := t1.mb N2.mb
    have y19 := S2.1.1
    refine ⟨fun c => last h2 f2 N2 (by rw [em, if_neg (by omega), ef]), fun c => ?_⟩
    refine cm_228 (j := i + 2) N2.1 t2 S2.1.2.1 S2.1.2.2 (by omega) (by omega) fun h3 N3 => ?_
    have S3 := S2.nt N3
    have z19 := S3.1.1
    exact sg_233_71c N3.1 (by omega) (by omega) (last h3 _ (N2.tr N3) (by rw [em, if_pos c, ef]))
  have ap : (1 ≤ zvlT tb T (i + 3)) → (zvlT tb T (i + 3) ≤ 4) → _ := fun z1 z2 => there h1 _ (zMN.rf N.1 N.2.2.2.1 N.2.2.2.2) (by rw [if_neg (by omega)])
  have bad : (zvlT tb T (i + 3) < 1 ∨ 4 < zvlT tb T (i + 3)) → zC X 228 [zR 108, zI 5, zI ((h1 108 19) + 3)] h1 (fun v h9 => zAt X 233 55 0 0 [some (zR 108), some (zI (zvlT tb T (i + 2))), some (zI (zvlT tb T (i + 3)))] (zpush v []) zSHc h9 (fun v sh' h' => sh' = zSHc ∧ K v h')) := fun c => by
    refine cm_228 (j := i + 3) N.1 t1 S1.1.2.1 S1.1.2.2 (by omega) (by omega) fun h2 N2 => ?_
    have S2 := S1.nt N2
    have y19 := S2.1.1
    obtain ⟨a1, a2⟩ := there h2 _ N2 (by rw [if_pos c])
    exact sg_233_55c N2.1 (fun _ => by omega) (fun _ => by omega) (fun z => a1 z) (fun _ => by omega) (fun z => a2 z)
  rw [← w2, ← w3] at bad ap
  exact sg_233_10c N.1 (by omega) (by omega) (by omega) (by omega) (fun z => bad (by omega)) (fun _ _ _ => by omega) (fun _ _ _ => by omega) (fun z1 z2 z3 => (ap z1 z2).1 z3) (fun z1 z2 z3 => (ap z1 z2).2 z3) (fun _ z => bad (by omega))
/-- tellTimes -/
theorem cm_236 (F : zFin h) (t : zTKm h tb T L) (S : zMSa h n i ft P.length op st.length) (R : zMRe h tb T n P op B st I) (h8 : P.length + zo1 op ≤ 8) (hd : st.length + zo1 op < 4) (hi : i + 1 ≤ L) (hk : zkdT tb T (i + 1) = 105) (k : ∀ h', zMb h h' → zMSa h' n (i + 3) (if 20 < zvlT tb T (i + 1) then zno ft 5 (zpcT tb T (i + 1) : Int) else ft) P.length op (st.length + 1) → zMRe h' tb T n P op B ((zvlT tb T (i + 1), I.length) :: st) I → K none h') : zC X 236 [zR 108] h K := by
  have tl := t.1
  have e19 := S.1.1
  have o9 := zot9 h8
  have w1 : h 122 (((h 108 19) + 1).toNat) = zvlT tb T (i + 1) := t.it hi (by omega) hk
  have last : ∀ (h1 : zHP) (f1 : Int × Int), zMN h h1 f1 → f1 = (if 20 < zvlT tb T (i + 1) then zno ft 5 (zpcT tb T (i + 1) : Int) else ft) → (fun v sh' h' => sh' = zSHc ∧ K v h') none zSHc (zup (zup (zup (zup h1 132 ((h1 108 31).toNat) (h1 122 (((h1 108 19) + 1).toNat))) 133 ((h1 108 31).toNat) (h1 127 ((h1 108 34).toNat))) 108 31 ((h1 108 31) + 1)) 108 19 ((h1 108 19) + 3)) := fun h1 f1 N ef => by
    have S1 := S.nt N
    have R1 := R.nt N
    have t1 := t.mb N.mb
    obtain ⟨⟨a1, a2, a3⟩, b1, b2, b3, b4⟩ := S1
    obtain ⟨r1, r2, r3, r4, r5, r6, r7⟩ := R1
    rw [ef] at a2 a3
    rw [t1.it hi (show h1 108 19 + 1 = ((i + 1 : Nat) : Int) by omega) hk, show (h1 108 31).toNat = st.length + zo1 op by omega, show (h1 108 34).toNat = zot op P.length by omega, r4.1]
    have zz : ∀ c q, c ≠ 108 → c ≠ 132 → c ≠ 133 → zup (zup (zup (zup h1 132 (st.length + zo1 op) (zvlT tb T (i + 1))) 133 (st.length + zo1 op) ((min I.length 201 : Nat) : Int)) 108 31 ((h1 108 31) + 1)) 108 19 ((h1 108 19) + 3) c q = h1 c q := fun c q z1 z2 z3 => by rw [zup_c z1, zup_c z1, zup_c z3, zup_c z2]
    have zf : ∀ c, c ≠ 108 → c ≠ 132 → c ≠ 133 → zup (zup (zup (zup h1 132 (st.length + zo1 op) (zvlT tb T (i + 1))) 133 (st.length + zo1 op) ((min I.length 201 : Nat) : Int)) 108 31 ((h1 108 31) + 1)) 108 19 ((h1 108 19) + 3) c = h1 c := fun c z1 z2 z3 => by funext q; exact zz c q z1 z2 z3
    have b0 : zMb h1 (zup (zup h1 132 (st.length + zo1 op) (zvlT tb T (i + 1))) 133 (st.length + zo1 op) ((min I.length 201 : Nat) : Int)) := zMb.of ((N.1.upA zfa_132).upA zfa_133) ((zfr.rfl.up (W := [132, 133]) (by simp)).up (by simp)) (by simp [zWm]) (by decide)
    refine ⟨rfl, k _ ((N.mb.tr ((b0.up (by decide)).up (by decide)))) ?_ ?_⟩
    · refine ⟨⟨by rw [zup_eq]; omega, ?_, ?_⟩, ?_, by rw [zup_k (by decide), zup_eq]; omega, ?_, ?_⟩
      all_goals rw [zup_k (by decide), zup_k (by decide), zup_c (by decide), zup_c (by decide)]; assumption
    · refine ⟨?_, ?_, ⟨⟨?_, ?_⟩, r3.lt fun q hq => ⟨?_, ?_⟩⟩, r4.fr fun c _ _ => zf c (by omega) (by omega) (by omega), fun o => (r5 o).fr fun c _ _ => zf c (by omega) (by omega) (by omega), fun p hp => (r6 p hp).fr fun c _ _ => zf c (by omega) (by omega) (by omega), r7⟩
      · rw [zf 124 (by decide) (by decide) (by decide), zf 125 (by decide) (by decide) (by decide)]; exact r1
      · intro j ej
        obtain ⟨c1, c2, c3, c4, c5⟩ := r2 j ej
        have o1 : zo1 op = 1 := if_neg (by rw [ej]; simp)
        refine ⟨c1, ?_, ?_, ?_, ?_⟩
        · rw [zz _ _ (by decide) (by decide) (by decide)]; exact c2
        · rw [zz _ _ (by decide) (by decide) (by decide)]; exact c3
        · rw [zz _ _ (by decide) (by decide) (by decide)]; exact c4
        · rw [zup_c (by decide), zup_c (by decide), zup_c (by decide), zup_k (by omega)]; exact c5
      · rw [zup_c (by decide), zup_c (by decide), zup_c (by decide), zup_eq]
      · rw [zup_c (by decide), zup_c (by decide), zup_eq]
      · rw [zup_c (by decide), zup_c (by decide), zup_c (by decide), zup_k (by omega)]
      · rw [zup_c (by decide), zup_c (by decide), zup_k (by omega), zup_c (by decide)]
  have b2 := S.2.2.1
  have b3 := S.2.2.2.1
  have v := zvl_int hk
  by_cases c : 20 < zvlT tb T (i + 1)
  · refine sg_236_0 F (by omega) (by omega) (fun z => by omega) (fun z => by omega) (fun z => by omega) (fun z => by omega) (fun z => by omega) (fun _ => ?_)
    refine cm_228 (j := i + 1) F t S.1.2.1 S.1.2.2 hi (by omega) fun h1 N => ?_
    have S1 := S.nt N
    have y1 := S1.1.1
    have y2 := S1.2.2.1
    have y3 := S1.2.2.2.1
    exact sg_236_27c N.1 (by omega) (by omega) (by omega) (by omega) (by omega) (by omega) (last h1 _ N (by rw [if_pos c]))
  · exact sg_236_0 F (by omega) (by omega) (fun _ => by omega) (fun _ => by omega) (fun _ => by omega) (fun _ => by omega) (fun _ => last h _ (zMN.rf F S.1.2.1 S.1.2.2) (by rw [if_neg c])) (fun z => by omega)
end
