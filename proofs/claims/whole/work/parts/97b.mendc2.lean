/-! THE CLASS: THE MENDER'S SEARCH -/
section
variable {X : List Int} {h : zHP} {K : Option zAV → zHP → Prop}
/-- keepNow -/
theorem cx_63 {n m S : Nat} {e : zel} {w : Nat → List Nat} {l : List Nat} {x y : Int} (F : zFin h) (hn : n ≤ 5) (h6 : h 62 6 = (S : Int)) (hS : S ≤ 120) (I : zMs h n e m S w) (J : zMn h n e m l) (room : (∀ s, s < S → ¬ zsame n e m (w s) l) → S < 120) (k0 : (∃ s, s < S ∧ zsame n e m (w s) l) → K none h) (k1 : (∀ s, s < S → ¬ zsame n e m (w s) l) → S < 120 → ∀ h', zFin h' → zfr [62, 63, 65, 66] h h' → (∀ i, i ≠ 6 → h' 62 i = h 62 i) → h' 62 6 = ((S + 1 : Nat) : Int) → zMs h' n e m (S + 1) (fun s => if s = S then l else w s) → (∀ i, i ≠ S → h' 65 i = h 65 i ∧ h' 66 i = h 66 i) → h' 65 S = x → h' 66 S = y → K none h') : zC X 63 [zR 62, zI x, zI y] h K := by
  refine sg_63_0 (fun c => by omega) (fun _ c => ?_) (fun _ c => ⟨rfl, ?_⟩)
  · have put : (∀ s, s < S → ¬ zsame n e m (w s) l) → ∀ (r j : Nat) (h1 : zHP) (x3 : Int), 5 - j = r → j ≤ 5 → x3 = (j : Int) → zFin h1 → zfr [63] h h1 → (∀ q, q < 5 * S → h1 63 q = h 63 q) → (∀ q, q < j → h1 63 (5 * S + q) = zco n e m l q) → zAt X 63 44 0 0 [some (zR 62), some (zI x), some (zI y), some (zI x3)] [] zSHc h1 (fun v sh' h' => sh' = zSHc ∧ K v h') := by
      intro new r
      induction r with
      | zero =>
        intro j h1 x3 hr hj h3 F1 fr Lo D
        have e6 : h1 62 6 = (S : Int) := by rw [fr 62 (by decide)]; exact h6
        have eS : (h1 62 6).toNat = S := by omega
        have kk := k1 new (by omega) (zup (zup (zup h1 65 ((h1 62 6).toNat) x) 66 ((h1 62 6).toNat) y) 62 6 ((h1 62 6) + 1)) (((F1.upA zfa_65).upA zfa_66).up (by decide)) ((((fr.mono (by simp)).up (by simp)).up (by simp)).up (by simp)) (fun i hi => by rw [zup_k hi, zup_c (by decide), zup_c (by decide), fr 62 (by decide)]) (by rw [zup_eq]; omega) (fun s hs q hq => by
          rw [zup_c (by decide), zup_c (by decide), zup_c (by decide)]
          show _ = zco n e m (if s = S then l else w s) q
          by_cases d : s = S
          · rw [d, if_pos rfl]; exact D q (by omega)
          · rw [if_neg d, Lo _ (by omega)]; exact I s (by omega) q hq) (fun i hi => by
          refine ⟨?_, ?_⟩
          · rw [eS, zup_c (by decide), zup_c (by decide), zup_k hi, fr 65 (by decide)]
          · rw [eS, zup_c (by decide), zup_k hi, zup_c (by decide), fr 66 (by decide)]) (by rw [eS, zup_c (by decide), zup_c (by decide), zup_eq]) (by rw [eS, zup_c (by decide), zup_eq])
        clear k0 k1 I J Lo D room new
        apply sg_63_44 F1 <;> intros <;> (try omega)
        all_goals exact ⟨rfl, kk⟩
      | succ r ih =>
        intro j h1 x3 hr hj h3 F1 fr Lo D
        have e6 : h1 62 6 = (S : Int) := by rw [fr 62 (by decide)]; exact h6
        have ep : (((h1 62 6) * 5) + x3).toNat = 5 * S + j := by omega
        have ev : h1 64 x3.toNat = zco n e m l j := by rw [show x3.toNat = j by omega, fr 64 (by decide)]; exact J j (by omega)
        have nx : zAt X 63 44 0 0 [some (zR 62), some (zI x), some (zI y), some (zI (x3 + 1))] [] zSHc (zup h1 63 ((((h1 62 6) * 5) + x3).toNat) (h1 64 x3.toNat)) (fun v sh' h' => sh' = zSHc ∧ K v h') := by
          rw [ep, ev]
          refine ih (j + 1) _ _ (by omega) (by omega) (by omega) (F1.upA zfa_63) (fr.up (by simp)) (fun q hq => ?_) (fun q hq => ?_)
          · rw [zup_k (by omega)]; exact Lo q hq
          · by_cases d : q = j
            · rw [d, zup_eq]
            · rw [zup_k (by omega)]; exact D q (by omega)
        clear k0 k1 I J Lo D room new ih
        apply sg_63_44 F1 <;> intros <;> (try omega)
        all_goals exact nx
    have look : ∀ (r s : Nat) (x3 : Int), S - s = r → s ≤ S → x3 = (s : Int) → (∀ q, q < s → ¬ zsame n e m (w q) l) → zAt X 63 19 0 0 [some (zR 62), some (zI x), some (zI y), some (zI x3)] [] zSHc h (fun v sh' h' => sh' = zSHc ∧ K v h') := by
      intro r
      induction r with
      | zero =>
        intro s x3 hr hs h3 D
        exact sg_63_19 (fun _ => put (fun q hq => D q (by omega)) 5 0 h 0 rfl (by omega) rfl F zfr.rfl (fun q _ => rfl) (fun q hq => by omega)) (fun z => by omega)
      | succ r ih =>
        intro s x3 hr hs h3 D
        refine sg_63_19 (fun z => by omega) (fun _ => ?_)
        refine cx_64 (s := s) F hn I J (by omega) hS h3 (fun yes => ?_) (fun no => ?_)
        · exact sg_63_32c (fun z => absurd z (by decide)) (fun z => absurd z (by decide)) (fun _ => ⟨rfl, k0 ⟨s, by omega, yes⟩⟩)
        · refine sg_63_32c (fun _ => by omega) (fun _ => ih (s + 1) _ (by omega) (by omega) (by omega) fun q hq => ?_) (fun z => absurd rfl z)
          by_cases d : q = s
          · rw [d]; exact no
          · exact D q (by omega)
    exact look S 0 0 (by omega) (by omega) rfl (fun q hq => by omega)
  · refine k0 (Classical.byContradiction fun z => ?_)
    have := room fun s hs q => z ⟨s, hs, q⟩
    omega
/-- traceBack -/
theorem cx_66 {hd S : Nat} {w : Nat → List Nat} {x : Int} (F : zFin h) (hS : S ≤ 120) (hh : hd < S) (w0 : w 0 = []) (P : ∀ s, 0 < s → s < S → ∃ p g : Nat, p < s ∧ w s = g :: w p ∧ h 65 s = (p : Int) ∧ h 66 s = (g : Int)) (hx : x = (hd : Int)) (k : ∀ h', zFin h' → zfr [62, 67] h h' → h' 62 7 = ((w hd).length : Int) → (∀ q, q < (w hd).length → h' 67 q = ((w hd).getD q 0 : Nat)) → (w hd).length ≤ 120 → K (some (zI ((w hd).length : Int))) h') : zC X 66 [zR 62, zI x] h K := by
  have loop : ∀ (b s a : Nat) (h1 : zHP) (x2 : Int), s < b → s < S → a + s ≤ hd → x2 = (s : Int) → zFin h1 → zfr [62, 67] h h1 → h1 62 7 = (a : Int) → (∀ q, q < a → h1 67 q = ((w hd).getD q 0 : Nat)) → (w hd).length = a + (w s).length → (∀ q, (w hd).getD (a + q) 0 = (w s).getD q 0) → zAt X 66 7 0 0 [some (zR 62), none, some (zI x2)] [] zSHc h1 (fun v sh' h' => sh' = zSHc ∧ K v h') := by
    intro b
    induction b with
    | zero => intro s a h1 x2 hb; omega
    | succ b ih =>
      intro s a h1 x2 hb hs ha h2 F1 fr e7 D len suf
      by_cases c : s = 0
      · rw [c, w0] at len
        have len : (w hd).length = a := len
        have kk := k h1 F1 fr (by rw [len]; exact e7) (fun q hq => D q (by omega)) (by omega)
        rw [len, ← e7] at kk
        clear k D suf P ih
        apply sg_66_7 F1 <;> intros <;> (try omega)
        all_goals exact ⟨rfl, kk⟩
      · obtain ⟨p, g, p1, p2, p3, p4⟩ := P s (by omega) hs
        have e65 : h1 65 x2.toNat = (p : Int) := by rw [fr 65 (by decide), show x2.toNat = s by omega]; exact p3
        have e66 : h1 66 x2.toNat = (g : Int) := by rw [fr 66 (by decide), show x2.toNat = s by omega]; exact p4
        have g0 : (w hd).getD a 0 = g := by
          have := suf 0
          rw [p2] at this
          exact this
        have nx : zAt X 66 7 0 0 [some (zR 62), none, some (zI (h1 65 x2.toNat))] [] zSHc (zup (zup h1 67 ((h1 62 7).toNat) (h1 66 x2.toNat)) 62 7 ((h1 62 7) + 1)) (fun v sh' h' => sh' = zSHc ∧ K v h') := by
          rw [e65, e66, e7, show ((a : Int)).toNat = a by omega]
          refine ih p (a + 1) _ _ (by omega) (by omega) (by omega) rfl ((F1.upA zfa_67).up (by decide)) ((fr.up (by simp)).up (by simp)) (by rw [zup_eq]; omega) (fun q hq => ?_) (by rw [len, p2]; show a + ((w p).length + 1) = _; omega) (fun q => ?_)
          · rw [zup_c (by decide)]
            by_cases d : q = a
            · rw [d, zup_eq, g0]
            · rw [zup_k d]; exact D q (by omega)
          · rw [show a + 1 + q = a + (q + 1) by omega, suf (q + 1), p2]
            rfl
        clear k D suf P ih
        apply sg_66_7 F1 <;> intros <;> (try omega)
        all_goals exact nx
  refine sg_66_0 (loop (hd + 1) hd 0 _ _ (by omega) hh (by omega) hx (F.up (by decide)) ((zfr.rfl).up (by simp)) zup_eq (fun q hq => by omega) (by omega) (fun q => by rw [Nat.zero_add]))
/-- what holds while the search goes on -/
def zSI (h : zHP) (n : Nat) (e : zel) (m S : Nat) (w : Nat → List Nat) (hd c : Nat) : Prop :=
  (h 62 5 = (n : Int) ∧ h 62 6 = (S : Int) ∧ 1 ≤ S ∧ S ≤ 120 ∧ w 0 = []) ∧ zMs h n e m S w ∧ (∀ s, s < S → zval n (w s)) ∧ (∀ s, 0 < s → s < S → ∃ p g : Nat, p < s ∧ w s = g :: w p ∧ h 65 s = (p : Int) ∧ h 66 s = (g : Int)) ∧ (∀ a b, a < b → b < S → ¬ zsame n e m (w a) (w b)) ∧ (∀ a b, a < b → b < S → zcd (w a) < zcd (w b)) ∧ (hd < S → ∀ a, a < S → zcd (w a) < 8 * zcd (w hd) + c) ∧ (∀ a q, a < S → q + 2 ≤ n → (a < hd ∨ (a = hd ∧ q < c)) → ∃ j, j < S ∧ zsame n e m (w j) (q :: w a) ∧ zcd (w j) ≤ zcd (q :: w a)) ∧ (∀ a, a < hd → a < S → ¬ zwok n e m (w a))
theorem zsame_y {n m : Nat} {e : zel} {l l2 : List Nat} (h : zsame n e m l l2) : zsame n e m l2 l := fun r hr j hj => (h r hr j hj).symm
theorem zSI.all {n m S hd : Nat} {e : zel} {w : Nat → List Nat} (I : zSI h n e m S w hd 0) (hn : n ≤ 5) : ∀ u, zval n u → (∃ j, j < S ∧ zsame n e m (w j) u ∧ zcd (w j) ≤ zcd u) ∨ (hd < S ∧ zcd (w hd) ≤ zcd u) := by
  obtain ⟨⟨i1, i2, i3, i4, i5⟩, j1, j2, j3, j4, j5, j6, j7, j8⟩ := I
  intro u
  induction u with
  | nil => intro _; exact Or.inl ⟨0, by omega, by rw [i5]; exact fun r _ j _ => rfl, by rw [i5]; exact Nat.le_refl _⟩
  | cons k u ih =>
    intro hv
    have hk := hv k (List.mem_cons_self ..)
    have e1 : zcd (k :: u) = 8 * zcd u + k := rfl
    rcases ih (fun q hq => hv q (List.mem_cons_of_mem _ hq)) with ⟨j, a1, a2, a3⟩ | ⟨b1, b2⟩
    · by_cases c : j < hd
      · obtain ⟨j', q1, q2, q3⟩ := j7 j k a1 hk (Or.inl c)
        have e2 : zcd (k :: w j) = 8 * zcd (w j) + k := rfl
        exact Or.inl ⟨j', q1, zsame_t q2 (zsame_s (by omega) a2), by omega⟩
      · refine Or.inr ⟨by omega, ?_⟩
        by_cases d : j = hd
        · rw [← d]; omega
        · have := j5 hd j (by omega) a1
          omega
    · exact Or.inr ⟨b1, by omega⟩
/-- search -/
theorem cx_58 {n m : Nat} {e : zel} (F : zFin h) (hn : 2 ≤ n ∧ n ≤ 5) (hl : ∀ q, q < m → (e q).2.1 + 2 ≤ n) (B : zBR h 54 n (fun r => zbrw e 9999 m r.testBit)) (k : ∀ h' l, zbest n e m l → zFin h' → zfr [62, 63, 64, 65, 66, 67] h h' → h' 62 7 = (l.length : Int) → (∀ q, q < l.length → h' 67 q = (l.getD q 0 : Nat)) → l.length ≤ 120 → K (some (zI (l.length : Int))) h') : zC X 58 [zR 62, zR 54] h K := by
  have main : ∀ (r hd S : Nat) (w : Nat → List Nat) (h1 : zHP) (x2 : Int), 120 - hd = r → hd ≤ 120 → x2 = (hd : Int) → zFin h1 → zfr [62, 63, 64, 65, 66, 67] h h1 → zSI h1 n e m S w hd 0 → zAt X 58 49 0 0 [some (zR 62), none, some (zI x2), none] [] zSHc h1 (fun v sh' h' => sh' = zSHc ∧ K v h') := by
    intro r
    induction r with
    | zero =>
      intro hd S w h1 x2 hr hhd h2 F1 fr I
      exfalso
      obtain ⟨z1, z2, z3⟩ := zbub_w (e := e) (m := m) hn
      have i4 := I.1.2.2.2.1
      rcases I.all hn.2 _ z2 with ⟨j, a1, a2, -⟩ | ⟨b1, -⟩
      · exact I.2.2.2.2.2.2.2.2 j (by omega) a1 (zsame_ok hn.2 hn.1 (zsame_y a2) z3)
      · omega
    | succ r ih =>
      intro hd S w h1 x2 hr hhd h2 F1 fr I
      have i2 := I.1.2.1
      have i4 := I.1.2.2.2.1
      have hS : hd < S := by
        obtain ⟨z1, z2, z3⟩ := zbub_w (e := e) (m := m) hn
        rcases I.all hn.2 _ z2 with ⟨j, a1, a2, -⟩ | ⟨b1, -⟩
        · by_cases c : hd < S
          · exact c
          · exact absurd (zsame_ok hn.2 hn.1 (zsame_y a2) z3) (I.2.2.2.2.2.2.2.2 j (by omega) a1)
        · exact b1
      refine sg_58_49 (fun z => by omega) (fun _ z => by omega) (fun _ _ => ?_)
      refine cx_65 (s := hd) F1 hn I.1.1 I.2.1 hS i4 h2 (fun ok => ?_) (fun bad => ?_)
      · have best : zbest n e m (w hd) := ⟨I.2.2.1 hd hS, ok, fun u hu hok => by
          rcases I.all hn.2 u hu with ⟨j, a1, a2, a3⟩ | ⟨b1, b2⟩
          · have okj := zsame_ok hn.2 hn.1 (zsame_y a2) hok
            by_cases c : j < hd
            · exact absurd okj (I.2.2.2.2.2.2.2.2 j c a1)
            · by_cases d : j = hd
              · rw [← d]; exact a3
              · have := I.2.2.2.2.2.1 hd j (by omega) a1
                omega
          · exact b2⟩
        refine sg_58_68c (fun z => absurd z (by decide)) (fun _ => ?_)
        exact cx_66 F1 i4 hS I.1.2.2.2.2 I.2.2.2.1 h2 fun h2' F2 fr2 e7 D len => sg_58_76c ⟨rfl, k h2' (w hd) best F2 (fr.trans (fr2.mono (by simp))) e7 D len⟩
      · have I0 : zSI h1 n e m S w hd 0 := I
        refine sg_58_68c (fun _ => ?_) (fun z => absurd rfl z)
        have gates : ∀ (r2 c S : Nat) (w : Nat → List Nat) (h1 : zHP) (x3 : Int), n - 1 - c = r2 → c ≤ n - 1 → x3 = (c : Int) → zFin h1 → zfr [62, 63, 64, 65, 66, 67] h h1 → hd < S → ¬ zwok n e m (w hd) → zSI h1 n e m S w hd c → zAt X 58 79 0 0 [some (zR 62), none, some (zI x2), some (zI x3)] [] zSHc h1 (fun v sh' h' => sh' = zSHc ∧ K v h') := by
          intro r2
          induction r2 with
          | zero =>
            intro c S w h1 x3 hr2 hc h3 F1 fr hS bad I
            have ec : c = n - 1 := by omega
            have e5 := I.1.1
            refine sg_58_79 (by omega) (fun _ => by omega) (fun _ => ih (hd + 1) S w h1 _ (by omega) (by omega) (by omega) F1 fr ?_) (fun z => by omega)
            obtain ⟨⟨i1, i2, i3, i4, i5⟩, j1, j2, j3, j4, j5, j6, j7, j8⟩ := I
            refine ⟨⟨i1, i2, i3, i4, i5⟩, j1, j2, j3, j4, j5, fun z a ha => ?_, fun a q ha hq hc2 => ?_, fun a ha ha2 => ?_⟩
            · have a1 := j6 hS a ha
              have a2 := j5 hd (hd + 1) (by omega) z
              omega
            · refine j7 a q ha hq ?_
              by_cases d : a < hd
              · exact Or.inl d
              · exact Or.inr ⟨by omega, by omega⟩
            · by_cases d : a = hd
              · rw [d]; exact bad
              · exact j8 a (by omega) ha2
          | succ r2 ih2 =>
            intro c S w h1 x3 hr2 hc h3 F1 fr hS bad I
            have I' := I
            have e5 := I.1.1
            obtain ⟨⟨i1, i2, i3, i4, i5⟩, j1, j2, j3, j4, j5, j6, j7, j8⟩ := I
            refine sg_58_79 (by omega) (fun z => by omega) (fun z => by omega) (fun _ => ?_)
            refine cx_61 (s := hd) F1 j1 hS i4 h2 fun h2' F2 fr2 J2 => sg_58_94c ?_
            refine cx_62 (c := c) F2 J2 (by omega) h3 fun h3' F3 fr3 J3 => sg_58_99c ?_
            have q1 : ∀ a, a ≠ 64 → h3' a = h1 a := fun a ha => (fr3 a (by simp; exact ha)).trans (fr2 a (by simp; exact ha))
            have FR := (fr.trans (fr2.mono (by simp))).trans (fr3.mono (by simp))
            have j1' : zMs h3' n e m S w := fun s hs j hj => by rw [q1 63 (by decide)]; exact j1 s hs j hj
            have vl : zval n (c :: w hd) := fun k hk => by
              rcases List.mem_cons.mp hk with z | z
              · rw [z]; omega
              · exact j2 hd hS k z
            refine cx_63 (l := c :: w hd) F3 hn.2 (by rw [q1 62 (by decide)]; exact i2) i4 j1' J3 (fun new => zsame_120 hn.2 j2 j4 vl new) (fun old => sg_58_105c (by omega) ?_) (fun new hlt h4 F4 fr4 e62 e6 M4 keep p1 p2 => sg_58_105c (by omega) ?_)
            · obtain ⟨s, hs, sm⟩ := old
              refine ih2 (c + 1) S w h3' _ (by omega) (by omega) (by omega) F3 FR hS bad ⟨⟨by rw [q1 62 (by decide)]; exact i1, by rw [q1 62 (by decide)]; exact i2, i3, i4, i5⟩, j1', j2, fun s h0 hs => by rw [q1 65 (by decide), q1 66 (by decide)]; exact j3 s h0 hs, j4, j5, fun z a ha => by have := j6 z a ha; omega, fun a q ha hq hc2 => ?_, j8⟩
              by_cases d : a = hd ∧ q = c
              · rw [d.1, d.2]
                have a1 := j6 hS s hs
                have e2 : zcd (c :: w hd) = 8 * zcd (w hd) + c := rfl
                exact ⟨s, hs, sm, by omega⟩
              · exact j7 a q ha hq (by omega)
            · obtain ⟨w', ew⟩ : ∃ w' : Nat → List Nat, w' = fun s => if s = S then c :: w hd else w s := ⟨_, rfl⟩
              rw [← ew] at M4
              have wl : ∀ s, s ≠ S → w' s = w s := fun s hs => by rw [ew]; exact if_neg hs
              have wS : w' S = c :: w hd := by rw [ew]; exact if_pos rfl
              clear ew
              have FR4 := FR.trans (fr4.mono (by simp))
              have e2 : zcd (c :: w hd) = 8 * zcd (w hd) + c := rfl
              refine ih2 (c + 1) (S + 1) w' h4 _ (by omega) (by omega) (by omega) F4 FR4 (by omega) (by rw [wl hd (by omega)]; exact bad) ⟨⟨by rw [e62 5 (by decide), q1 62 (by decide)]; exact i1, e6, by omega, by omega, by rw [wl 0 (by omega)]; exact i5⟩, M4, fun s hs => ?_, fun s h0 hs => ?_, fun a b hab hb => ?_, fun a b hab hb => ?_, fun z a ha => ?_, fun a q ha hq hc2 => ?_, fun a ha ha2 => ?_⟩
              · by_cases d : s = S
                · rw [d, wS]; exact vl
                · rw [wl s d]; exact j2 s (by omega)
              · by_cases d : s = S
                · rw [d, wS]
                  exact ⟨hd, c, hS, by rw [wl hd (by omega)], by rw [p1, h2], by rw [p2, h3]⟩
                · obtain ⟨p, g, g1, g2, g3, g4⟩ := j3 s h0 (by omega)
                  rw [wl s d]
                  refine ⟨p, g, g1, by rw [wl p (by omega)]; exact g2, ?_, ?_⟩
                  · rw [(keep s d).1, q1 65 (by decide)]; exact g3
                  · rw [(keep s d).2, q1 66 (by decide)]; exact g4
              · rw [wl a (by omega)]
                by_cases d : b = S
                · rw [d, wS]; exact new a (by omega)
                · rw [wl b d]; exact j4 a b hab (by omega)
              · rw [wl a (by omega)]
                by_cases d : b = S
                · rw [d, wS, e2]; exact j6 hS a (by omega)
                · rw [wl b d]; exact j5 a b hab (by omega)
              · rw [wl hd (by omega)]
                by_cases d : a = S
                · rw [d, wS, e2]; omega
                · rw [wl a d]
                  have := j6 hS a (by omega)
                  omega
              · by_cases d : a = hd ∧ q = c
                · rw [d.1, d.2, wl hd (by omega)]
                  exact ⟨S, by omega, by rw [wS]; exact fun r _ j _ => rfl, by rw [wS]; exact Nat.le_refl _⟩
                · have ha3 : a < S := by omega
                  obtain ⟨j, g1, g2, g3⟩ := j7 a q ha3 hq (by omega)
                  rw [wl a (by omega)]
                  exact ⟨j, by omega, by rw [wl j (by omega)]; exact g2, by rw [wl j (by omega)]; exact g3⟩
              · rw [wl a (by omega)]
                exact j8 a ha (by omega)
        exact gates (n - 1) 0 S w h1 0 rfl (by omega) rfl F1 fr hS bad I0
  -- the start
  have cols : ∀ (r j : Nat) (h1 : zHP) (x2 : Int), 5 - j = r → j ≤ 5 → x2 = (j : Int) → zFin h1 → zfr [62, 64] h h1 → h1 62 5 = (n : Int) → h1 62 6 = 0 → (∀ q, q < j → h1 64 q = zco n e m [] q) → zAt X 58 19 0 0 [some (zR 62), some (zR 54), some (zI x2), none] [] zSHc h1 (fun v sh' h' => sh' = zSHc ∧ K v h') := by
    intro r
    induction r with
    | zero =>
      intro j h1 x2 hr hj h2 F1 fr e5 e6 D
      refine sg_58_19 F1 (Or.inl rfl) (fun _ => ?_) (fun z => by omega)
      refine cx_63 (S := 0) (w := fun _ => []) (l := []) (n := n) (e := e) (m := m) F1 hn.2 e6 (by omega) (fun s hs => by omega) (fun q hq => D q (by omega)) (fun _ => by omega) (fun ⟨s, hs, _⟩ => by omega) (fun _ _ h2' F2 fr2 e62 e6' M2 keep p1 p2 => sg_58_47c ?_)
      refine main 120 0 1 _ h2' 0 rfl (by omega) rfl F2 ((fr.mono (by simp)).trans (fr2.mono (by simp))) ⟨⟨by rw [e62 5 (by decide)]; exact e5, e6', Nat.le_refl _, by omega, if_pos rfl⟩, M2, fun s hs => ?_, fun s h0 hs => by omega, fun a b _ hb => by omega, fun a b _ hb => by omega, fun _ a ha => ?_, fun a q _ _ hc => by omega, fun a ha _ => by omega⟩
      · show zval n (if s = 0 then [] else [])
        have : (if s = 0 then [] else [] : List Nat) = [] := by split <;> rfl
        rw [this]
        exact fun k hk => by cases hk
      · have : ∀ s : Nat, (if s = 0 then [] else [] : List Nat) = [] := fun s => by split <;> rfl
        show zcd (if a = 0 then [] else []) < 8 * zcd (if 0 = 0 then [] else []) + 0
        rw [this, this]
        decide
    | succ r ih =>
      intro j h1 x2 hr hj h2 F1 fr e5 e6 D
      refine sg_58_19 F1 (Or.inl rfl) (fun z => by omega) (fun _ => ?_)
      have B1 : zBR h1 54 n (fun r => zbrw e 9999 m r.testBit) := by
        unfold zBR
        rw [fr 54 (by decide), fr (54 + 1) (by decide), fr (54 + 2) (by decide)]
        exact B
      refine cx_13 (j := j) F1 hn hl B1 (by omega) h2 (sg_58_34c (by omega) (by omega) ?_)
      rw [show x2.toNat = j by omega]
      refine ih (j + 1) _ _ (by omega) (by omega) (by omega) (F1.upA zfa_64) (fr.up (by simp)) (by rw [zup_c (by decide)]; exact e5) (by rw [zup_c (by decide)]; exact e6) fun q hq => ?_
      by_cases c : q = j
      · rw [c, zup_eq]
      · rw [zup_k c]; exact D q (by omega)
  refine sg_58_0 (Or.inl rfl) ?_
  have e1 : min (h 54 3) 5 = (n : Int) := by rw [B.1]; omega
  rw [e1]
  exact cols 5 0 _ 0 rfl (by omega) rfl ((F.up (by decide)).up (by decide)) (((zfr.rfl).up (by simp)).up (by simp)) (by rw [zup_k (by decide), zup_eq]) zup_eq (fun q hq => by omega)
end
