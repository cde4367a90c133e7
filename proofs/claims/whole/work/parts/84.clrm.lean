/-! RUNGS THAT UNDO ONE ANOTHER: THE REFERENCE -/
def zSF (h : zHP) (c : Nat) (f : Nat → Nat) : Prop := h 108 48 = (c : Int) ∧ ∀ k, k < c → h 143 k = (f k : Int)
section
variable {X : List Int} {h : zHP} {K : Option zAV → zHP → Prop} {N : Nat} {A : Nat → Nat × Nat × zel}
/-- clearsOne -/
theorem cm_278 {u c : Nat} {t : Int} {f : Nat → Nat} (F : zFin h) (M : zMS h N A) (hu : u < N) (ht : t = (u : Int)) (I : zinc (A u).2.1 c f) (B : zSF h c f) (k1 : ∀ j k, zcol (A u).2.2 f c j k → ∀ h', zFin h' → zfr [108, 141, 143, 144] h h' → (∀ i, i ≠ 48 → h' 108 i = h 108 i) → zSF h' (c - 2) (fun i => f (zskp k j i)) → K (some (zI 1)) h') (k0 : (∀ j k, ¬ zcol (A u).2.2 f c j k) → ∀ h', zFin h' → zfr [141, 144] h h' → K (some (zI 0)) h') : zC X 278 [zR 108, zI t] h K := by
  have hN := M.2.1
  obtain ⟨n1, n2⟩ := M.n hu ht
  have hl := (M.2.2 u hu).1
  have hn := hl.1
  have hm := hl.2.1
  have h2 : ∀ i, i < (A u).2.1 → ((A u).2.2 i).2.1 + 2 ≤ (A u).1 := fun i hi => (hl.2.2.2 i hi).2.1
  have rdl : ∀ i, i < (A u).2.1 → ∀ z : Int, z = (i : Int) → h 112 ((200 * t) + z).toNat = (((A u).2.2 i).2.1 : Int) := fun i hi z hz => (M.rd hu ht hi hz).2.1
  clear M
  generalize (A u).2.2 = e at *
  generalize (A u).2.1 = m at *
  generalize (A u).1 = n at *
  have walk : ∀ (r j : Nat) (h1 : zHP) (x2 : Int), c - j = r → j ≤ c → x2 = (j : Int) → zFin h1 → zfr [141, 144] h h1 → (∀ a, a < n → h1 141 a = (zhwo e f j a : Int)) → (∀ a b, a < b → b < j → ¬ zsp e f b a) → (∀ x y, x < 7 → y < 7 → (h1 144 (7 * x + y) = -1 ∧ ∀ k, k < j → ¬ (zpx e f k = x ∧ zpy e f k = y)) ∨ ∃ k, k < j ∧ zpx e f k = x ∧ zpy e f k = y ∧ h1 144 (7 * x + y) = (k : Int)) → zAt X 278 48 0 0 [some (zR 108), some (zI t), some (zI x2), none, none, none, none, none, none] [] zSHc h1 (fun v sh' h' => sh' = zSHc ∧ K v h') := by
    intro r
    induction r with
    | zero =>
      intro j h1 x2 hr hj hx F1 fr R D M
      have ej : j = c := by omega
      have e48 : h1 108 48 = (c : Int) := by rw [fr 108 (by decide)]; exact B.1
      have kk := k0 (fun j' k' hc => by
        have := D k' j' hc.2.1 (by have := hc.1; omega)
        exact this hc.2.2.1) h1 F1 fr
      clear R D M k0 k1 B rdl h2
      apply sg_278_48 F1 <;> intros <;> (try omega)
      exact ⟨rfl, kk⟩
    | succ r ih =>
      intro j h1 x2 hr hj hx F1 fr R D M
      have hj' : j < c := by omega
      have e48 : h1 108 48 = (c : Int) := by rw [fr 108 (by decide)]; exact B.1
      have fj := I.1 j hj'
      have cm := zinc_le I
      have hle := h2 (f j) fj
      have r143 : h1 143 x2.toNat = (f j : Int) := by rw [fr 143 (by decide), show x2.toNat = j by omega]; exact B.2 j hj'
      have rT : h1 112 (((200 * t) + (h1 143 x2.toNat)).toNat) = ((e (f j)).2.1 : Int) := by rw [r143, fr 112 (by decide)]; exact rdl _ fj _ rfl
      have lf : ∀ k, k < c → (e (f k)).2.1 + 2 ≤ n := fun k hk => h2 (f k) (I.1 k hk)
      have p1 := zhw_lt lf j (e (f j)).2.1 (by omega) (by omega)
      have p2 := zhw_lt lf j ((e (f j)).2.1 + 1) (by omega) (by omega)
      have rx : h1 141 ((h1 112 (((200 * t) + (h1 143 x2.toNat)).toNat)).toNat) = (zhwo e f j (e (f j)).2.1 : Int) := by rw [rT, Int.toNat_natCast]; exact R _ (by omega)
      have ry : h1 141 (((h1 112 (((200 * t) + (h1 143 x2.toNat)).toNat)) + 1).toNat) = (zhwo e f j ((e (f j)).2.1 + 1) : Int) := by rw [rT, show (((e (f j)).2.1 : Nat) : Int) + 1 = (((e (f j)).2.1 + 1 : Nat) : Int) by omega, Int.toNat_natCast]; exact R _ (by omega)
      have ex : zpx e f j = min (zhwo e f j (e (f j)).2.1) (zhwo e f j ((e (f j)).2.1 + 1)) := rfl
      have ey : zpy e f j = max (zhwo e f j (e (f j)).2.1) (zhwo e f j ((e (f j)).2.1 + 1)) := rfl
      have hx7 : zpx e f j < 7 := by omega
      have hy7 : zpy e f j < 7 := by omega
      have nx : ∀ P : Int, P = ((7 * zpx e f j + zpy e f j : Nat) : Int) → (h1 144 P.toNat < 0 → zC X 259 [zR 108, zI (h1 112 (((200 * t) + (h1 143 x2.toNat)).toNat)), zI ((h1 112 (((200 * t) + (h1 143 x2.toNat)).toNat)) + 1)] (zup h1 144 P.toNat x2) (fun v h9 => zAt X 278 250 0 0 [some (zR 108), some (zI t), some (zI x2), none, none, none, none, none, none] (zpush v []) zSHc h9 (fun v sh' h' => sh' = zSHc ∧ K v h'))) ∧ (0 ≤ h1 144 P.toNat → zAt X 278 172 0 0 [some (zR 108), none, some (zI x2), none, none, none, some (zI (h1 144 P.toNat)), some (zI 0), some (zI 0)] [] zSHc h1 (fun v sh' h' => sh' = zSHc ∧ K v h')) := by
        intro P hP
        have eP : P.toNat = 7 * zpx e f j + zpy e f j := by omega
        rw [eP, rT]
        rcases M (zpx e f j) (zpy e f j) hx7 hy7 with ⟨m1, m2⟩ | ⟨k, hk, kx, ky, km⟩
        · refine ⟨fun _ => ?_, fun a => by omega⟩
          refine cm_259 (n := n) (i := (e (f j)).2.1) (j := (e (f j)).2.1 + 1) (f := zhwo e f j) (F1.upA zfa_144) hn.2 (fun a ha => by rw [zup_c (by decide)]; exact R a ha) (by omega) (by omega) rfl (by omega) fun h2' F2 fr2 H2 => sg_278_250c (by omega) ?_
          refine ih (j + 1) h2' _ (by omega) (by omega) (by omega) F2 ((fr.up (by simp)).trans (fr2.mono (by simp))) (fun a ha => ?_) (fun a b hab hb => ?_) (fun x y hx hy => ?_)
          · rw [H2 a ha]
            show ((if a = (e (f j)).2.1 + 1 then zhwo e f j (e (f j)).2.1 else if a = (e (f j)).2.1 then zhwo e f j ((e (f j)).2.1 + 1) else zhwo e f j a : Nat) : Int) = ((zhwo e f j (if a = (e (f j)).2.1 then (e (f j)).2.1 + 1 else if a = (e (f j)).2.1 + 1 then (e (f j)).2.1 else a) : Nat) : Int)
            by_cases c1 : a = (e (f j)).2.1 + 1
            · rw [if_pos c1, if_neg (by omega), if_pos c1]
            · rw [if_neg c1]
              by_cases c2 : a = (e (f j)).2.1
              · rw [if_pos c2, if_pos c2]
              · rw [if_neg c2, if_neg c2, if_neg c1]
          · by_cases c1 : b = j
            · rw [c1]
              exact fun z => m2 a (by omega) ⟨z.1.symm, z.2.symm⟩
            · exact D a b hab (by omega)
          · rw [fr2 144 (by decide)]
            by_cases c1 : 7 * x + y = 7 * zpx e f j + zpy e f j
            · have cx : x = zpx e f j := by omega
              have cy : y = zpy e f j := by omega
              refine Or.inr ⟨j, by omega, cx.symm, cy.symm, ?_⟩
              rw [c1, zup_eq]
              assumption
            · rw [zup_k c1]
              rcases M x y hx hy with ⟨n1, n2⟩ | ⟨k, hk, n1, n2, n3⟩
              · refine Or.inl ⟨n1, fun k hk z => ?_⟩
                by_cases c2 : k = j
                · rw [c2] at z; omega
                · exact n2 k (by omega) z
              · exact Or.inr ⟨k, by omega, n1, n2, n3⟩
        · refine ⟨fun a => by omega, fun _ => ?_⟩
          have col : zcol e f c j k := ⟨hj', hk, ⟨kx.symm, ky.symm⟩, D⟩
          have us : ∀ i, zskp k j i = if i < k then i else if i + 1 < j then i + 1 else i + 2 := fun i => rfl
          have pack : ∀ (r2 p : Nat) (h2 : zHP) (x7 x8 : Int), c - p = r2 → p ≤ c → x8 = (p : Int) → x7 = ((p - (if k < p then 1 else 0) - (if j < p then 1 else 0) : Nat) : Int) → zFin h2 → zfr [143] h1 h2 → (∀ q, q < p - (if k < p then 1 else 0) - (if j < p then 1 else 0) → h2 143 q = (f (zskp k j q) : Int)) → (∀ q, p ≤ q → q < c → h2 143 q = (f q : Int)) → zAt X 278 172 0 0 [some (zR 108), none, some (zI x2), none, none, none, some (zI (h1 144 (7 * zpx e f j + zpy e f j))), some (zI x7), some (zI x8)] [] zSHc h2 (fun v sh' h' => sh' = zSHc ∧ K v h') := by
            intro r2
            induction r2 with
            | zero =>
              intro p h2 x7 x8 hr2 hp h8 h7 F2 fr2 Lo Hi
              have ep : p = c := by omega
              subst ep
              rw [if_pos (by omega), if_pos hj'] at h7 Lo
              have e48' : h2 108 48 = (p : Int) := by rw [fr2 108 (by decide)]; exact e48
              have kk := k1 j k col (zup h2 108 48 x7) (F2.up (by decide)) ((((fr.mono (by simp)).trans (fr2.mono (by simp)))).up (by simp)) (fun i hi => by rw [zup_k hi, fr2 108 (by decide), fr 108 (by decide)]) ⟨by rw [zup_eq, h7]; rfl, fun q hq => by rw [zup_c (by decide)]; exact Lo q (by omega)⟩
              exact sg_278_172 F2 (fun _ => ⟨rfl, kk⟩) (fun a => by omega) (fun a => by omega) (fun a => by omega) (fun a => by omega) (fun a => by omega) (fun a => by omega) (fun a => by omega) (fun a => by omega) (fun a => by omega)
            | succ r2 ih2 =>
              intro p h2 x7 x8 hr2 hp h8 h7 F2 fr2 Lo Hi
              have e48' : h2 108 48 = (c : Int) := by rw [fr2 108 (by decide)]; exact e48
              have hp' : p < c := by omega
              refine sg_278_172 F2 (fun a => by omega) (fun _ _ => by omega) (fun _ a => ?_) (fun _ _ _ => by omega) (fun _ a b => by omega) (fun _ _ _ => by omega) (fun _ _ _ => by omega) (fun _ a b => ?_) (fun _ _ _ => by omega) (fun _ a b => ?_)
              · have epj : p = j := by omega
                refine ih2 (p + 1) h2 _ _ (by omega) (by omega) (by omega) ?_ F2 fr2 (fun q hq => Lo q ?_) (fun q h1 h2 => Hi q (by omega) h2)
                · rw [h7, if_pos (by omega), if_neg (by omega), if_pos (by omega), if_pos (by omega)]; omega
                · rw [if_pos (by omega), if_pos (by omega)] at hq
                  rw [if_pos (by omega), if_neg (by omega)]; omega
              · have npj : p ≠ j := by omega
                have npk : p ≠ k := by omega
                have v8 : h2 143 x8.toNat = (f p : Int) := by rw [show x8.toNat = p by omega]; exact Hi p (Nat.le_refl _) hp'
                have e7 : x7.toNat = p - (if k < p then 1 else 0) - (if j < p then 1 else 0) := by omega
                rw [v8, e7]
                have ef : zskp k j (p - (if k < p then 1 else 0) - (if j < p then 1 else 0)) = p := by
                  rw [us]
                  by_cases c1 : k < p
                  · rw [if_pos c1]
                    by_cases c2 : j < p
                    · rw [if_pos c2, if_neg (by omega), if_neg (by omega)]; omega
                    · rw [if_neg c2, if_neg (by omega), if_pos (by omega)]; omega
                  · rw [if_neg c1, if_neg (show ¬ j < p by omega), if_pos (show p - 0 - 0 < k by omega)]; omega
                have s1 : (if k < p + 1 then 1 else 0 : Nat) = if k < p then 1 else 0 := by
                  by_cases c1 : k < p
                  · rw [if_pos c1, if_pos (by omega)]
                  · rw [if_neg c1, if_neg (by omega)]
                have s2 : (if j < p + 1 then 1 else 0 : Nat) = if j < p then 1 else 0 := by
                  by_cases c1 : j < p
                  · rw [if_pos c1, if_pos (by omega)]
                  · rw [if_neg c1, if_neg (by omega)]
                have s3 : (if k < p then 1 else 0 : Nat) + (if j < p then 1 else 0) ≤ p := by
                  by_cases c1 : k < p
                  · rw [if_pos c1]
                    by_cases c2 : j < p
                    · rw [if_pos c2]; omega
                    · rw [if_neg c2]; omega
                  · rw [if_neg c1, if_neg (by omega)]; omega
                refine ih2 (p + 1) _ _ _ (by omega) (by omega) (by omega) ?_ (F2.upA zfa_143) (fr2.up (by simp)) (fun q hq => ?_) (fun q h1 h2 => ?_)
                · rw [h7, s1, s2]; omega
                · rw [s1, s2] at hq
                  by_cases c1 : q = p - (if k < p then 1 else 0) - (if j < p then 1 else 0)
                  · rw [c1, zup_eq, ef]
                  · rw [zup_k c1]; exact Lo q (by omega)
                · rw [zup_k (by omega)]; exact Hi q (by omega) h2
              · have epk : p = k := by omega
                refine ih2 (p + 1) h2 _ _ (by omega) (by omega) (by omega) ?_ F2 fr2 (fun q hq => Lo q ?_) (fun q h1 h2 => Hi q (by omega) h2)
                · rw [h7, if_neg (by omega), if_neg (by omega), if_pos (by omega), if_neg (by omega)]; omega
                · rw [if_pos (by omega), if_neg (by omega)] at hq
                  rw [if_neg (by omega), if_neg (by omega)]; omega
          exact pack c 0 h1 0 0 rfl (by omega) rfl (by rw [if_neg (by omega), if_neg (by omega)]; rfl) F1 zfr.rfl (fun q hq => by rw [if_neg (by omega), if_neg (by omega)] at hq; omega) (fun q _ hq => by rw [fr 143 (by decide)]; exact B.2 q hq)
      clear ih R D M k0 k1 rdl h2 lf
      apply sg_278_48 F1 <;> intros <;> (try omega)
      · exact (nx _ (by omega)).1 (by assumption)
      · exact (nx _ (by omega)).2 (by assumption)
      · exact (nx _ (by omega)).1 (by assumption)
      · exact (nx _ (by omega)).2 (by assumption)
  have rows : ∀ (r a : Nat) (h1 : zHP) (x2 : Int), n - a = r → a ≤ n → x2 = (a : Int) → zFin h1 → zfr [141, 144] h h1 → (∀ b, b < a → h1 141 b = (b : Int)) → (∀ b, b < 49 → h1 144 b = -1) → zAt X 278 23 0 0 [some (zR 108), some (zI t), some (zI x2), none, none, none, none, none, none] [] zSHc h1 (fun v sh' h' => sh' = zSHc ∧ K v h') := by
    intro r
    induction r with
    | zero =>
      intro a h1 x2 hr ha hx F1 fr R M
      have e9 : h1 109 t.toNat = (n : Int) := by rw [fr 109 (by decide)]; exact n1
      exact sg_278_23 F1 (by omega) (fun _ => walk c 0 h1 0 rfl (by omega) rfl F1 fr (fun b hb => R b (by omega)) (fun a b _ hb => by omega) (fun x y hx hy => Or.inl ⟨M _ (by omega), fun k hk => by omega⟩)) (fun b => by omega) (fun b => by omega) (fun b => by omega)
    | succ r ih =>
      intro a h1 x2 hr ha hx F1 fr R M
      have e9 : h1 109 t.toNat = (n : Int) := by rw [fr 109 (by decide)]; exact n1
      refine sg_278_23 F1 (by omega) (fun b => by omega) (fun _ => by omega) (fun _ => by omega) (fun _ => ?_)
      rw [show x2.toNat = a by omega]
      refine ih (a + 1) _ _ (by omega) (by omega) (by omega) (F1.upA zfa_141) (fr.up (by simp)) (fun b hb => ?_) (fun b hb => by rw [zup_c (by decide)]; exact M b hb)
      by_cases c1 : b = a
      · rw [c1, zup_eq]; exact hx
      · rw [zup_k c1]; exact R b (by omega)
  have pairs : ∀ (r a : Nat) (h1 : zHP) (x2 : Int), 49 - a = r → a ≤ 49 → x2 = (a : Int) → zFin h1 → zfr [141, 144] h h1 → (∀ b, b < a → h1 144 b = -1) → zAt X 278 2 0 0 [some (zR 108), some (zI t), some (zI x2), none, none, none, none, none, none] [] zSHc h1 (fun v sh' h' => sh' = zSHc ∧ K v h') := by
    intro r
    induction r with
    | zero =>
      intro a h1 x2 hr ha hx F1 fr M
      exact sg_278_2 F1 (fun _ => rows n 0 h1 0 rfl (by omega) rfl F1 fr (fun b hb => by omega) (fun b hb => M b (by omega))) (fun b => by omega) (fun b => by omega) (fun b => by omega)
    | succ r ih =>
      intro a h1 x2 hr ha hx F1 fr M
      refine sg_278_2 F1 (fun b => by omega) (fun _ => by omega) (fun _ => by omega) (fun _ => ?_)
      rw [show x2.toNat = a by omega]
      refine ih (a + 1) _ _ (by omega) (by omega) (by omega) (F1.upA zfa_144) (fr.up (by simp)) (fun b hb => ?_)
      by_cases c1 : b = a
      · rw [c1, zup_eq]
      · rw [zup_k c1]; exact M b (by omega)
  exact sg_278_0 (pairs 49 0 h 0 rfl (by omega) rfl F zfr.rfl (fun b hb => by omega))
/-- clears -/
theorem cm_277 {u : Nat} {t : Int} (F : zFin h) (M : zMS h N A) (hu : u < N) (ht : t = (u : Int)) (k : ∀ h' c f, zclrd (A u).2.2 (A u).2.1 (fun i => i) = (c, f) → zinc (A u).2.1 c f → zFin h' → zfr [108, 141, 143, 144] h h' → (∀ i, i ≠ 48 → h' 108 i = h 108 i) → zSF h' c f → K none h') : zC X 277 [zR 108, zI t] h K := by
  have hN := M.2.1
  obtain ⟨n1, n2⟩ := M.n hu ht
  have hl := (M.2.2 u hu).1
  have hm := hl.2.1
  have loop : ∀ (b c : Nat) (f : Nat → Nat) (h1 : zHP) (x2 : Int), c ≤ b → x2 ≠ 0 → zclrd (A u).2.2 (A u).2.1 (fun i => i) = zclrd (A u).2.2 c f → zinc (A u).2.1 c f → zFin h1 → zfr [108, 141, 143, 144] h h1 → (∀ i, i ≠ 48 → h1 108 i = h 108 i) → zSF h1 c f → zAt X 277 35 0 0 [some (zR 108), some (zI t), some (zI x2)] [] zSHc h1 (fun v sh' h' => sh' = zSHc ∧ K v h') := by
    intro b
    induction b with
    | zero =>
      intro c f h1 x2 hb hx E I F1 fr e48 B
      have M1 : zMS h1 N A := M.fr (e48 0 (by decide)) fun c a b => fr c (by simp; omega)
      have no : ∀ j k, ¬ zcol (A u).2.2 f c j k := fun j k z => by have := z.1; omega
      refine sg_277_35 (fun a => absurd a hx) (fun _ => cm_278 F1 M1 hu ht I B (fun j k z => absurd z (no j k)) (fun _ h2 F2 fr2 => sg_277_44c (sg_277_35 (fun _ => ⟨rfl, ?_⟩) (fun a => absurd rfl a))))
      rw [zclr_no no] at E
      exact k h2 c f E I F2 (fr.trans (fr2.mono (by simp))) (fun i hi => by rw [fr2 108 (by decide)]; exact e48 i hi) ⟨by rw [fr2 108 (by decide)]; exact B.1, fun q hq => by rw [fr2 143 (by decide)]; exact B.2 q hq⟩
    | succ b ih =>
      intro c f h1 x2 hb hx E I F1 fr e48 B
      have M1 : zMS h1 N A := M.fr (e48 0 (by decide)) fun c a b => fr c (by simp; omega)
      refine sg_277_35 (fun a => absurd a hx) (fun _ => cm_278 F1 M1 hu ht I B (fun j k' col h2 F2 fr2 e2 B2 => ?_) (fun no h2 F2 fr2 => sg_277_44c (sg_277_35 (fun _ => ⟨rfl, ?_⟩) (fun a => absurd rfl a))))
      · have c1 := col.1
        have c2 := col.2.1
        exact sg_277_44c (ih (c - 2) _ h2 1 (by omega) (by decide) (E.trans (zclr_yes col)) (zskp_inc I c1 c2) F2 (fr.trans fr2) (fun i hi => by rw [e2 i hi]; exact e48 i hi) B2)
      · rw [zclr_no no] at E
        exact k h2 c f E I F2 (fr.trans (fr2.mono (by simp))) (fun i hi => by rw [fr2 108 (by decide)]; exact e48 i hi) ⟨by rw [fr2 108 (by decide)]; exact B.1, fun q hq => by rw [fr2 143 (by decide)]; exact B.2 q hq⟩
  have ini : ∀ (r i : Nat) (h1 : zHP) (x2 : Int), (A u).2.1 - i = r → i ≤ (A u).2.1 → x2 = (i : Int) → zFin h1 → zfr [108, 141, 143, 144] h h1 → (∀ i, i ≠ 48 → h1 108 i = h 108 i) → h1 108 48 = ((A u).2.1 : Int) → (∀ q, q < i → h1 143 q = (q : Int)) → zAt X 277 12 0 0 [some (zR 108), some (zI t), some (zI x2)] [] zSHc h1 (fun v sh' h' => sh' = zSHc ∧ K v h') := by
    intro r
    induction r with
    | zero =>
      intro i h1 x2 hr hi hx F1 fr e48 e0 O
      exact sg_277_12 F1 (fun _ => loop (A u).2.1 (A u).2.1 (fun i => i) h1 1 (Nat.le_refl _) (by decide) rfl ⟨fun q hq => hq, fun a b hab _ => hab⟩ F1 fr e48 ⟨e0, fun q hq => O q (by omega)⟩) (fun a => by omega) (fun a => by omega) (fun a => by omega)
    | succ r ih =>
      intro i h1 x2 hr hi hx F1 fr e48 e0 O
      refine sg_277_12 F1 (fun a => by omega) (fun _ => by omega) (fun _ => by omega) (fun _ => ?_)
      rw [show x2.toNat = i by omega]
      refine ih (i + 1) _ _ (by omega) (by omega) (by omega) (F1.upA zfa_143) (fr.up (by simp)) (fun i hi => by rw [zup_c (by decide)]; exact e48 i hi) (by rw [zup_c (by decide)]; exact e0) (fun q hq => ?_)
      by_cases c1 : q = i
      · rw [c1, zup_eq]; exact hx
      · rw [zup_k c1]; exact O q (by omega)
  refine sg_277_0 F (by omega) ?_
  rw [n2]
  exact ini (A u).2.1 0 _ 0 (by omega) (by omega) rfl (F.up (by decide)) ((zfr.rfl).up (by simp)) (fun i hi => zup_k hi) zup_eq (fun q hq => by omega)
/-- cleared -/
theorem cm_279 {t : Int} (F : zFin h) (M : zMS h N A) (k0 : ¬ (0 ≤ t ∧ t < (N : Int)) → K (some (zI (-1))) h) (k2 : ∀ u : Nat, u < N → t = (u : Int) → ¬ zplb (A u).2.2 (A u).2.1 = true → K (some (zI (-2))) h) (k1 : ∀ u : Nat, u < N → t = (u : Int) → zplb (A u).2.2 (A u).2.1 = true → ∀ h', zFin h' → zfr [108, 141, 143, 144] h h' → (∀ i, i ≠ 48 → h' 108 i = h 108 i) → K (some (zI ((zclrd (A u).2.2 (A u).2.1 (fun i => i)).1 : Int))) h') : zC X 279 [zR 108, zI t] h K := by
  have h0 := M.1
  refine sg_279_0 (fun c => ?_) (fun c => ⟨rfl, k0 (by omega)⟩)
  obtain ⟨u, hu⟩ : ∃ u : Nat, t = (u : Int) := ⟨t.toNat, by omega⟩
  have hu' : u < N := by omega
  refine cm_245 F M hu' hu (fun pl => sg_279_15c (fun _ => ?_) (fun a => absurd a (by decide))) (fun pl => sg_279_15c (fun a => absurd rfl a) (fun _ => ⟨rfl, k2 u hu' hu pl⟩))
  refine cm_277 F M hu' hu fun h' c f E I F' fr e48 B => sg_279_26c ⟨rfl, ?_⟩
  have := k1 u hu' hu pl h' F' fr e48
  rw [E] at this
  rw [B.1]
  exact this
/-- kept -/
theorem cm_280 {t y : Int} (F : zFin h) (M : zMS h N A) (k0 : (∀ u : Nat, u < N → t = (u : Int) → zplb (A u).2.2 (A u).2.1 = true → 0 ≤ y → y < ((zclrd (A u).2.2 (A u).2.1 (fun i => i)).1 : Int) → False) → ∀ h', zFin h' → zfr [108, 141, 143, 144] h h' → (∀ i, i ≠ 48 → h' 108 i = h 108 i) → K (some (zI (-1))) h') (k1 : ∀ u : Nat, u < N → t = (u : Int) → zplb (A u).2.2 (A u).2.1 = true → 0 ≤ y → y < ((zclrd (A u).2.2 (A u).2.1 (fun i => i)).1 : Int) → ∀ h', zFin h' → zfr [108, 141, 143, 144] h h' → (∀ i, i ≠ 48 → h' 108 i = h 108 i) → K (some (zI ((zclrd (A u).2.2 (A u).2.1 (fun i => i)).2 y.toNat : Int))) h') : zC X 280 [zR 108, zI t, zI y] h K := by
  have h0 := M.1
  have z0 : (∀ u : Nat, u < N → t = (u : Int) → zplb (A u).2.2 (A u).2.1 = true → 0 ≤ y → y < ((zclrd (A u).2.2 (A u).2.1 (fun i => i)).1 : Int) → False) → zSHc = zSHc ∧ K (some (zI (-1))) h := fun c => ⟨rfl, k0 c h F zfr.rfl fun _ _ => rfl⟩
  refine sg_280_0 (fun c => z0 fun u hu a => by omega) (fun c => ?_)
  obtain ⟨u, hu⟩ : ∃ u : Nat, t = (u : Int) := ⟨t.toNat, by omega⟩
  have hu' : u < N := by omega
  have one : ∀ u' : Nat, t = (u' : Int) → u' = u := fun u' a => by omega
  refine cm_245 F M hu' hu (fun pl => ?_) (fun pl => ?_)
  · refine sg_280_13c (fun a => absurd a (by decide)) (fun _ hy => ?_) (fun _ hy => z0 fun u2 _ _ _ b _ => by omega)
    refine cm_277 F M hu' hu fun h' c f E I F' fr e48 B => ?_
    have k1 := k1 u hu' hu pl
    rw [E] at k1
    have cm := zinc_le I
    have hm := (M.2.2 u hu').1.2.1
    refine sg_280_27c F' (fun a => ⟨rfl, k0 (fun u2 _ b _ _ b3 => ?_) h' F' fr e48⟩) (fun a => ?_) (fun a => ⟨rfl, ?_⟩)
    · rw [one u2 b, E, ← B.1] at b3
      omega
    · rw [B.1] at a
      omega
    · rw [B.1] at a
      rw [B.2 y.toNat (by omega)]
      exact k1 hy a h' F' fr e48
  · refine sg_280_13c (fun _ => z0 fun u2 _ b b1 _ _ => ?_) (fun a => absurd rfl a) (fun a => absurd rfl a)
    rw [one u2 b] at b1
    exact pl b1
end
