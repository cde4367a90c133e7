/-! THE REFERENCE'S TABLES -/
def zRT (h : zHP) (n v : Nat) : Prop := ∀ u, u < v → ∀ i, i < n → h 136 (7 * u + i) = (zr n u i : Int)
def zMO (h : zHP) (n : Nat) : Prop := h 108 39 = (zfac n : Int) ∧ zRT h n (zfac n) ∧ (∀ v, v < zfac n → ∀ k, k + 2 ≤ n → h 137 (6 * v + k) = (zx n k v : Int) ∧ h 138 (6 * v + k) = (zrn n k v : Int)) ∧ (∀ v, v < zfac n → h 139 v = (zinvs n v : Int)) ∧ (∀ v, v < zfac n → h 140 v = (zTl n v : Int))
theorem zinvs_le2 {n o : Nat} : 2 * zinvs n o ≤ n * (n - 1) := by
  have : ∀ m, m ≤ n → 2 * zsu (fun i => zD (n - 1 - i) o) m ≤ m * (2 * n - 1 - m) := by
    intro m hm
    induction m with
    | zero => show 2 * 0 ≤ 0 * _; omega
    | succ m ih =>
      have h1 := ih (by omega)
      have h2 := zD_lt (n - 1 - m) o
      show 2 * (zsu _ m + zD (n - 1 - m) o) ≤ _
      have e1 : (m + 1) * (2 * n - 1 - (m + 1)) = m * (2 * n - 1 - m) + (2 * (n - 1 - m)) := by
        obtain ⟨d, hd⟩ : ∃ d, n = m + 1 + d := ⟨n - (m + 1), by omega⟩
        subst hd
        rw [show 2 * (m + 1 + d) - 1 - (m + 1) = m + 2 * d by omega, show 2 * (m + 1 + d) - 1 - m = m + 1 + 2 * d by omega, show m + 1 + d - 1 - m = d by omega]
        grind
      rw [e1]
      omega
  have h := this n (Nat.le_refl n)
  rw [show 2 * n - 1 - n = n - 1 by omega] at h
  exact h
section
variable {X : List Int} {h : zHP} {K : Option zAV → zHP → Prop}
/-- takeOrder -/
theorem cm_260 {n v : Nat} {x : Int} (F : zFin h) (hn : n ≤ 7) (hv : v < 5040) (hx : x = (v : Int)) (R : ∀ i, i < n → h 136 (7 * v + i) = (zr n v i : Int)) (k : ∀ h', zFin h' → zfr [141] h h' → zHd h' n (zr n v) → K none h') : zC X 260 [zR 108, zI n, zI x] h K := by
  have loop : ∀ (q i : Nat) (h1 : zHP) (y : Int), n - i = q → i ≤ n → y = (i : Int) → zFin h1 → zfr [141] h h1 → (∀ j, j < i → h1 141 j = (zr n v j : Int)) → zAt X 260 2 0 0 [some (zR 108), some (zI (n : Int)), some (zI x), some (zI y)] [] zSHc h1 (fun v sh' h' => sh' = zSHc ∧ K v h') := by
    intro q
    induction q with
    | zero =>
      intro i h1 y hq hi hy F1 fr hz
      apply sg_260_2 F1 <;> intros <;> (try omega)
      exact ⟨rfl, k h1 F1 fr fun j hj => hz j (by omega)⟩
    | succ q ih =>
      intro i h1 y hq hi hy F1 fr hz
      have e1 : (7 * x + y).toNat = 7 * v + i := by omega
      have e2 : h1 136 (7 * x + y).toNat = (zr n v i : Int) := by rw [fr 136 (by decide), e1]; exact R i (by omega)
      have ey : y.toNat = i := by omega
      apply sg_260_2 F1 <;> intros <;> (try omega)
      rw [e2, ey]
      refine ih (i + 1) _ _ (by omega) (by omega) (by omega) (F1.upA zfa_141) (fr.up (by simp)) fun j hj => ?_
      by_cases c : j = i
      · rw [c, zup_eq]
      · rw [zup_k c]; exact hz j (by omega)
  exact sg_260_0 (loop n 0 h 0 rfl (by omega) rfl F zfr.rfl (fun j hj => by omega))
/-- placeOf -/
theorem cm_262 {n v u : Nat} {x y : Int} (F : zFin h) (hn : n ≤ 7) (hv : v < zfac n) (hx : x = (v : Int)) (hy : y = (u : Int)) (hu : u < n) (R : ∀ i, i < n → h 136 (7 * v + i) = (zr n v i : Int)) (k : K (some (zI (zp n v u : Int))) h) : zC X 262 [zR 108, zI n, zI x, zI y] h K := by
  have h5 := zfac7 hn
  have loop : ∀ (q i : Nat) (z : Int), n - i = q → i ≤ n → z = (i : Int) → (∀ j, j < i → zr n v j ≠ u) → zAt X 262 3 0 0 [some (zR 108), some (zI (n : Int)), some (zI x), some (zI y), some (zI z)] [] zSHc h (fun v sh' h' => sh' = zSHc ∧ K v h') := by
    intro q
    induction q with
    | zero =>
      intro i z hq hi hz hne
      exfalso
      have := hne (zp n v u) (by have := zp_lt hv hu; omega)
      exact this (zr_p hv hu)
    | succ q ih =>
      intro i z hq hi hz hne
      have e1 : h 136 (7 * x + z).toNat = (zr n v i : Int) := by rw [show (7 * x + z).toNat = 7 * v + i by omega]; exact R i (by omega)
      by_cases c : zr n v i = u
      · have e2 := zp_eq hv (show i < n by omega) c
        rw [e2, ← hz] at k
        clear ih hne
        apply sg_262_3 F <;> intros <;> (try omega)
        exact ⟨rfl, k⟩
      · have nx := ih (i + 1) (z + 1) (by omega) (by omega) (by omega) fun j hj => by
          by_cases d : j = i
          · rw [d]; exact c
          · exact hne j (by omega)
        clear ih hne k
        apply sg_262_3 F <;> intros <;> (try omega)
        all_goals exact nx
  exact sg_262_0 (loop n 0 0 rfl (by omega) rfl (fun j hj => by omega))
/-- isNearer -/
theorem cm_263 {n v l : Nat} {x y : Int} (F : zFin h) (hn : n ≤ 7) (hv : v < zfac n) (hx : x = (v : Int)) (hy : y = (l : Int)) (hl : l + 2 ≤ n) (R : ∀ i, i < n → h 136 (7 * v + i) = (zr n v i : Int)) (k1 : zp n v (l + 1) < zp n v l → K (some (zI 1)) h) (k0 : ¬ zp n v (l + 1) < zp n v l → K (some (zI 0)) h) : zC X 263 [zR 108, zI n, zI x, zI y] h K := by
  refine sg_263_0 (by omega) (cm_262 F hn hv hx (u := l + 1) (by omega) (by omega) R (sg_263_9c (cm_262 F hn hv hx (u := l) hy (by omega) R ?_)))
  exact sg_263_16c (fun a => ⟨rfl, k0 (by omega)⟩) (fun a => ⟨rfl, k1 (by omega)⟩)
/-- isOrder -/
theorem cm_264 {n o : Int} (k : K (some (zI (if (2 ≤ n ∧ n ≤ 7) ∧ 0 ≤ o ∧ o < zFc n then 1 else 0))) h) : zC X 264 [zR 108, zI n, zI o] h K := by
  apply sg_264_0 <;> intros
  · rw [if_neg (fun z => by omega)] at k
    exact ⟨rfl, k⟩
  · rw [if_neg (fun z => by omega)] at k
    exact ⟨rfl, k⟩
  · rename_i c1 c2
    obtain ⟨m, hm⟩ : ∃ m : Nat, n = (m : Int) := ⟨n.toNat, by omega⟩
    subst hm
    refine cm_256 (by omega) (by omega) (sg_264_16c (fun a => ⟨rfl, ?_⟩) (fun a => ⟨rfl, ?_⟩))
    · have h9 : ¬ ((2 ≤ (m : Int) ∧ (m : Int) ≤ 7) ∧ 0 ≤ o ∧ o < zFc (m : Int)) := fun z => by
        have : o < (zfac m : Int) := z.2.2
        omega
      rw [if_neg h9] at k
      exact k
    · rw [if_pos ⟨c1, c2, a⟩] at k
      exact k
/-- lay: the rows -/
theorem cm_261b {n : Nat} {hb : zHP} (hn : 2 ≤ n ∧ n ≤ 7) (h39 : hb 108 39 = (zfac n : Int)) (k : ∀ h', zFin h' → zfr [136, 137, 138, 139, 140, 141] hb h' → zRT h' n (zfac n) → zAt X 261 95 0 0 [some (zR 108), some (zI (n : Int)), some (zI 0), none, none, none] [] zSHc h' (fun v sh' h' => sh' = zSHc ∧ K v h')) : ∀ (q v : Nat) (h1 : zHP) (x : Int), zfac n - v = q → v ≤ zfac n → x = (v : Int) → zFin h1 → zfr [136, 137, 138, 139, 140, 141] hb h1 → zRT h1 n v → (v < zfac n → zHd h1 n (zr n v)) → zAt X 261 44 0 0 [some (zR 108), some (zI (n : Int)), some (zI x), none, none, none] [] zSHc h1 (fun v sh' h' => sh' = zSHc ∧ K v h') := by
  have h5 := zfac7 hn.2
  intro q
  induction q with
  | zero =>
    intro v h1 x hq hv hx F1 fr R H
    have ev : v = zfac n := by omega
    subst ev
    have e39 : h1 108 39 = (zfac n : Int) := by rw [fr 108 (by decide)]; exact h39
    exact sg_261_44 (fun _ => k h1 F1 fr R) (fun a => by omega)
  | succ q ih =>
    intro v h1 x hq hv hx F1 fr R H
    have hv' : v < zfac n := by omega
    have H := H hv'
    have e39 : h1 108 39 = (zfac n : Int) := by rw [fr 108 (by decide)]; exact h39
    have copy : ∀ (p i : Nat) (h2 : zHP) (y : Int), n - i = p → i ≤ n → y = (i : Int) → zFin h2 → zfr [136] h1 h2 → zRT h2 n v → (∀ j, j < i → h2 136 (7 * v + j) = (zr n v j : Int)) → zAt X 261 54 0 0 [some (zR 108), some (zI (n : Int)), some (zI x), some (zI y), none, none] [] zSHc h2 (fun v sh' h' => sh' = zSHc ∧ K v h') := by
      intro p
      induction p with
      | zero =>
        intro i h2 y hp hi hy F2 fr2 R2 Z
        have H2 : zHd h2 n (zr n v) := fun j hj => by rw [fr2 141 (by decide)]; exact H j hj
        have nx : zC X 258 [zR 108, zI (n : Int)] h2 (fun v h9 => zAt X 261 87 0 0 [some (zR 108), some (zI (n : Int)), some (zI x), none, none, none] (zpush v []) zSHc h9 (fun v sh' h' => sh' = zSHc ∧ K v h')) := by
          refine cm_258 F2 hn H2 hv' (fun _ _ => rfl) fun h3 F3 fr3 H3 => sg_261_87c (by omega) ?_
          refine ih (v + 1) h3 _ (by omega) (by omega) (by omega) F3 ((fr.trans (fr2.mono (by simp))).trans (fr3.mono (by simp))) (fun u hu j hj => ?_) H3
          rw [fr3 136 (by decide)]
          by_cases c : u = v
          · rw [c]; exact Z j (by omega)
          · exact R2 u (by omega) j hj
        clear ih k R R2 Z H H2
        apply sg_261_54 F2 <;> intros <;> (try omega)
        all_goals exact nx
      | succ p ip =>
        intro i h2 y hp hi hy F2 fr2 R2 Z
        have e1 : (7 * x + y).toNat = 7 * v + i := by omega
        have e2 : h2 141 y.toNat = (zr n v i : Int) := by rw [fr2 141 (by decide), show y.toNat = i by omega]; exact H i (by omega)
        have nx : zAt X 261 54 0 0 [some (zR 108), some (zI (n : Int)), some (zI x), some (zI (y + 1)), none, none] [] zSHc (zup h2 136 (7 * x + y).toNat (h2 141 y.toNat)) (fun v sh' h' => sh' = zSHc ∧ K v h') := by
          rw [e1, e2]
          refine ip (i + 1) _ _ (by omega) (by omega) (by omega) (F2.upA zfa_136) (fr2.up (by simp)) (fun u hu j hj => ?_) (fun j hj => ?_)
          · rw [zup_k (by omega)]; exact R2 u hu j hj
          · by_cases c : j = i
            · rw [c, zup_eq]
            · rw [zup_k (by omega)]; exact Z j (by omega)
        clear ih ip k R R2 Z H
        apply sg_261_54 F2 <;> intros <;> (try omega)
        all_goals exact nx
    refine sg_261_44 (fun a => by omega) (fun _ => ?_)
    exact copy n 0 h1 0 rfl (by omega) rfl F1 zfr.rfl R (fun j hj => by omega)
/-- lay: pairs that are turned, exchanges -/
theorem cm_261c {n : Nat} {hb : zHP} (hn : 2 ≤ n ∧ n ≤ 7) (h39 : hb 108 39 = (zfac n : Int)) (k : ∀ h', zFin h' → zfr [136, 137, 138, 139, 140, 141] hb h' → zRT h' n (zfac n) → (∀ v, v < zfac n → ∀ k, k + 2 ≤ n → h' 137 (6 * v + k) = (zx n k v : Int) ∧ h' 138 (6 * v + k) = (zrn n k v : Int)) → (∀ v, v < zfac n → h' 139 v = (zinvs n v : Int)) → zAt X 261 283 0 0 [some (zR 108), some (zI (n : Int)), some (zI 0), none, none, none] [] zSHc h' (fun v sh' h' => sh' = zSHc ∧ K v h')) : ∀ (q v : Nat) (h1 : zHP) (x : Int), zfac n - v = q → v ≤ zfac n → x = (v : Int) → zFin h1 → zfr [136, 137, 138, 139, 140, 141] hb h1 → zRT h1 n (zfac n) → (∀ u, u < v → ∀ k, k + 2 ≤ n → h1 137 (6 * u + k) = (zx n k u : Int) ∧ h1 138 (6 * u + k) = (zrn n k u : Int)) → (∀ u, u < v → h1 139 u = (zinvs n u : Int)) → zAt X 261 95 0 0 [some (zR 108), some (zI (n : Int)), some (zI x), none, none, none] [] zSHc h1 (fun v sh' h' => sh' = zSHc ∧ K v h') := by
  have h5 := zfac7 hn.2
  intro q
  induction q with
  | zero =>
    intro v h1 x hq hv hx F1 fr R S P
    have ev : v = zfac n := by omega
    subst ev
    have e39 : h1 108 39 = (zfac n : Int) := by rw [fr 108 (by decide)]; exact h39
    exact sg_261_95 (fun _ => k h1 F1 fr R S P) (fun a => by omega)
  | succ q ih =>
    intro v h1 x hq hv hx F1 fr R S P
    have hv' : v < zfac n := by omega
    have e39 : h1 108 39 = (zfac n : Int) := by rw [fr 108 (by decide)]; exact h39
    -- the exchanges of v
    have exch : ∀ (p l : Nat) (h2 : zHP) (y : Int), n - 1 - l = p → l ≤ n - 1 → y = (l : Int) → zFin h2 → zfr [136, 137, 138, 139, 140, 141] hb h2 → zRT h2 n (zfac n) → (∀ u, u < v → ∀ k, k + 2 ≤ n → h2 137 (6 * u + k) = (zx n k u : Int) ∧ h2 138 (6 * u + k) = (zrn n k u : Int)) → (∀ k, k < l → h2 137 (6 * v + k) = (zx n k v : Int) ∧ h2 138 (6 * v + k) = (zrn n k v : Int)) → (∀ u, u < v + 1 → h2 139 u = (zinvs n u : Int)) → zAt X 261 183 0 0 [some (zR 108), some (zI (n : Int)), some (zI x), none, some (zI y), none] [] zSHc h2 (fun v sh' h' => sh' = zSHc ∧ K v h') := by
      intro p
      induction p with
      | zero =>
        intro l h2 y hp hl hy F2 fr2 R2 S2 V2 P2
        have nx := ih (v + 1) h2 (x + 1) (by omega) (by omega) (by omega) F2 fr2 R2 (fun u hu k hk => by
          by_cases c : u = v
          · rw [c]; exact V2 k (by omega)
          · exact S2 u (by omega) k hk) P2
        clear ih k S2 V2 P2 R2 S P R
        apply sg_261_183 <;> intros <;> (try omega)
        all_goals exact nx
      | succ p ip =>
        intro l h2 y hp hl hy F2 fr2 R2 S2 V2 P2
        have hl2 : l + 2 ≤ n := by omega
        have e6 : (6 * x + y).toNat = 6 * v + l := by omega
        have nx : zC X 260 [zR 108, zI (n : Int), zI x] h2 (fun v h9 => zAt X 261 197 0 0 [some (zR 108), some (zI (n : Int)), some (zI x), none, some (zI y), none] (zpush v []) zSHc h9 (fun v sh' h' => sh' = zSHc ∧ K v h')) := by
          refine cm_260 F2 hn.2 (by omega) hx (R2 v hv') fun h3 F3 fr3 H3 => sg_261_197c (by omega) ?_
          refine cm_259 F3 hn.2 H3 (i := l) (j := l + 1) (by omega) (by omega) hy (by omega) fun h4 F4 fr4 H4 => sg_261_207c F4 (by omega) (by omega) ?_
          have eN : zhn (fun a => if a = l + 1 then zr n v l else if a = l then zr n v (l + 1) else zr n v a) n n 0 0 = zx n l v := by
            rw [zhn_ext (g := zr n (zx n l v)) (fun i hi => ?_) n 0 0 (by omega), zhn_o (zx_lt hv' hl2)]
            rw [zx_r hv' hl2]
            by_cases c1 : i = l + 1
            · rw [if_pos c1, if_neg (by omega), if_pos c1]
            · rw [if_neg c1]
              by_cases c2 : i = l
              · rw [if_pos c2, if_pos c2]
              · rw [if_neg c2, if_neg c2, if_neg c1]
          refine cm_257 F4 hn.2 H4 ?_
          rw [eN]
          refine sg_261_223c (by omega) ?_
          rw [e6]
          have g5 : ∀ c, c ≠ 137 → c ≠ 141 → zup h4 137 (6 * v + l) (zx n l v : Int) c = h2 c := fun c a b => by
            funext j
            rw [zup_c a, fr4 c (by simp; exact b), fr3 c (by simp; exact b)]
          have R5 : ∀ i, i < n → zup h4 137 (6 * v + l) (zx n l v : Int) 136 (7 * v + i) = (zr n v i : Int) := fun i hi => by
            rw [g5 136 (by decide) (by decide)]; exact R2 v hv' i hi
          generalize hG : zup h4 137 (6 * v + l) (zx n l v : Int) = G at *
          have FG : zFin G := by rw [← hG]; exact F4.upA zfa_137
          have s137 : ∀ j, G 137 j = if j = 6 * v + l then (zx n l v : Int) else h2 137 j := fun j => by
            rw [← hG]
            by_cases c : j = 6 * v + l
            · rw [c, zup_eq, if_pos rfl]
            · rw [zup_k c, if_neg c, fr4 137 (by decide), fr3 137 (by decide)]
          have frG : zfr [136, 137, 138, 139, 140, 141] hb G := by
            rw [← hG]
            exact (((fr2.trans (fr3.mono (by simp))).trans (fr4.mono (by simp))).up (by simp))
          refine cm_260 FG hn.2 (by omega) hx R5 fun h6 F6 fr6 H6 => sg_261_230c ?_
          have R6 : ∀ i, i < n → h6 136 (7 * v + i) = (zr n v i : Int) := fun i hi => by rw [fr6 136 (by decide)]; exact R5 i hi
          refine cm_262 F6 hn.2 hv' hx hy (by omega) R6 (sg_261_239c (by omega) ?_)
          refine cm_262 F6 hn.2 hv' hx (u := l + 1) (by omega) (by omega) R6 (sg_261_249c ?_)
          refine cm_259 F6 hn.2 H6 (i := zp n v l) (j := zp n v (l + 1)) (zp_lt hv' (by omega)) (zp_lt hv' (by omega)) rfl rfl fun h7 F7 fr7 H7 => sg_261_252c F7 (by omega) (by omega) ?_
          have eN2 : zhn (fun a => if a = zp n v (l + 1) then zr n v (zp n v l) else if a = zp n v l then zr n v (zp n v (l + 1)) else zr n v a) n n 0 0 = zrn n l v := by
            rw [zhn_ext (g := zr n (zrn n l v)) (fun i hi => ?_) n 0 0 (by omega), zhn_o (zrn_lt hv' hl2)]
            rw [zrn_r hv' hl2 hi, zr_p hv' (show l < n by omega), zr_p hv' (show l + 1 < n by omega)]
            by_cases c1 : i = zp n v (l + 1)
            · have : zr n v i = l + 1 := by rw [c1]; exact zr_p hv' (by omega)
              rw [if_pos c1, if_neg (by omega), if_pos this]
            · have n1 : zr n v i ≠ l + 1 := fun z => c1 (zp_eq hv' hi z).symm
              rw [if_neg c1]
              by_cases c2 : i = zp n v l
              · have : zr n v i = l := by rw [c2]; exact zr_p hv' (by omega)
                rw [if_pos c2, if_pos this]
              · have n2 : zr n v i ≠ l := fun z => c2 (zp_eq hv' hi z).symm
                rw [if_neg c2, if_neg n2, if_neg n1]
          refine cm_257 F7 hn.2 H7 ?_
          rw [eN2]
          refine sg_261_268c (by omega) (by omega) ?_
          rw [e6]
          have g8 : ∀ c, c ≠ 138 → c ≠ 141 → zup h7 138 (6 * v + l) (zrn n l v : Int) c = G c := fun c a b => by
            funext j
            rw [zup_c a, fr7 c (by simp; exact b), fr6 c (by simp; exact b)]
          have s138 : ∀ j, zup h7 138 (6 * v + l) (zrn n l v : Int) 138 j = if j = 6 * v + l then (zrn n l v : Int) else h2 138 j := fun j => by
            by_cases c : j = 6 * v + l
            · rw [c, zup_eq, if_pos rfl]
            · rw [zup_k c, if_neg c, fr7 138 (by decide), fr6 138 (by decide)]
              exact congrFun (g5 138 (by decide) (by decide)) j
          refine ip (l + 1) _ _ (by omega) (by omega) (by omega) (F7.upA zfa_138) (((frG.trans (fr6.mono (by simp))).trans (fr7.mono (by simp))).up (by simp)) (fun u hu i hi => ?_) (fun u hu t ht => ?_) (fun t ht => ?_) (fun u hu => ?_)
          · rw [g8 136 (by decide) (by decide), g5 136 (by decide) (by decide)]; exact R2 u hu i hi
          · rw [g8 137 (by decide) (by decide), s137, s138, if_neg (by omega), if_neg (by omega)]; exact S2 u hu t ht
          · rw [g8 137 (by decide) (by decide), s137, s138]
            by_cases c : t = l
            · rw [c, if_pos rfl, if_pos rfl]; exact ⟨rfl, rfl⟩
            · rw [if_neg (by omega), if_neg (by omega)]; exact V2 t (by omega)
          · rw [g8 139 (by decide) (by decide), g5 139 (by decide) (by decide)]; exact P2 u hu
        clear ih ip k S2 V2 P2 R2 S P R
        apply sg_261_183 <;> intros <;> (try omega)
        all_goals exact nx
    -- the pairs of v
    have zb : ∀ i m, zsu (fun j => if i < j ∧ zr n v j < zr n v i then 1 else 0) m ≤ m := fun i m => by
      have := zsu_le (f := fun j => if i < j ∧ zr n v j < zr n v i then 1 else 0) (b := 1) (fun j => by split <;> omega) m
      omega
    have zb2 : ∀ m, zsu (fun i => zsu (fun j => if i < j ∧ zr n v j < zr n v i then 1 else 0) n) m ≤ m * 7 := fun m => by
      exact zsu_le (f := fun i => zsu (fun j => if i < j ∧ zr n v j < zr n v i then 1 else 0) n) (b := 7) (fun i => by have := zb i n; omega) m
    have pairs : ∀ (p i : Nat) (y z : Int), n - i = p → i ≤ n → y = (i : Int) → z = (zsu (fun i => zsu (fun j => if i < j ∧ zr n v j < zr n v i then 1 else 0) n) i : Nat) → zAt X 261 108 0 0 [some (zR 108), some (zI (n : Int)), some (zI x), some (zI z), some (zI y), none] [] zSHc h1 (fun v sh' h' => sh' = zSHc ∧ K v h') := by
      intro p
      induction p with
      | zero =>
        intro i y z hp hi hy hz
        have ei : i = n := by omega
        subst ei
        rw [← zinvs_sum hv'] at hz
        have ex : x.toNat = v := by omega
        have nx : zAt X 261 183 0 0 [some (zR 108), some (zI (i : Int)), some (zI x), none, some (zI 0), none] [] zSHc (zup h1 139 x.toNat z) (fun v sh' h' => sh' = zSHc ∧ K v h') := by
          rw [ex, hz]
          refine exch (i - 1) 0 _ 0 (by omega) (by omega) rfl (F1.upA zfa_139) (fr.up (by simp)) (fun u hu j hj => by rw [zup_c (by decide)]; exact R u hu j hj) (fun u hu k hk => by rw [zup_c (by decide), zup_c (by decide)]; exact S u hu k hk) (fun k hk => by omega) (fun u hu => ?_)
          by_cases c : u = v
          · rw [c, zup_eq]
          · rw [zup_k c]; exact P u (by omega)
        clear ih exch k R S P zb zb2
        apply sg_261_108 F1 <;> intros <;> (try omega)
        all_goals exact nx
      | succ p ip =>
        intro i y z hp hi hy hz
        have hi' : i < n := by omega
        have inner : ∀ (s j : Nat) (w u : Int), n - j = s → i < j → j ≤ n → w = (j : Int) → u = ((zsu (fun i => zsu (fun j => if i < j ∧ zr n v j < zr n v i then 1 else 0) n) i + zsu (fun j => if i < j ∧ zr n v j < zr n v i then 1 else 0) j : Nat) : Int) → zAt X 261 120 0 0 [some (zR 108), some (zI (n : Int)), some (zI x), some (zI u), some (zI y), some (zI w)] [] zSHc h1 (fun v sh' h' => sh' = zSHc ∧ K v h') := by
          intro s
          induction s with
          | zero =>
            intro j w u hs hij hj hw hu
            have ej : j = n := by omega
            subst ej
            have nx := ip (i + 1) (y + 1) u (by omega) (by omega) (by omega) hu
            clear ih exch k R S P zb zb2 ip
            apply sg_261_120 F1 <;> intros <;> (try omega)
            all_goals exact nx
          | succ s is =>
            intro j w u hs hij hj hw hu
            have a1 : h1 136 (7 * x + y).toNat = (zr n v i : Int) := by rw [show (7 * x + y).toNat = 7 * v + i by omega]; exact R v hv' i hi'
            have a2 : h1 136 (7 * x + w).toNat = (zr n v j : Int) := by rw [show (7 * x + w).toNat = 7 * v + j by omega]; exact R v hv' j (by omega)
            have es : zsu (fun j => if i < j ∧ zr n v j < zr n v i then 1 else 0) (j + 1) = zsu (fun j => if i < j ∧ zr n v j < zr n v i then 1 else 0) j + (if i < j ∧ zr n v j < zr n v i then 1 else 0) := rfl
            have b1 := zb i j
            have b2 := zb2 i
            have is1 := is (j + 1) (w + 1)
            clear ih exch k R S P zb zb2 ip is
            apply sg_261_120 F1 <;> intros <;> (try omega)
            · rw [if_neg (by omega)] at es
              exact is1 _ (by omega) (by omega) (by omega) (by omega) (by omega)
            · rw [if_pos (by omega)] at es
              exact is1 _ (by omega) (by omega) (by omega) (by omega) (by omega)
        have s0 : zsu (fun j => if i < j ∧ zr n v j < zr n v i then 1 else 0) (i + 1) = 0 := by
          rw [zsu_congr (g := fun _ => 0) (fun k hk => if_neg (fun z => by omega)), zsu_0]
        have nx := inner (n - (i + 1)) (i + 1) (y + 1) z rfl (by omega) (by omega) (by omega) (by rw [s0]; exact hz)
        clear ih exch k R S P zb zb2 ip inner
        apply sg_261_108 F1 <;> intros <;> (try omega)
        all_goals exact nx
    refine sg_261_95 (fun a => by omega) (fun _ => ?_)
    exact pairs n 0 0 0 rfl (by omega) rfl rfl
end
