/-! THE REFERENCE'S COUNTS OF LEAST LADDERS -/
theorem zrn_inv {n k o : Nat} (ho : o < zfac n) (hk : k + 2 ≤ n) (h : zp n o (k + 1) < zp n o k) : zinvs n (zrn n k o) + 1 = zinvs n o := by
  have h1 := zin_lt ho
  unfold zrn
  rw [zinvs_in (zx_lt h1 hk), ← zinvs_in ho]
  refine (zinvs_x h1 hk).1 ?_
  rw [zin_r ho (by omega), zin_r ho (by omega)]
  exact h
def zrs (n o l : Nat) : Nat := (if zinvs n o = 0 then 1 else 0) + zsu (fun k => if zp n o (k + 1) < zp n o k then zTl n (zrn n k o) else 0) l
theorem zrs_all {n o : Nat} (ho : o < zfac n) : zrs n o (n - 1) = zTl n o := by
  unfold zrs
  by_cases h0 : o = 0
  · subst h0
    rw [zsu_congr (g := fun _ => 0) (fun k hk => if_neg fun z => by have := zrn_inv ho (by omega) z; rw [zinvs_0] at this; omega), zsu_0, if_pos zinvs_0, zTl_0]
  · have := zinvs_pos ho h0
    rw [if_neg (by omega), ← zTl_rec2 ho h0]
    omega
theorem zsu_up {f : Nat → Nat} {a : Nat} : ∀ {b : Nat}, a ≤ b → zsu f a ≤ zsu f b := by
  intro b
  induction b with
  | zero => intro h; rw [show a = 0 by omega]; exact Nat.le_refl _
  | succ b ih =>
    intro h
    by_cases c : a = b + 1
    · rw [c]; exact Nat.le_refl _
    · have := ih (by omega)
      have e : zsu f (b + 1) = zsu f b + f b := rfl
      omega
theorem zrs_le {n o l : Nat} (ho : o < zfac n) (hn : n ≤ 7) (hl : l ≤ n - 1) : zrs n o l ≤ 21936950640377856 := by
  have h1 := zrs_all ho
  have h2 := zTl_le (o := o) hn
  have h3 := zsu_up (f := fun k => if zp n o (k + 1) < zp n o k then zTl n (zrn n k o) else 0) hl
  unfold zrs at h1 ⊢
  omega
theorem zhalf {n : Nat} (hn : 2 ≤ n ∧ n ≤ 7) : (n : Int) * ((n : Int) - 1) / 2 = ((n * (n - 1) / 2 : Nat) : Int) ∧ 0 ≤ (n : Int) * ((n : Int) - 1) ∧ (n : Int) * ((n : Int) - 1) ≤ 42 ∧ n * (n - 1) / 2 ≤ 21 ∧ 2 * (n * (n - 1) / 2) = n * (n - 1) := by
  have h : n = 2 ∨ n = 3 ∨ n = 4 ∨ n = 5 ∨ n = 6 ∨ n = 7 := by omega
  rcases h with h | h | h | h | h | h <;> subst h <;> decide
section
variable {X : List Int} {h : zHP} {K : Option zAV → zHP → Prop}
/-- lay: the counts -/
theorem cm_261d {n : Nat} {hb : zHP} (hn : 2 ≤ n ∧ n ≤ 7) (h39 : hb 108 39 = (zfac n : Int)) (RB : zRT hb n (zfac n)) (SB : ∀ v, v < zfac n → ∀ k, k + 2 ≤ n → hb 138 (6 * v + k) = (zrn n k v : Int)) (PB : ∀ v, v < zfac n → hb 139 v = (zinvs n v : Int)) (k : ∀ h', zFin h' → zfr [140] hb h' → (∀ v, v < zfac n → h' 140 v = (zTl n v : Int)) → K none h') : ∀ (q m : Nat) (h1 : zHP) (x : Int), n * (n - 1) / 2 + 1 - m = q → m ≤ n * (n - 1) / 2 + 1 → x = (m : Int) → zFin h1 → zfr [140] hb h1 → (∀ u, u < zfac n → zinvs n u < m → h1 140 u = (zTl n u : Int)) → zAt X 261 283 0 0 [some (zR 108), some (zI (n : Int)), some (zI x), none, none, none] [] zSHc h1 (fun v sh' h' => sh' = zSHc ∧ K v h') := by
  have h5 := zfac7 hn.2
  obtain ⟨hf1, hf2, hf3, hf4, hf5⟩ := zhalf hn
  generalize hM : n * (n - 1) / 2 = M at *
  intro q
  induction q with
  | zero =>
    intro m h1 x hq hm hx F1 fr D
    refine sg_261_283 (by omega) (by omega) ⟨by omega, by decide⟩ (fun _ => ⟨rfl, k h1 F1 fr fun u hu => D u hu ?_⟩) (fun a => by omega)
    have := zinvs_le2 (n := n) (o := u)
    omega
  | succ q ih =>
    intro m h1 x hq hm hx F1 fr D
    have sweep : ∀ (p v : Nat) (h2 : zHP) (y : Int), zfac n - v = p → v ≤ zfac n → y = (v : Int) → zFin h2 → zfr [140] hb h2 → (∀ u, u < zfac n → zinvs n u < m ∨ (zinvs n u = m ∧ u < v) → h2 140 u = (zTl n u : Int)) → zAt X 261 296 0 0 [some (zR 108), some (zI (n : Int)), some (zI x), some (zI y), none, none] [] zSHc h2 (fun v sh' h' => sh' = zSHc ∧ K v h') := by
      intro p
      induction p with
      | zero =>
        intro v h2 y hp hv hy F2 fr2 D2
        have e39 : h2 108 39 = (zfac n : Int) := by rw [fr2 108 (by decide)]; exact h39
        have nx := ih (m + 1) h2 (x + 1) (by omega) (by omega) (by omega) F2 fr2 (fun u hu a => D2 u hu (by omega))
        clear ih k RB SB PB D D2
        apply sg_261_296 F2 <;> intros <;> (try omega)
        all_goals exact nx
      | succ p ip =>
        intro v h2 y hp hv hy F2 fr2 D2
        have hv' : v < zfac n := by omega
        have e39 : h2 108 39 = (zfac n : Int) := by rw [fr2 108 (by decide)]; exact h39
        have ey : y.toNat = v := by omega
        have e2 : h2 139 y.toNat = (zinvs n v : Int) := by rw [fr2 139 (by decide), ey]; exact PB v hv'
        -- the sum of one order
        have sums : zinvs n v = m → ∀ (s l : Nat) (h3 : zHP) (z : Int), n - 1 - l = s → l ≤ n - 1 → z = (l : Int) → zFin h3 → zfr [140] hb h3 → (∀ u, u < zfac n → zinvs n u < m ∨ (zinvs n u = m ∧ u < v) → h3 140 u = (zTl n u : Int)) → h3 140 v = (zrs n v l : Int) → zAt X 261 335 0 0 [some (zR 108), some (zI (n : Int)), some (zI x), some (zI y), some (zI z), none] [] zSHc h3 (fun v sh' h' => sh' = zSHc ∧ K v h') := by
          intro hvm s
          induction s with
          | zero =>
            intro l h3 z hs hl hz F3 fr3 D3 V3
            have el : l = n - 1 := by omega
            rw [el, zrs_all hv'] at V3
            refine sg_261_335 (by omega) (fun _ => by omega) (fun _ => ?_) (fun a => by omega)
            refine ip (v + 1) h3 (y + 1) (by omega) (by omega) (by omega) F3 fr3 fun u hu a => ?_
            by_cases c : u = v
            · rw [c]; exact V3
            · exact D3 u hu (by omega)
          | succ s is =>
            intro l h3 z hs hl hz F3 fr3 D3 V3
            have es : zrs n v (l + 1) = zrs n v l + (if zp n v (l + 1) < zp n v l then zTl n (zrn n l v) else 0) := by unfold zrs; rw [Nat.add_assoc]; rfl
            have b1 := zrs_le (l := l + 1) hv' hn.2 (by omega)
            refine sg_261_335 (by omega) (fun _ => by omega) (fun a => by omega) fun _ => ?_
            refine cm_263 F3 hn.2 hv' hy hz (by omega) (fun i hi => by rw [fr3 136 (by decide)]; exact RB v hv' i hi) (fun c => ?_) (fun c => ?_)
            · rw [if_pos c] at es
              have hw := zrn_lt hv' (show l + 2 ≤ n by omega)
              have iw := zrn_inv hv' (show l + 2 ≤ n by omega) c
              have e4 : h3 138 (6 * y + z).toNat = (zrn n l v : Int) := by rw [fr3 138 (by decide), show (6 * y + z).toNat = 6 * v + l by omega]; exact SB v hv' l (by omega)
              have e5 : h3 140 (zrn n l v) = (zTl n (zrn n l v) : Int) := D3 _ hw (by omega)
              have e6 : (h3 138 (6 * y + z).toNat).toNat = zrn n l v := by omega
              have nx : zAt X 261 335 0 0 [some (zR 108), some (zI (n : Int)), some (zI x), some (zI y), some (zI (z + 1)), none] [] zSHc (zup h3 140 y.toNat (h3 140 y.toNat + h3 140 (h3 138 (6 * y + z).toNat).toNat)) (fun v sh' h' => sh' = zSHc ∧ K v h') := by
                rw [e6, e5, ey, V3]
                refine is (l + 1) _ (z + 1) (by omega) (by omega) (by omega) (F3.upA zfa_140) (fr3.up (by simp)) (fun u hu a => ?_) ?_
                · rw [zup_k (fun z => by rw [z] at a; omega)]; exact D3 u hu a
                · rw [zup_eq, es]; omega
              have e7 : h3 140 y.toNat = (zrs n v l : Int) := by rw [ey]; exact V3
              have e8 : h3 140 (h3 138 (6 * y + z).toNat).toNat = (zTl n (zrn n l v) : Int) := by rw [e6]; exact e5
              clear ih ip is k RB SB PB D D2 D3
              apply sg_261_351c F3 <;> intros <;> (try omega)
              all_goals exact nx
            · rw [if_neg c] at es
              have nx := is (l + 1) h3 (z + 1) (by omega) (by omega) (by omega) F3 fr3 D3 (by rw [V3, es]; omega)
              clear ih ip is k RB SB PB D D2 D3
              apply sg_261_351c F3 <;> intros <;> (try omega)
              all_goals exact nx
        by_cases c : zinvs n v = m
        · have nx : ∀ w : Int, w = (zrs n v 0 : Int) → zAt X 261 335 0 0 [some (zR 108), some (zI (n : Int)), some (zI x), some (zI y), some (zI 0), none] [] zSHc (zup h2 140 y.toNat w) (fun v sh' h' => sh' = zSHc ∧ K v h') := fun w hw => by
            rw [ey]
            refine sums c (n - 1) 0 _ 0 (by omega) (by omega) rfl (F2.upA zfa_140) (fr2.up (by simp)) (fun u hu a => ?_) (by rw [zup_eq]; exact hw)
            rw [zup_k (fun z => by rw [z] at a; omega)]; exact D2 u hu a
          have nx0 := nx 0
          have nx1 := nx 1
          have e0 : zrs n v 0 = if zinvs n v = 0 then 1 else 0 := rfl
          clear ih ip sums nx k RB SB PB D D2
          apply sg_261_296 F2 <;> intros <;> (try omega)
          · rw [if_neg (by omega)] at e0
            exact nx0 (by omega)
          · rw [if_pos (by omega)] at e0
            exact nx1 (by omega)
        · have nx := ip (v + 1) h2 (y + 1) (by omega) (by omega) (by omega) F2 fr2 (fun u hu a => D2 u hu (by
            by_cases z : u = v
            · rw [z] at a ⊢; omega
            · omega))
          clear ih ip sums k RB SB PB D D2
          apply sg_261_296 F2 <;> intros <;> (try omega)
          all_goals exact nx
    refine sg_261_283 (by omega) (by omega) ⟨by omega, by decide⟩ (fun a => by omega) fun _ => ?_
    exact sweep (zfac n) 0 h1 0 rfl (by omega) rfl F1 fr (fun u hu a => D u hu (by omega))
/-- lay -/
theorem cm_261 {n : Nat} (F : zFin h) (hn : 2 ≤ n ∧ n ≤ 7) (I : h 108 38 = (n : Int) → zMO h n) (k : ∀ h', zFin h' → zfr [108, 136, 137, 138, 139, 140, 141] h h' → (∀ i, i ≠ 38 → i ≠ 39 → h' 108 i = h 108 i) → h' 108 38 = (n : Int) → zMO h' n → K none h') : zC X 261 [zR 108, zI n] h K := by
  refine sg_261_0 (fun _ => ?_) (fun a => ⟨rfl, k h F zfr.rfl (fun _ _ _ => rfl) a (I a)⟩)
  refine cm_256 hn.2 (by omega) (sg_261_19c ?_)
  generalize hG : zup (zup h 108 38 (n : Int)) 108 39 (zfac n : Int) = G
  have FG : zFin G := by rw [← hG]; exact (F.up zfn_108_38).up zfn_108_39
  have frG : zfr [108] h G := by rw [← hG]; exact (zfr.rfl.up (by simp)).up (by simp)
  have g38 : G 108 38 = (n : Int) := by rw [← hG, zup_k (by decide), zup_eq]
  have g39 : G 108 39 = (zfac n : Int) := by rw [← hG, zup_eq]
  have gk : ∀ i, i ≠ 38 → i ≠ 39 → G 108 i = h 108 i := fun i a b => by rw [← hG, zup_k b, zup_k a]
  have fill : ∀ (q i : Nat) (h1 : zHP) (x : Int), n - i = q → i ≤ n → x = (i : Int) → zFin h1 → zfr [136, 137, 138, 139, 140, 141] G h1 → (∀ j, j < i → h1 141 j = (j : Int)) → zAt X 261 24 0 0 [some (zR 108), some (zI (n : Int)), some (zI x), none, none, none] [] zSHc h1 (fun v sh' h' => sh' = zSHc ∧ K v h') := by
    intro q
    induction q with
    | zero =>
      intro i h1 x hq hi hx F1 fr Z
      refine sg_261_24 F1 (fun _ => ?_) (fun a => by omega) (fun a => by omega) (fun a => by omega)
      refine cm_261b hn g39 (fun h2 F2 fr2 R2 => ?_) (zfac n) 0 h1 0 rfl (by omega) rfl F1 fr (fun u hu => by omega) (fun _ j hj => ?_)
      · refine cm_261c (hb := G) hn g39 (fun h3 F3 fr3 R3 S3 P3 => ?_) (zfac n) 0 h2 0 rfl (by omega) rfl F2 fr2 R2 (fun u hu => by omega) (fun u hu => by omega)
        refine cm_261d (hb := h3) hn (by rw [fr3 108 (by decide)]; exact g39) R3 (fun v hv k hk => (S3 v hv k hk).2) P3 (fun h4 F4 fr4 T4 => ?_) _ 0 h3 0 rfl (by omega) rfl F3 zfr.rfl (fun u hu a => by omega)
        have f108 : h4 108 = G 108 := by rw [fr4 108 (by decide), fr3 108 (by decide)]
        refine k h4 F4 ((frG.mono (by simp)).trans ((fr3.mono (by simp)).trans (fr4.mono (by simp)))) (fun i a b => by rw [f108]; exact gk i a b) (by rw [f108]; exact g38) ⟨by rw [f108]; exact g39, fun u hu j hj => ?_, fun v hv t ht => ?_, fun v hv => ?_, T4⟩
        · rw [fr4 136 (by decide)]; exact R3 u hu j hj
        · rw [fr4 137 (by decide), fr4 138 (by decide)]; exact S3 v hv t ht
        · rw [fr4 139 (by decide)]; exact P3 v hv
      · rw [zr_0 hj]; exact Z j (by omega)
    | succ q ih =>
      intro i h1 x hq hi hx F1 fr Z
      refine sg_261_24 F1 (fun a => by omega) (fun _ => by omega) (fun _ => by omega) (fun _ => ?_)
      refine ih (i + 1) _ _ (by omega) (by omega) (by omega) (F1.upA zfa_141) (fr.up (by simp)) fun j hj => ?_
      by_cases c : j = i
      · rw [c, show x.toNat = i by omega, zup_eq]; exact hx
      · rw [zup_k (by omega)]; exact Z j (by omega)
  exact fill n 0 G 0 rfl (by omega) rfl FG zfr.rfl (fun j hj => by omega)
/-- what the reference keeps of its last lay -/
def zML (h : zHP) : Prop := h 108 38 = 0 ∨ ∃ n : Nat, (2 ≤ n ∧ n ≤ 7) ∧ h 108 38 = (n : Int) ∧ zMO h n
theorem zML.at {h : zHP} {n : Nat} (hn : 2 ≤ n ∧ n ≤ 7) (L : zML h) (e : h 108 38 = (n : Int)) : zMO h n := by
  rcases L with z | ⟨m, _, e2, M⟩
  · omega
  · have : m = n := by omega
    rw [← this]; exact M
theorem zML.keep {h h' : zHP} (L : zML h) (e38 : h' 108 38 = h 108 38) (e39 : h' 108 39 = h 108 39) (e : ∀ c, 136 ≤ c → c ≤ 140 → h' c = h c) : zML h' := by
  rcases L with z | ⟨m, hm, e2, M1, M2, M3, M4, M5⟩
  · exact Or.inl (by rw [e38]; exact z)
  · refine Or.inr ⟨m, hm, by rw [e38]; exact e2, by rw [e39]; exact M1, fun u hu i hi => ?_, ?_, ?_, ?_⟩
    · rw [e 136 (by omega) (by omega)]; exact M2 u hu i hi
    · rw [e 137 (by omega) (by omega), e 138 (by omega) (by omega)]; exact M3
    · rw [e 139 (by omega) (by omega)]; exact M4
    · rw [e 140 (by omega) (by omega)]; exact M5
end
