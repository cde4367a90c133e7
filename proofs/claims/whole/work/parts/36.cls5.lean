/-! THE CLASS: digits, ends, the tape, logs -/
theorem zbm256 {x y : Int} (h : x % 256 = y % 256) : Int.bmod x 256 = Int.bmod y 256 := by
  have h' : x % ((256 : Nat) : Int) = y % ((256 : Nat) : Int) := h
  unfold Int.bmod
  rw [h']
theorem zbvmod (b : BitVec 32) (s : Nat) (hs : s ≤ 24) : (b >>> s).toInt % 256 = (b.sshiftRight s).toInt % 256 := by
  have key : ∀ c : BitVec 32, c.toInt % 256 = ((c.toNat % 256 : Nat) : Int) := fun c => by
    rw [BitVec.toInt_eq_toNat_cond]
    have := c.isLt
    split <;> omega
  rw [key, key]
  congr 1
  apply Nat.eq_of_testBit_eq
  intro i
  rw [show (256 : Nat) = 2 ^ 8 by decide, Nat.testBit_mod_two_pow, Nat.testBit_mod_two_pow]
  by_cases hi : i < 8
  · have e1 : (b >>> s).toNat.testBit i = b.getLsbD (s + i) := BitVec.getLsbD_ushiftRight ..
    have e2 : (b.sshiftRight s).toNat.testBit i = (!decide (32 ≤ i) && if s + i < 32 then b.getLsbD (s + i) else b.msb) := BitVec.getLsbD_sshiftRight ..
    rw [e1, e2, if_pos (by omega), show decide (32 ≤ i) = false from decide_eq_false (by omega)]
    simp [hi]
  · simp [hi]
theorem zshmod {v : Int} {s : Nat} (hs : s = 24 ∨ s = 16 ∨ s = 8 ∨ s = 0) : ziushr v (s : Int) % 256 = zishr v (s : Int) % 256 := by
  have key : ∀ q : Nat, q ≤ 24 → ((Int32.ofInt (q : Int)).toUInt32 &&& Int32.toUInt32 31).toBitVec % (32 : BitVec 32) = BitVec.ofNat 32 q ∧ (Int32.ofInt (q : Int) &&& 31).toBitVec.smod (32 : BitVec 32) = BitVec.ofNat 32 q := by decide +kernel
  obtain ⟨k1, k2⟩ := key s (by omega)
  have e1 : ziushr v (s : Int) = (BitVec.ofInt 32 v >>> s).toInt := by
    unfold ziushr
    show ((Int32.ofInt v).toUInt32 >>> ((Int32.ofInt (s : Int)).toUInt32 &&& Int32.toUInt32 31)).toBitVec.toInt = _
    rw [UInt32.toBitVec_shiftRight, k1, BitVec.ushiftRight_eq', BitVec.toNat_ofNat, Nat.mod_eq_of_lt (show s < 2 ^ 32 by omega)]
    rfl
  have e2 : zishr v (s : Int) = ((BitVec.ofInt 32 v).sshiftRight s).toInt := by
    unfold zishr
    show (Int32.ofInt v >>> (Int32.ofInt (s : Int) &&& 31)).toBitVec.toInt = _
    rw [Int32.toBitVec_shiftRight, k2]
    show (BitVec.sshiftRight (BitVec.ofInt 32 v) (BitVec.ofNat 32 s).toNat).toInt = _
    rw [BitVec.toNat_ofNat, Nat.mod_eq_of_lt (show s < 2 ^ 32 by omega)]
  rw [e1, e2]
  exact zbvmod _ _ (by omega)
def zbyt (v : Int) (k : Nat) : Nat := (zishr v ((24 - 8 * k : Nat) : Int) % 256).toNat
theorem zbyt_lt (v : Int) (k : Nat) : zbyt v k < 256 := by unfold zbyt; omega
def ztpa (T : Nat) (tb : Nat → Nat) (v : Int) : Nat → Nat := fun i => if i < T then tb i else zbyt v (i - T)
/-- the tape of the one and of the other -/
def zTC (h : zHP) (T : Nat) (tb : Nat → Nat) : Prop := h 68 6 = (T : Int) ∧ T ≤ 2000 ∧ ∀ i, i < T → h 69 i = Int.bmod (tb i : Int) 256 ∧ tb i < 256
def zTM (h : zHP) (T : Nat) (tb : Nat → Nat) : Prop := h 108 12 = (T : Int) ∧ T ≤ 2000 ∧ ∀ i, i < T → h 119 i = (tb i : Int) ∧ tb i < 256
/-- the logs -/
def zGC (h : zHP) (G : Nat) (g : Nat → Int × Int × Int × Int) : Prop := h 40 9 = (G : Int) ∧ G ≤ 40 ∧ ∀ i, i < G → h 47 i = (g i).1 ∧ h 48 i = (g i).2.1 ∧ h 49 i = (g i).2.2.1 ∧ h 50 i = (g i).2.2.2
def zgps (g : Nat → Int × Int × Int × Int) (G : Nat) (x : Int × Int × Int × Int) : Nat → Int × Int × Int × Int := fun i => if i = G then x else g i
section
variable {X : List Int} {h : zHP} {K : Option zAV → zHP → Prop} {N s : Nat} {A : Nat → Nat × Nat × zel}
/-- append -/
theorem cx_123 {v : Int} {T : Nat} {tb : Nat → Nat} (F : zFin h) (t : zTC h T tb) (hT : T + 4 ≤ 2000) (k : ∀ h', zFin h' → zfr [68, 69] h h' → zTC h' (T + 4) (ztpa T tb v) → K none h') : zC X 123 [zR 68, zI v] h K := by
  have loop : ∀ (q i : Nat) (h1 : zHP) (x : Int), 4 - i = q → i ≤ 4 → x = 24 - 8 * (i : Int) → zFin h1 → zfr [68, 69] h h1 → h1 68 6 = ((T + i : Nat) : Int) → (∀ j, j < T + i → h1 69 j = Int.bmod (ztpa T tb v j : Int) 256) → zAt X 123 3 0 0 [some (zR 68), some (zI v), some (zI x)] [] zSHc h1 (fun v sh' h' => sh' = zSHc ∧ K v h') := by
    intro q
    induction q with
    | zero =>
      intro i h1 x hq hi hx F1 fr a1 a2
      have ei : i = 4 := by omega
      subst ei
      apply sg_123_3 F1 <;> intros <;> (try omega)
      refine ⟨rfl, k h1 F1 fr ⟨a1, hT, fun j hj => ⟨a2 j hj, ?_⟩⟩⟩
      unfold ztpa
      split
      · exact (t.2.2 j (by omega)).2
      · exact zbyt_lt _ _
    | succ q ih =>
      intro i h1 x hq hi hx F1 fr a1 a2
      have ex : x = ((24 - 8 * i : Nat) : Int) := by omega
      have en : (h1 68 6).toNat = T + i := by omega
      have ev : Int.bmod (Int.bmod (ziushr v x) 256) 256 = Int.bmod (ztpa T tb v (T + i) : Int) 256 := by
        rw [Int.bmod_bmod]
        refine zbm256 ?_
        have ez : ztpa T tb v (T + i) = zbyt v i := by unfold ztpa; rw [if_neg (by omega), show T + i - T = i by omega]
        rw [ez, ex, zshmod (by omega)]
        unfold zbyt
        omega
      apply sg_123_3 F1 <;> intros <;> (try omega)
      rw [ev, en]
      refine ih (i + 1) _ _ (by omega) (by omega) (by omega) ((F1.upA rfl).up rfl) ((fr.up (by simp)).up (by simp)) ?_ (fun j hj => ?_)
      · rw [zup_eq]; omega
      · rw [zup_c (by decide)]
        by_cases c : j = T + i
        · rw [c, zup_eq]
        · rw [zup_k c]; exact a2 j (by omega)
  exact sg_123_0 (loop 4 0 h 24 (by omega) (by omega) rfl F zfr.rfl t.1 (fun j hj => by rw [(t.2.2 j hj).1]; unfold ztpa; rw [if_pos (show j < T by omega)]))
def zfed (T : Nat) (tb : Nat → Nat) (a b c d e : Int) : Nat → Nat := ztpa (T + 16) (ztpa (T + 12) (ztpa (T + 8) (ztpa (T + 4) (ztpa T tb a) b) c) d) e
/-- feed -/
theorem cx_158 {a b c d e : Int} {T : Nat} {tb : Nat → Nat} (F : zFin h) (t : zTC h T tb) (k0 : 2000 < T + 20 → K (some (zI (-1))) h) (k1 : T + 20 ≤ 2000 → ∀ h', zFin h' → zfr [68, 69] h h' → zTC h' (T + 20) (zfed T tb a b c d e) → K (some (zI ((T + 20 : Nat) : Int))) h') : zC X 158 [zR 0, zI a, zI b, zI c, zI d, zI e] h K := by
  have e1 := t.1
  have e2 := t.2.1
  refine sg_158_0 F ?_
  apply sg_122_0 <;> intros <;> (try omega)
  · refine ⟨rfl, ?_⟩
    exact sg_158_9c F (fun z => absurd rfl z) (fun _ => ⟨rfl, k0 (by omega)⟩)
  · refine ⟨rfl, ?_⟩
    refine sg_158_9c F (fun _ => cx_123 F t (by omega) fun h1 F1 f1 t1 => sg_158_22c F1 (cx_123 F1 t1 (by omega) fun h2 F2 f2 t2 => sg_158_30c F2 (cx_123 F2 t2 (by omega) fun h3 F3 f3 t3 => sg_158_38c F3 (cx_123 F3 t3 (by omega) fun h4 F4 f4 t4 => sg_158_47c F4 (cx_123 F4 t4 (by omega) fun h5 F5 f5 t5 => sg_158_56c F5 ⟨rfl, ?_⟩))))) (fun z => absurd z (by decide))
    have := k1 (by omega) h5 F5 ((((f1.trans f2).trans f3).trans f4).trans f5) t5
    rw [t5.1]
    exact this
/-- dropLast -/
theorem cx_124 {n : Int} {T : Nat} {tb : Nat → Nat} (F : zFin h) (t : zTC h T tb) (k0 : ¬ (0 ≤ n ∧ n ≤ (T : Int)) → K (some (zI 0)) h) (k1 : 0 ≤ n → n ≤ (T : Int) → ∀ h', zFin h' → zfr [68] h h' → (∀ j, j ≠ 6 → h' 68 j = h 68 j) → zTC h' (T - n.toNat) tb → K (some (zI 1)) h') : zC X 124 [zR 68, zI n] h K := by
  have e1 := t.1
  have e2 := t.2.1
  apply sg_124_0 <;> intros <;> (try omega)
  · exact ⟨rfl, k0 (by omega)⟩
  · refine ⟨rfl, k1 (by omega) (by omega) _ (F.up rfl) (zfr.rfl.up (by simp)) (fun j hj => zup_k hj) ⟨?_, by omega, fun i hi => ?_⟩⟩
    · rw [zup_eq]; omega
    · rw [zup_c (by decide)]; exact t.2.2 i (by omega)
  · exact ⟨rfl, k0 (by omega)⟩
/-- back -/
theorem cx_159 {n : Int} {T : Nat} {tb : Nat → Nat} (F : zFin h) (t : zTC h T tb) (k0 : ¬ (0 ≤ n ∧ n ≤ (T : Int)) → K (some (zI (-1))) h) (k1 : 0 ≤ n → n ≤ (T : Int) → ∀ h', zFin h' → zfr [68] h h' → zTC h' (T - n.toNat) tb → K (some (zI ((T - n.toNat : Nat) : Int))) h') : zC X 159 [zR 0, zI n] h K := by
  refine sg_159_0 F (cx_124 F t (fun c => sg_159_8c F (fun _ => ⟨rfl, k0 c⟩) (fun z => absurd rfl z)) (fun a b h' F' fr _ t' => sg_159_8c F' (fun z => absurd z (by decide)) (fun _ => ⟨rfl, ?_⟩)))
  have := k1 a b h' F' fr t'
  rw [t'.1]
  exact this
/-- clear -/
theorem cx_162 (F : zFin h) (S : zCS h N s A) {G : Nat} {g : Nat → Int × Int × Int × Int} (g0 : zGC h G g) (k : ∀ h', zFin h' → zfr [0, 40] h h' → h' 0 14 = h 0 14 → zCS h' 0 s A → zGC h' 0 g → (∀ j, j ≠ 9 → h' 40 j = h 40 j) → K (some (zI (N : Int))) h') : zC X 162 [zR 0] h K := by
  obtain ⟨s1, s2, s3, s4, s5, s6⟩ := S
  refine sg_162_0 F (sg_43_0 ⟨rfl, sg_162_17c ⟨rfl, ?_⟩⟩)
  rw [s1]
  refine k _ ((F.up rfl).up rfl) ((zfr.rfl.up (by simp)).up (by simp)) ((zup_c (by decide)).trans (zup_k (by decide))) ⟨?_, by omega, ?_, fun t ht => ?_, fun t ht => by omega, fun t u ht => by omega⟩ ⟨zup_eq, by omega, fun i hi => by omega⟩ (fun j hj => (zup_k hj).trans (zup_c (by decide)))
  · rw [zup_c (by decide), zup_eq]; rfl
  · rw [zup_c (by decide), zup_k (by decide)]; exact s3
  · rw [zup_c (by decide), zup_c (by decide)]; exact s4 t ht
/-- digit -/
theorem cx_168 {n o i : Int} (F : zFin h) (k0 : ¬ (((2 ≤ n ∧ n ≤ 7) ∧ 0 ≤ o ∧ o < zFc n) ∧ 0 ≤ i ∧ i < n) → K (some (zI (-1))) h) (k1 : (2 ≤ n ∧ n ≤ 7) → 0 ≤ o → o < zFc n → 0 ≤ i → i < n → K (some (zI (zr n.toNat o.toNat i.toNat : Int))) h) : zC X 168 [zR 0, zI n, zI o, zI i] h K := by
  apply sg_168_0 F <;> intros
  · exact ⟨rfl, k0 (by omega)⟩
  · exact ⟨rfl, k0 (by omega)⟩
  · rename_i c1 c2 c3
    obtain ⟨c1, c4, c5⟩ := c1
    have kk := k1 c1 c4 c5 c2 c3
    clear k1 k0
    have e1 : n = ((n.toNat : Nat) : Int) := by omega
    have e2 : o = ((o.toNat : Nat) : Int) := by omega
    have e3 : i = ((i.toNat : Nat) : Int) := by omega
    have h5 := zfac7 (show n.toNat ≤ 7 by omega)
    have ho : o.toNat < zfac n.toNat := by unfold zFc at c5; omega
    generalize n.toNat = a at *
    generalize o.toNat = b at *
    generalize i.toNat = c at *
    subst e1; subst e2; subst e3
    refine cx_82 (by omega) (by omega) (by omega) (sg_168_33c ⟨rfl, ?_⟩)
    rw [zr_on ho (by omega)] at kk
    exact kk
  · exact ⟨rfl, k0 (by omega)⟩
/-- fewest -/
theorem cx_171 {n o : Int} (F : zFin h) (k0 : ¬ ((2 ≤ n ∧ n ≤ 7) ∧ 0 ≤ o ∧ o < zFc n) → K (some (zI (-1))) h) (k1 : (2 ≤ n ∧ n ≤ 7) → 0 ≤ o → o < zFc n → K (some (zI (zinvs n.toNat o.toNat : Int))) h) : zC X 171 [zR 0, zI n, zI o] h K := by
  apply sg_171_0 F <;> intros
  · exact ⟨rfl, k0 (by omega)⟩
  · rename_i c1
    obtain ⟨c1, c4, c5⟩ := c1
    have kk := k1 c1 c4 c5
    clear k1 k0
    have e1 : n = ((n.toNat : Nat) : Int) := by omega
    have e2 : o = ((o.toNat : Nat) : Int) := by omega
    have h5 := zfac7 (show n.toNat ≤ 7 by omega)
    have ho : o.toNat < zfac n.toNat := by unfold zFc at c5; omega
    generalize n.toNat = a at *
    generalize o.toNat = b at *
    subst e1; subst e2
    exact cx_81 (by omega) (by omega) (sg_171_21c ⟨rfl, kk⟩)
/-- hasSet -/
theorem zset_lt {b : Nat} {x : Int} (hb : b ≤ 20) : (x < zishl 1 (b : Int)) ↔ x < ((2 ^ b : Nat) : Int) := by
  have h1 : 2 ^ b ≤ 2 ^ 20 := Nat.pow_le_pow_right (by omega) hb
  have e := zishl_n (x := 1) (k := b) (by omega) (by omega)
  rw [Nat.one_mul] at e
  have e' : zishl 1 (b : Int) = ((2 ^ b : Nat) : Int) := e
  rw [e']
/-- down -/
theorem cx_169 {t o th : Int} (F : zFin h) (T : zOT h) (S : zCS h N s A) (k0 : (∀ u : Nat, u < N → t = (u : Int) → 0 ≤ o → o < zFc (A u).1 → 0 ≤ th → th < ((2 ^ zmb (A u).2.2 (A u).2.1 : Nat) : Int) → False) → K (some (zI (-1))) h) (k1 : ∀ u : Nat, u < N → t = (u : Int) → 0 ≤ o → o < zFc (A u).1 → 0 ≤ th → th < ((2 ^ zmb (A u).2.2 (A u).2.1 : Nat) : Int) → K (some (zI (zru (A u).1 (A u).2.2 th.toNat 9999 (A u).2.1 o.toNat : Int))) h) : zC X 169 [zR 0, zI t, zI o, zI th] h K := by
  have S' := S
  obtain ⟨s1, s2, s3, s4, s5, s6⟩ := S
  refine sg_169_0 (cx_202 F S' (fun c => sg_169_5cz ⟨rfl, k0 fun u hu a => by omega⟩) (fun u hu htu => ?_))
  obtain ⟨hl, L, hr, -, -⟩ := s5 u hu
  have hpu := zLadT (t := u) (by omega)
  have hn := hl.1
  have hb := hl.2.2.1
  have q1 := L.1
  have q3 := L.2.2.1
  have one : ∀ u' : Nat, t = (u' : Int) → u' = u := fun u' a => by omega
  have no : ¬ (0 ≤ o ∧ o < zFc (A u).1 ∧ 0 ≤ th ∧ th < ((2 ^ zmb (A u).2.2 (A u).2.1 : Nat) : Int)) → K (some (zI (-1))) h := fun c => k0 fun u' hu' a b1 b2 b3 b4 => by
    have := one u' a
    subst this
    exact c ⟨b1, b2, b3, b4⟩
  have e2 : (0 ≤ th ∧ h (6 + 3 * u) 4 ≤ 20 ∧ th < zishl 1 (h (6 + 3 * u) 4)) ↔ (0 ≤ th ∧ th < ((2 ^ zmb (A u).2.2 (A u).2.1 : Nat) : Int)) := by
    rw [q3, zset_lt hb]
    constructor
    · rintro ⟨a, b, c⟩; exact ⟨a, c⟩
    · rintro ⟨a, b⟩; exact ⟨a, by omega, b⟩
  have e1 : ((2 ≤ h (6 + 3 * u) 2 ∧ h (6 + 3 * u) 2 ≤ 7) ∧ 0 ≤ o ∧ o < zFc (h (6 + 3 * u) 2)) ↔ (0 ≤ o ∧ o < zFc (A u).1) := by
    rw [q1]
    constructor
    · rintro ⟨a, b⟩; exact b
    · intro a; exact ⟨by omega, a⟩
  refine sg_169_5c F hpu (by omega) (fun a => ⟨rfl, no ?_⟩) (fun a b => ?_) (fun a b => ⟨rfl, no ?_⟩)
  · rw [e1] at a
    exact fun c => a ⟨c.1, c.2.1⟩
  · rw [e1] at a
    rw [e2] at b
    have k1 := k1 u hu htu a.1 a.2 b.1 b.2
    have h1 : 2 ^ zmb (A u).2.2 (A u).2.1 ≤ 2 ^ 20 := Nat.pow_le_pow_right (by omega) hb
    have eo : o = ((o.toNat : Nat) : Int) := by omega
    have et : th = ((th.toNat : Nat) : Int) := by omega
    have ho : o.toNat < zfac (A u).1 := by have h9 : o < ((zfac (A u).1 : Nat) : Int) := a.2; omega
    rw [eo, et]
    exact cx_89 F T hpu L hl hr ho (by omega) (sg_169_50c ⟨rfl, k1⟩)
  · rw [e2] at b
    exact fun c => b ⟨c.2.2.1, c.2.2.2⟩
/-- ends -/
theorem cx_170 {t o th v : Int} (F : zFin h) (T : zOT h) (S : zCS h N s A) (k0 : (∀ u : Nat, u < N → t = (u : Int) → 0 ≤ o → o < zFc (A u).1 → 0 ≤ th → th < ((2 ^ zmb (A u).2.2 (A u).2.1 : Nat) : Int) → 0 ≤ v → v < ((A u).1 : Int) → False) → K (some (zI (-1))) h) (k1 : ∀ u : Nat, u < N → t = (u : Int) → 0 ≤ o → o < zFc (A u).1 → 0 ≤ th → th < ((2 ^ zmb (A u).2.2 (A u).2.1 : Nat) : Int) → 0 ≤ v → v < ((A u).1 : Int) → K (some (zI (zp (A u).1 (zru (A u).1 (A u).2.2 th.toNat 9999 (A u).2.1 o.toNat) v.toNat : Int))) h) : zC X 170 [zR 0, zI t, zI o, zI th, zI v] h K := by
  have S' := S
  obtain ⟨s1, s2, s3, s4, s5, s6⟩ := S
  refine sg_170_0 (cx_169 F T S' (fun c => sg_170_7c (cx_202 F S' (fun c2 => sg_170_14cz (fun _ => ⟨rfl, ?_⟩) (fun a => absurd rfl a)) (fun u hu htu => sg_170_14c F (zLadT (t := u) (by omega)) (fun _ => ⟨rfl, ?_⟩) (fun a => absurd rfl a) (fun a => absurd rfl a) (fun a => absurd rfl a)))) (fun u hu htu a1 a2 a3 a4 => sg_170_7c (cx_202 F S' (fun c2 => by omega) (fun u' hu' htu' => ?_))))
  · exact k0 fun u hu a b1 b2 b3 b4 _ _ => c u hu a b1 b2 b3 b4
  · exact k0 fun u hu a b1 b2 b3 b4 _ _ => c u hu a b1 b2 b3 b4
  · have : u' = u := by omega
    subst this
    obtain ⟨hl, L, hr, -, -⟩ := s5 u' hu
    have hpu := zLadT (t := u') (by omega)
    have q1 := L.1
    have hn := hl.1
    have ho : o.toNat < zfac (A u').1 := by have h9 : o < ((zfac (A u').1 : Nat) : Int) := a2; omega
    have hz := zru_lt hl (th := th.toNat) (sk := 9999) ho (A u').2.1 (Nat.le_refl _)
    have h5 := zfac7 hn.2
    generalize hZ : zru (A u').1 (A u').2.2 th.toNat 9999 (A u').2.1 o.toNat = z at *
    refine sg_170_14c F hpu (fun a => by omega) (fun _ => by omega) (fun _ b => ?_) (fun _ b => ⟨rfl, k0 fun u hu' a b1 b2 b3 b4 b5 b6 => ?_⟩)
    · have k1 := k1 u' hu htu a1 a2 a3 a4 (by omega) (by omega)
      rw [hZ] at k1
      have ev : v = ((v.toNat : Nat) : Int) := by omega
      rw [q1, ev]
      refine cx_83 (by omega) (by omega) (by omega) (sg_170_55c ⟨rfl, ?_⟩)
      rw [zlg_p hz (by omega)]
      exact k1
    · have : u = u' := by omega
      subst this
      omega
/-- ways -/
theorem cx_180 {t : Int} (F : zFin h) (S : zCS h N s A) (k0 : ¬ (0 ≤ t ∧ t < (N : Int)) → K (some (zL (-1))) h) (k1 : ∀ u : Nat, u < N → t = (u : Int) → K (some (zL (zways (A u).2.2 (A u).2.1 : Int))) h) : zC X 180 [zR 0, zI t] h K := by
  have S' := S
  obtain ⟨s1, s2, s3, s4, s5, s6⟩ := S
  refine sg_180_0 (cx_202 F S' (fun c => sg_180_5cz ⟨rfl, k0 c⟩) (fun u hu htu => ?_))
  obtain ⟨hl, L, -, -, -⟩ := s5 u hu
  have hpu := zLadT (t := u) (by omega)
  exact sg_180_5c hpu (by omega) (cx_33 F hpu L hl (sg_180_20c ⟨rfl, k1 u hu htu⟩))
/-- write -/
theorem cx_47 {a b c d : Int} {G : Nat} {g : Nat → Int × Int × Int × Int} (F : zFin h) (g0 : zGC h G g) (k0 : G = 40 → K (some (zI (-1))) h) (k1 : G < 40 → ∀ h', zFin h' → zfr [40, 47, 48, 49, 50] h h' → (∀ j, j ≠ 9 → h' 40 j = h 40 j) → zGC h' (G + 1) (zgps g G (a, b, c, d)) → K (some (zI (G : Int))) h') : zC X 47 [zR 40, zI a, zI b, zI c, zI d] h K := by
  obtain ⟨g1, g2, g3⟩ := g0
  have eg : (h 40 9).toNat = G := by omega
  apply sg_47_0 F <;> intros <;> (try omega)
  · rw [eg, show h 40 9 + 1 - 1 = (G : Int) by omega]
    refine ⟨rfl, k1 (by omega) _ (((((F.upA rfl).upA rfl).upA rfl).upA rfl).up rfl) (((((zfr.rfl.up (by simp)).up (by simp)).up (by simp)).up (by simp)).up (by simp)) (fun j hj => (zup_k hj).trans ((zup_c (by decide)).trans ((zup_c (by decide)).trans ((zup_c (by decide)).trans (zup_c (by decide)))))) ⟨?_, by omega, fun i hi => ?_⟩⟩
    · rw [zup_eq]; omega
    · unfold zgps
      by_cases ci : i = G
      · subst ci
        rw [if_pos rfl]
        refine ⟨?_, ?_, ?_, ?_⟩
        · rw [zup_c (by decide), zup_c (by decide), zup_c (by decide), zup_c (by decide), zup_eq]
        · rw [zup_c (by decide), zup_c (by decide), zup_c (by decide), zup_eq]
        · rw [zup_c (by decide), zup_c (by decide), zup_eq]
        · rw [zup_c (by decide), zup_eq]
      · rw [if_neg ci]
        obtain ⟨q1, q2, q3, q4⟩ := g3 i (by omega)
        refine ⟨?_, ?_, ?_, ?_⟩
        · rw [zup_c (by decide), zup_c (by decide), zup_c (by decide), zup_c (by decide), zup_k ci]; exact q1
        · rw [zup_c (by decide), zup_c (by decide), zup_c (by decide), zup_k ci, zup_c (by decide)]; exact q2
        · rw [zup_c (by decide), zup_c (by decide), zup_k ci, zup_c (by decide), zup_c (by decide)]; exact q3
        · rw [zup_c (by decide), zup_k ci, zup_c (by decide), zup_c (by decide), zup_c (by decide)]; exact q4
  · exact ⟨rfl, k0 (by omega)⟩
/-- log -/
theorem cx_184 {t v q : Int} {G : Nat} {g : Nat → Int × Int × Int × Int} (F : zFin h) (S : zCS h N s A) (g0 : zGC h G g) (k0 : (∀ u : Nat, u < N → t = (u : Int) → 0 ≤ v → v < ((A u).1 : Int) → 0 ≤ q → q < ((A u).1 : Int) → G < 40 → False) → K (some (zI (-1))) h) (k1 : ∀ u : Nat, u < N → t = (u : Int) → 0 ≤ v → v < ((A u).1 : Int) → 0 ≤ q → q < ((A u).1 : Int) → G < 40 → ∀ h', zFin h' → zfr [40, 47, 48, 49, 50] h h' → (∀ j, j ≠ 9 → h' 40 j = h 40 j) → zGC h' (G + 1) (zgps g G (t, v, q, -1)) → K (some (zI (G : Int))) h') : zC X 184 [zR 0, zI t, zI v, zI q] h K := by
  have S' := S
  obtain ⟨s1, s2, s3, s4, s5, s6⟩ := S
  refine sg_184_0 (cx_202 F S' (fun c => sg_184_5cz ⟨rfl, k0 fun u hu a => by omega⟩) (fun u hu htu => ?_))
  obtain ⟨hl, L, -, -, -⟩ := s5 u hu
  have hpu := zLadT (t := u) (by omega)
  have q1 := L.1
  have no : ¬ (0 ≤ v ∧ v < ((A u).1 : Int) ∧ 0 ≤ q ∧ q < ((A u).1 : Int) ∧ G < 40) → K (some (zI (-1))) h := fun c => k0 fun u' hu' a b1 b2 b3 b4 b5 => by
    have : u' = u := by omega
    subst this
    exact c ⟨b1, b2, b3, b4, b5⟩
  have gg := g0.2.1
  refine sg_184_5c F hpu (by omega) (fun a => ⟨rfl, no (by omega)⟩) (fun a b => ?_) (fun a b => ⟨rfl, no (by omega)⟩)
  exact cx_47 F g0 (fun c => sg_184_43c ⟨rfl, no (by omega)⟩) (fun c h' F' fr f40 g' => sg_184_43c ⟨rfl, k1 u hu htu (by omega) (by omega) (by omega) (by omega) c h' F' fr f40 g'⟩)
/-- annul -/
theorem cx_185 {l : Int} {G : Nat} {g : Nat → Int × Int × Int × Int} (F : zFin h) (g0 : zGC h G g) (k0 : (∀ i : Nat, l = (i : Int) → i < G → (g i).2.2.2 = -1 → G < 40 → False) → K (some (zI (-1))) h) (k1 : ∀ i : Nat, l = (i : Int) → i < G → (g i).2.2.2 = -1 → G < 40 → ∀ h', zFin h' → zfr [40, 47, 48, 49, 50] h h' → (∀ j, j ≠ 9 → h' 40 j = h 40 j) → zGC h' (G + 1) (zgps g G (-1, -1, -1, l)) → K (some (zI (G : Int))) h') : zC X 185 [zR 0, zI l] h K := by
  have gg := g0
  obtain ⟨g1, g2, g3⟩ := g0
  refine sg_185_0 F (fun a => ⟨rfl, k0 fun i e1 e2 e3 e4 => a ?_⟩) (fun a => ?_)
  · have := (g3 i e2).2.2.2
    rw [show l.toNat = i by omega]
    exact ⟨by omega, by omega, by omega, by omega⟩
  · have e1 : l = ((l.toNat : Nat) : Int) := by omega
    have e2 : l.toNat < G := by omega
    have e3 := (g3 l.toNat e2).2.2.2
    exact cx_47 F gg (fun c => sg_185_22c ⟨rfl, k0 fun i _ _ _ e4 => by omega⟩) (fun c h' F' fr f40 g' => sg_185_22c ⟨rfl, k1 l.toNat e1 e2 (by omega) c h' F' fr f40 g'⟩)
/-- count -/
theorem cx_201 {w : Int} (F : zFin h) (k : K (some (zI (if w = 0 then h 0 12 else if w = 1 then h 40 9 else if w = 2 then h 68 6 else -1))) h) : zC X 201 [zR 0, zI w] h K := by
  apply sg_201_0 <;> intros
  · rw [if_neg (by omega), if_neg (by omega), if_neg (by omega)] at k
    exact sg_201_49 ⟨rfl, k⟩
  · rw [if_pos (by omega)] at k
    exact sg_201_28 ⟨rfl, k⟩
  · rw [if_neg (by omega), if_pos (by omega)] at k
    exact sg_201_33 F ⟨rfl, k⟩
  · rw [if_neg (by omega), if_neg (by omega), if_pos (by omega)] at k
    exact sg_201_41 F ⟨rfl, k⟩
end
