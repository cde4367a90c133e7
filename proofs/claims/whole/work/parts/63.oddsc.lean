/-! stretches -/
set_option maxRecDepth 200000 in
theorem sg_72_0 {X : List Int} {h : zHP} {Q : zPO} {o : Nat} (hp_o : zOdd o) (k1 : Q (some (zI (h o 7))) zSHc h) : zAt X 72 0 0 0 [some (zR o)] [] zSHc h Q :=
  zAt.go (zAt.go (⟨zOdd.s0 hp_o, zcI (zrd_lo (zOdd.l0 hp_o)) (zAt.go (⟨trivial, k1⟩))⟩))
/-! THE CLASS: ODDS -/
/-- what an object of odds keeps, for the ladders on the shelf -/
def zQV (h : zHP) (o N s : Nat) (A : Nat → Nat × Nat × zel) : Prop := zOR h o ∧ h o 9 ≤ (s : Int) ∧ ∀ u, u < N → ∀ o0, o0 < zfac (A u).1 → h (6 + 3 * u) 5 = h o 9 → (o0 : Int) = h o 10 → zOC h o (A u).1 (A u).2.1 (A u).2.2 o0
section
variable {X : List Int} {h : zHP} {K : Option zAV → zHP → Prop} {N s : Nat} {A : Nat → Nat × Nat × zel}
/-- look -/
theorem cx_68q {u o0 o : Nat} (F : zFin h) (T : zOT h) (S : zCS h N s A) (hp : zOdd o) (V : zQV h o N s A) (hu : u < N) (ho : o0 < zfac (A u).1) (k : ∀ h', zFin h' → zfr [o, o + 1, o + 2, o + 3, o + 4, o + 5] h h' → zQV h' o N s A → zOC h' o (A u).1 (A u).2.1 (A u).2.2 o0 → K none h') : zC X 68 [zR o, zR (6 + 3 * u), zI o0] h K := by
  obtain ⟨s1, s2, s3, s4, s5, s6⟩ := S
  obtain ⟨hl, L, hr, st1, st2⟩ := s5 u hu
  have hpu := zLadT (t := u) (by omega)
  refine cx_68 F T hp hpu V.1 L hl hr ho (fun a b => V.2.2 u hu o0 ho a b) fun h' F' fr C e9 e10 => ?_
  have hn : ∀ t, t < N → h' (6 + 3 * t) = h (6 + 3 * t) := fun t ht => fr _ (by
    have h34 : o = 34 ∨ o = 41 := hp
    simp
    omega)
  refine k h' F' fr ⟨C.r, by rw [e9]; exact st2, fun t ht o1 ho1 z1 z2 => ?_⟩ C
  rw [hn t ht, e9] at z1
  have et := s6 t u ht hu z1
  subst et
  have eo : o1 = o0 := by omega
  rw [eo]
  exact C
/-- oddsOf -/
theorem cx_182 {t o w : Int} (F : zFin h) (T : zOT h) (S : zCS h N s A) (V : zQV h 34 N s A) (k0 : (∀ u : Nat, u < N → t = (u : Int) → 0 ≤ o → o < zFc (A u).1 → 0 ≤ w → w < zFc (A u).1 → False) → K (some (zL (-1))) h) (k1 : ∀ u : Nat, u < N → t = (u : Int) → 0 ≤ o → o < zFc (A u).1 → 0 ≤ w → w < zFc (A u).1 → ∀ h', zFin h' → zfr [34, 35, 36, 37, 38, 39] h h' → zQV h' 34 N s A → K (some (zL (zww (A u).1 (A u).2.2 o.toNat (A u).2.1 w.toNat : Int))) h') : zC X 182 [zR 0, zI t, zI o, zI w] h K := by
  have S' := S
  obtain ⟨s1, s2, s3, s4, s5, s6⟩ := S
  refine sg_182_0 (cx_202 F S' (fun c => sg_182_5cz ⟨rfl, k0 fun u hu a => by omega⟩) (fun u hu htu => ?_))
  obtain ⟨hl, L, hr, -, -⟩ := s5 u hu
  have hpu := zLadT (t := u) (by omega)
  have hn := hl.1
  have q1 := L.1
  have one : ∀ u' : Nat, t = (u' : Int) → u' = u := fun u' a => by omega
  have e1 : ∀ o : Int, ((2 ≤ h (6 + 3 * u) 2 ∧ h (6 + 3 * u) 2 ≤ 7) ∧ 0 ≤ o ∧ o < zFc (h (6 + 3 * u) 2)) ↔ (0 ≤ o ∧ o < zFc (A u).1) := fun o => by
    rw [q1]
    constructor
    · rintro ⟨a, b⟩; exact b
    · intro a; exact ⟨by omega, a⟩
  refine sg_182_5c F hpu (by omega) (fun a => ⟨rfl, k0 fun u' _ b z1 z2 _ _ => ?_⟩) (fun a b => ?_) (fun _ a => ⟨rfl, k0 fun u' _ b _ _ z1 z2 => ?_⟩)
  · rw [one u' b] at z2; rw [e1] at a; exact a ⟨z1, z2⟩
  · rw [e1] at a b
    have eo : o = ((o.toNat : Nat) : Int) := by omega
    have ew : w = ((w.toNat : Nat) : Int) := by omega
    have ho : o.toNat < zfac (A u).1 := by have h9 : o < ((zfac (A u).1 : Nat) : Int) := a.2; omega
    have hw : w.toNat < zfac (A u).1 := by have h9 : w < ((zfac (A u).1 : Nat) : Int) := b.2; omega
    have kk := k1 u hu htu a.1 a.2 b.1 b.2
    rw [eo, ew]
    refine cx_68q F T S' (Or.inl rfl) V hu ho fun h' F' fr V' C => sg_182_58c F' ?_
    have kk := kk h' F' fr V'
    obtain ⟨r1, r2, r3, r4, c, E, W, hD, f1, f2, f3, f4, B, hW, h8, hs⟩ := C
    rw [← hW _ hw] at kk
    exact cx_74 F' (Or.inl rfl) hD f4 B hn.2 hw (sg_182_66c ⟨rfl, kk⟩)
  · rw [one u' b] at z2; rw [e1] at a; exact a ⟨z1, z2⟩
/-- possible -/
theorem cx_183 {t o : Int} (F : zFin h) (T : zOT h) (S : zCS h N s A) (V : zQV h 34 N s A) (k0 : (∀ u : Nat, u < N → t = (u : Int) → 0 ≤ o → o < zFc (A u).1 → False) → K (some (zI (-1))) h) (k1 : ∀ u : Nat, u < N → t = (u : Int) → 0 ≤ o → o < zFc (A u).1 → ∀ h', zFin h' → zfr [34, 35, 36, 37, 38, 39] h h' → zQV h' 34 N s A → K (some (zI (zsu (fun v => if 0 < zww (A u).1 (A u).2.2 o.toNat (A u).2.1 v then 1 else 0) (zfac (A u).1) : Nat))) h') : zC X 183 [zR 0, zI t, zI o] h K := by
  have S' := S
  obtain ⟨s1, s2, s3, s4, s5, s6⟩ := S
  refine sg_183_0 (cx_202 F S' (fun c => sg_183_5cz ⟨rfl, k0 fun u hu a => by omega⟩) (fun u hu htu => ?_))
  obtain ⟨hl, L, hr, -, -⟩ := s5 u hu
  have hpu := zLadT (t := u) (by omega)
  have hn := hl.1
  have q1 := L.1
  have one : ∀ u' : Nat, t = (u' : Int) → u' = u := fun u' a => by omega
  have e1 : ∀ o : Int, ((2 ≤ h (6 + 3 * u) 2 ∧ h (6 + 3 * u) 2 ≤ 7) ∧ 0 ≤ o ∧ o < zFc (h (6 + 3 * u) 2)) ↔ (0 ≤ o ∧ o < zFc (A u).1) := fun o => by
    rw [q1]
    constructor
    · rintro ⟨a, b⟩; exact b
    · intro a; exact ⟨by omega, a⟩
  refine sg_183_5c F hpu (by omega) (fun a => ?_) (fun a => ⟨rfl, k0 fun u' _ b z1 z2 => ?_⟩)
  · rw [e1] at a
    have eo : o = ((o.toNat : Nat) : Int) := by omega
    have ho : o.toNat < zfac (A u).1 := by have h9 : o < ((zfac (A u).1 : Nat) : Int) := a.2; omega
    have kk := k1 u hu htu a.1 a.2
    rw [eo]
    refine cx_68q F T S' (Or.inl rfl) V hu ho fun h' F' fr V' C => sg_183_36c F' (sg_72_0 (Or.inl rfl) ⟨rfl, sg_183_43c ⟨rfl, ?_⟩⟩)
    have kk := kk h' F' fr V'
    obtain ⟨r1, r2, r3, r4, c, E, W, hD, f1, f2, f3, f4, B, hW, h8, hs⟩ := C
    rw [zsu_congr (g := fun v => if 0 < zwt E W c v then 1 else 0) (fun v hv => by rw [hW v hv]), zwt_count (fun i hi => (B.2.1 i hi).1) B.2.2.1, ← B.1] at kk
    exact kk
  · rw [one u' b] at z2; rw [e1] at a; exact a ⟨z1, z2⟩
/-- odds -/
theorem cx_181 {t o v q : Int} (F : zFin h) (T : zOT h) (S : zCS h N s A) (V : zQV h 34 N s A) (k0 : (∀ u : Nat, u < N → t = (u : Int) → 0 ≤ o → o < zFc (A u).1 → 0 ≤ v → v < ((A u).1 : Int) → 0 ≤ q → q < ((A u).1 : Int) → False) → K (some (zL (-1))) h) (k1 : ∀ u : Nat, u < N → t = (u : Int) → 0 ≤ o → o < zFc (A u).1 → 0 ≤ v → v < ((A u).1 : Int) → 0 ≤ q → q < ((A u).1 : Int) → ∀ h', zFin h' → zfr [34, 35, 36, 37, 38, 39] h h' → zQV h' 34 N s A → K (some (zL (zod (A u).1 (A u).2.2 o.toNat (A u).2.1 v.toNat q.toNat : Int))) h') : zC X 181 [zR 0, zI t, zI o, zI v, zI q] h K := by
  have S' := S
  obtain ⟨s1, s2, s3, s4, s5, s6⟩ := S
  refine sg_181_0 (cx_202 F S' (fun c => sg_181_5cz ⟨rfl, k0 fun u hu a => by omega⟩) (fun u hu htu => ?_))
  obtain ⟨hl, L, hr, -, -⟩ := s5 u hu
  have hpu := zLadT (t := u) (by omega)
  have hn := hl.1
  have q1 := L.1
  have one : ∀ u' : Nat, t = (u' : Int) → u' = u := fun u' a => by omega
  have e1 : ∀ o : Int, ((2 ≤ h (6 + 3 * u) 2 ∧ h (6 + 3 * u) 2 ≤ 7) ∧ 0 ≤ o ∧ o < zFc (h (6 + 3 * u) 2)) ↔ (0 ≤ o ∧ o < zFc (A u).1) := fun o => by
    rw [q1]
    constructor
    · rintro ⟨a, b⟩; exact b
    · intro a; exact ⟨by omega, a⟩
  refine sg_181_5c F hpu (by omega) (fun a => ⟨rfl, k0 fun u' _ b z1 z2 _ _ _ _ => ?_⟩) (fun _ a => ⟨rfl, k0 fun u' _ b _ _ z1 z2 _ _ => ?_⟩) (fun a b1 b2 => ?_) (fun _ _ a => ⟨rfl, k0 fun u' _ b _ _ _ _ z1 z2 => ?_⟩)
  · rw [one u' b] at z2; rw [e1] at a; exact a ⟨z1, z2⟩
  · rw [one u' b] at z2; exact a ⟨z1, by rw [q1]; exact z2⟩
  · rw [e1] at a
    rw [q1] at b1 b2
    have eo : o = ((o.toNat : Nat) : Int) := by omega
    have ev : v = ((v.toNat : Nat) : Int) := by omega
    have eq : q = ((q.toNat : Nat) : Int) := by omega
    have ho : o.toNat < zfac (A u).1 := by have h9 : o < ((zfac (A u).1 : Nat) : Int) := a.2; omega
    have kk := k1 u hu htu a.1 a.2 b1.1 b1.2 b2.1 b2.2
    rw [eo, ev, eq]
    refine cx_68q F T S' (Or.inl rfl) V hu ho fun h' F' fr V' C => sg_181_61c F' ?_
    have kk := kk h' F' fr V'
    obtain ⟨r1, r2, r3, r4, c, E, W, hD, f1, f2, f3, f4, B, hW, h8, hs⟩ := C
    have hz := (zways_le hl _ (Nat.le_refl _)).1
    have h4 : 4 ^ zmb (A u).2.2 (A u).2.1 ≤ 4 ^ 20 := Nat.pow_le_pow_right (by decide) hl.2.2.1
    have h6 : 4 ^ 20 = 1099511627776 := by decide
    refine cx_75 F' (Or.inl rfl) hD f3 f4 h8 B hn.2 (by omega) (by omega) (sg_181_71c ⟨rfl, ?_⟩)
    rw [zwt_fold (P := fun w => zp (A u).1 w v.toNat = q.toNat) (fun i hi => (B.2.1 i hi).1.1) (fun w hw => (hW w hw).symm)]
    exact kk
  · rw [one u' b] at z2; exact a ⟨z1, by rw [q1]; exact z2⟩
end
