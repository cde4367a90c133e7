/-! WHAT A CALL LEAVES AS IT WAS; the table of exchanges -/
/-- all cells but those of W are as before -/
def zfr (W : List Nat) (h h' : zHP) : Prop := ∀ c, c ∉ W → h' c = h c
theorem zfr.rfl {W : List Nat} {h : zHP} : zfr W h h := fun _ _ => Eq.refl _
theorem zfr.trans {W : List Nat} {h h1 h2 : zHP} (a : zfr W h h1) (b : zfr W h1 h2) : zfr W h h2 := fun c hc => (b c hc).trans (a c hc)
theorem zfr.mono {W W2 : List Nat} {h h1 : zHP} (a : zfr W h h1) (hs : ∀ c ∈ W, c ∈ W2) : zfr W2 h h1 := fun c hc => a c (fun z => hc (hs c z))
theorem zfr.up {W : List Nat} {h h1 : zHP} {a k : Nat} {x : Int} (q : zfr W h h1) (ha : a ∈ W) : zfr W h (zup h1 a k x) := fun c hc => by
  have e : ¬ c = a := fun z => hc (z ▸ ha)
  funext j
  unfold zup
  rw [if_neg e]
  exact congrFun (q c hc) j
theorem zup_eq {h : zHP} {a k : Nat} {x : Int} : zup h a k x a k = x := by unfold zup; rw [if_pos rfl, if_pos rfl]
theorem zup_k {h : zHP} {a k j : Nat} {x : Int} (e : ¬ j = k) : zup h a k x a j = h a j := by unfold zup; rw [if_pos rfl, if_neg e]
theorem zup_c {h : zHP} {a k b j : Nat} {x : Int} (e : ¬ b = a) : zup h a k x b j = h b j := by unfold zup; rw [if_neg e]
/-- the table of exchanges, for orders of up to r -/
def zOTr (h : zHP) (r : Nat) : Prop := ∀ j o, j + 2 ≤ r → o < zfac r → h 2 ((5 - j) * 5040 + o) = (zsj j o : Int)
def zOT (h : zHP) : Prop := ∃ r : Nat, h 1 1 = (r : Int) ∧ (r = 0 ∨ 2 ≤ r) ∧ r ≤ 7 ∧ zOTr h r
theorem zfac_mono : ∀ {a b : Nat}, a ≤ b → zfac a ≤ zfac b := by
  intro a b hab
  induction b with
  | zero => have e : a = 0 := by omega
            subst e; exact Nat.le_refl _
  | succ b ih =>
    by_cases e : a = b + 1
    · subst e; exact Nat.le_refl _
    · have h1 := ih (by omega)
      have h2 : zfac b ≤ zfac (b + 1) := by
        show zfac b ≤ (b + 1) * zfac b
        exact Nat.le_mul_of_pos_left _ (Nat.succ_pos b)
      omega
theorem zckS_at {o : Nat} (ho : o < 5040) {j : Nat} (hj : j < 6) : zsj j o < 5040 ∧ zsj j (zsj j o) = o ∧ (zsj j o < o ↔ zD j o < zD (j + 1) o) ∧ zsj j o ≠ o := by
  have h1 := zbl_spec (zbl_spec zckS_all o ho) j hj
  simp only [Bool.and_eq_true, beq_iff_eq, Bool.not_eq_true'] at h1
  obtain ⟨⟨⟨a, b⟩, c⟩, d⟩ := h1
  refine ⟨Nat.blt_eq.mp a, Nat.eq_of_beq_eq_true b, ?_, fun z => ?_⟩
  · constructor
    · intro z; rw [Nat.blt_eq.mpr z] at c; exact Nat.blt_eq.mp c.symm
    · intro z; rw [Nat.blt_eq.mpr z] at c; exact Nat.blt_eq.mp c
  · rw [z, Nat.beq_refl] at d; cases d
theorem zD_mul_le (j o : Nat) : zD j o * zfac j ≤ o :=
  Nat.le_trans (Nat.mul_le_mul_right _ (Nat.mod_le _ _)) (Nat.div_mul_le_self o (zfac j))
theorem zsj_le {j o : Nat} (hh : zD (j + 1) o ≤ zD j o) : (zsj j o : Int) = ((o : Int) + ((zD j o : Int) + 1 - (zD (j + 1) o : Int)) * (zfac (j + 1) : Int)) + ((zD (j + 1) o : Int) - (zD j o : Int)) * (zfac j : Int) := by
  have e : Nat.blt (zD j o) (zD (j + 1) o) = false := by
    cases hb : Nat.blt (zD j o) (zD (j + 1) o) with
    | false => rfl
    | true => have := Nat.blt_eq.mp hb; omega
  unfold zsj
  rw [e, cond_false]
  obtain ⟨d, hd⟩ := Nat.le.dest hh
  rw [← hd]
  generalize zD (j + 1) o = L at *
  have e1 : L + d + 1 - L = d + 1 := by omega
  have e2 : L + d - L = d := by omega
  rw [e1, e2]
  have hm := zfac_mono (Nat.le_succ j)
  have h1 : d * zfac j ≤ (d + 1) * zfac (j + 1) := Nat.mul_le_mul (by omega) hm
  have h2 : ((L + d : Nat) : Int) + 1 - (L : Int) = ((d + 1 : Nat) : Int) := by omega
  have h3 : (L : Int) - ((L + d : Nat) : Int) = -(d : Int) := by omega
  rw [h2, h3, ← Int.natCast_mul, Int.neg_mul, ← Int.natCast_mul]
  omega
theorem zsj_gt {j o : Nat} (hh : zD j o < zD (j + 1) o) : (zsj j o : Int) = ((o : Int) + ((zD j o : Int) - (zD (j + 1) o : Int)) * (zfac (j + 1) : Int)) + (((zD (j + 1) o : Int) - 1) - (zD j o : Int)) * (zfac j : Int) := by
  have e : Nat.blt (zD j o) (zD (j + 1) o) = true := Nat.blt_eq.mpr hh
  have hm := zD_mul_le (j + 1) o
  unfold zsj
  rw [e, cond_true]
  obtain ⟨d, hd⟩ := Nat.le.dest hh
  have hL : zD (j + 1) o = zD j o + d + 1 := by omega
  rw [hL] at hm ⊢
  generalize zD j o = R at *
  have e1 : R + d + 1 - R = d + 1 := by omega
  have e2 : R + d + 1 - 1 - R = d := by omega
  rw [e1, e2]
  have h1 : (d + 1) * zfac (j + 1) ≤ o := Nat.le_trans (Nat.mul_le_mul_right _ (by omega)) hm
  have h2 : (R : Int) - ((R + d + 1 : Nat) : Int) = -((d + 1 : Nat) : Int) := by omega
  have h3 : ((R + d + 1 : Nat) : Int) - 1 - (R : Int) = (d : Int) := by omega
  rw [h2, h3, Int.neg_mul, ← Int.natCast_mul, ← Int.natCast_mul]
  omega
theorem zbm16 {x : Nat} (hx : x < 5040) : Int.bmod (Int.bmod (x : Int) 65536) 65536 = (x : Int) := by
  have e : Int.bmod (x : Int) 65536 = (x : Int) := by
    rw [Int.bmod_eq_of_le]
    · omega
    · omega
  rw [e, e]
theorem zfac7 {n : Nat} (hn : n ≤ 7) : zfac n ≤ 5040 := zfac_mono hn
/-- what holds of the table while it is filled for n: rows k' < k, and of row k the orders below q -/
def zOTp (h : zHP) (r n k q : Nat) : Prop := zOTr h r ∧ ∀ j o, j + 2 ≤ n → o < zfac n → (n < k + j + 2 ∨ (j + k + 2 = n ∧ o < q)) → h 2 ((5 - j) * 5040 + o) = (zsj j o : Int)
theorem zOTp.put {h : zHP} {r n k q : Nat} (t : zOTp h r n k q) (hr : r ≤ 7) (hn : n ≤ 7) (hk : k + 2 ≤ n) (hq : q < zfac n) : zOTp (zup h 2 ((5 - (n - 2 - k)) * 5040 + q) (zsj (n - 2 - k) q : Int)) r n k (q + 1) := by
  have h7 := zfac7 hn
  have key : ∀ j o, j ≤ 5 → o < 5040 → (h 2 ((5 - j) * 5040 + o) = (zsj j o : Int) ∨ (j = n - 2 - k ∧ o = q)) → zup h 2 ((5 - (n - 2 - k)) * 5040 + q) (zsj (n - 2 - k) q : Int) 2 ((5 - j) * 5040 + o) = (zsj j o : Int) := by
    intro j o hj ho hh
    by_cases e : (5 - j) * 5040 + o = (5 - (n - 2 - k)) * 5040 + q
    · have e1 : j = n - 2 - k := by omega
      have e2 : o = q := by omega
      subst e2
      rw [e1]
      exact zup_eq
    · rw [zup_k e]
      rcases hh with hh | ⟨e1, e2⟩
      · exact hh
      · exact absurd (by rw [e1, e2]) e
  refine ⟨fun j o hj ho => key j o (by omega) (by have := zfac7 hr; omega) (Or.inl (t.1 j o hj ho)), fun j o hj ho hh => key j o (by omega) (by omega) ?_⟩
  by_cases e : j = n - 2 - k ∧ o = q
  · exact Or.inr e
  · exact Or.inl (t.2 j o hj ho (by omega))
section
variable {X : List Int} {h : zHP} {K : Option zAV → zHP → Prop}
/-- prepare -/
theorem cx_85 {n : Nat} (F : zFin h) (T : zOT h) (k : ∀ h', zFin h' → zOT h' → h 1 1 ≤ h' 1 1 → (zfits n → (n : Int) ≤ h' 1 1) → zfr [1, 2] h h' → K none h') : zC X 85 [zR 1, zI n] h K := by
  obtain ⟨r, e0, hr0, hr7, T⟩ := T
  have go1 : ∀ (m q kk : Nat) (h1 : zHP), 2 ≤ n → n ≤ 7 → r < n → kk + 2 ≤ n → zfac n - q = m → q ≤ zfac n → zFin h1 → h1 1 1 = (n : Int) → zfr [1, 2] h h1 → zOTp h1 r n kk q →
      (∀ h2, zFin h2 → h2 1 1 = (n : Int) → zfr [1, 2] h h2 → zOTp h2 r n (kk + 1) 0 → zAt X 85 23 0 0 [some (zR 1), some (zI n), some (zI ((kk + 1 : Nat) : Int)), none, none, none, none, none, none, none, none] [] zSHc h2 (fun v sh' h' => sh' = zSHc ∧ K v h')) →
      zAt X 85 66 0 0 [some (zR 1), some (zI n), some (zI kk), some (zI (((5 - (n - 2 - kk)) * 5040 : Nat) : Int)), some (zI (zfac (n - 2 - kk + 1) : Int)), some (zI (zfac (n - 2 - kk) : Int)), some (zI q), none, none, none, none] [] zSHc h1 (fun v sh' h' => sh' = zSHc ∧ K v h') := by
    intro m
    induction m with
    | zero =>
      intro q kk h1 hn2 hn7 hrn hk hm hq F1 hn1 fr P nx
      have e : q = zfac n := by omega
      subst e
      have ef : zCk X 1000 ((n : Int).toNat) = (zfac n : Int) := by rw [Int.toNat_natCast]; exact zck_fac (by omega)
      refine sg_85_66 (by omega) (fun _ => by omega) (fun _ => ?_) (fun a => by rw [ef] at a; omega)
      refine nx h1 F1 hn1 fr ⟨P.1, fun j o hj ho hh => P.2 j o hj ho ?_⟩
      rcases hh with hh | hh
      · by_cases e : n < kk + j + 2
        · exact Or.inl e
        · exact Or.inr ⟨by omega, ho⟩
      · omega
    | succ m ih =>
      intro q kk h1 hn2 hn7 hrn hk hm hq F1 hn1 fr P nx
      have h7 := zfac7 hn7
      have ef : zCk X 1000 ((n : Int).toNat) = (zfac n : Int) := by rw [Int.toNat_natCast]; exact zck_fac (by omega)
      have hq5 : q < 5040 := by omega
      obtain ⟨s1, -⟩ := zckS_at hq5 (j := n - 2 - kk) (by omega)
      have eL : n - 1 - kk = n - 2 - kk + 1 := by omega
      have eR : n - 1 - (kk + 1) = n - 2 - kk := by omega
      have ek : (kk : Int) + 1 = ((kk + 1 : Nat) : Int) := by omega
      have L1 := zD_lt (n - 2 - kk + 1) q
      have R1 := zD_lt (n - 2 - kk) q
      have f1 : zfac (n - 2 - kk + 1) ≤ 5040 := zfac7 (by omega)
      have f0 : zfac (n - 2 - kk) ≤ 5040 := zfac7 (by omega)
      have nxt := ih (q + 1) kk (zup h1 2 ((5 - (n - 2 - kk)) * 5040 + q) (zsj (n - 2 - kk) q : Int)) hn2 hn7 hrn hk (by omega) (by omega) (F1.upA rfl) hn1 (fr.up (List.mem_cons_of_mem _ List.mem_cons_self)) (P.put hr7 hn7 hk (by omega)) nx
      have et : ((((5 - (n - 2 - kk)) * 5040 : Nat) : Int) + (q : Int)).toNat = (5 - (n - 2 - kk)) * 5040 + q := by omega
      have eq1 : (q : Int) + 1 = ((q + 1 : Nat) : Int) := by omega
      have mulb : ∀ (x f : Int), -8 ≤ x → x ≤ 8 → 0 ≤ f → f ≤ 5040 → -40320 ≤ x * f ∧ x * f ≤ 40320 := fun x f a b c d => by
        have h1 : x * f ≤ 8 * f := Int.mul_le_mul_of_nonneg_right b c
        have h2 : (-8) * f ≤ x * f := Int.mul_le_mul_of_nonneg_right a c
        omega
      refine sg_85_66 (by omega) (fun a => by rw [ef] at a; omega) (fun a => by rw [ef] at a; omega) (fun a => cx_80 hn7 (by omega) (by omega) (sg_85_84c (by omega) ?_))
      rw [ek]
      refine cx_80 hn7 (by omega) (by omega) ?_
      rw [eL, eR]
      have m1 := mulb ((zD (n - 2 - kk) q : Int) + 1 - (zD (n - 2 - kk + 1) q : Int)) (zfac (n - 2 - kk + 1) : Int) (by omega) (by omega) (by omega) (by omega)
      have m2 := mulb ((zD (n - 2 - kk + 1) q : Int) - (zD (n - 2 - kk) q : Int)) (zfac (n - 2 - kk) : Int) (by omega) (by omega) (by omega) (by omega)
      have m3 := mulb ((zD (n - 2 - kk) q : Int) - (zD (n - 2 - kk + 1) q : Int)) (zfac (n - 2 - kk + 1) : Int) (by omega) (by omega) (by omega) (by omega)
      have m4 := mulb ((zD (n - 2 - kk + 1) q : Int) - 1 - (zD (n - 2 - kk) q : Int)) (zfac (n - 2 - kk) : Int) (by omega) (by omega) (by omega) (by omega)
      refine sg_85_96c F1 (fun _ => by omega) (fun _ => by omega) (fun _ => by omega) (fun _ => by omega) (fun _ => by omega) (fun _ => by omega) (fun _ => by omega) (fun _ => by omega) (fun _ => by omega) (fun _ => by omega) (fun a => ?_) (fun _ => by omega) (fun _ => by omega) (fun _ => by omega) (fun _ => by omega) (fun _ => by omega) (fun _ => by omega) (fun _ => by omega) (fun _ => by omega) (fun _ => by omega) (fun _ => by omega) (fun a => ?_)
      · rw [← zsj_le (by omega), zbm16 s1, et, eq1]
        exact nxt
      · rw [← zsj_gt (by omega), zbm16 s1, et, eq1]
        exact nxt
  have go2 : ∀ (m kk : Nat) (h1 : zHP), 2 ≤ n → n ≤ 7 → r < n → n - 1 - kk = m → kk + 1 ≤ n → zFin h1 → h1 1 1 = (n : Int) → zfr [1, 2] h h1 → zOTp h1 r n kk 0 →
      zAt X 85 23 0 0 [some (zR 1), some (zI n), some (zI kk), none, none, none, none, none, none, none, none] [] zSHc h1 (fun v sh' h' => sh' = zSHc ∧ K v h') := by
    intro m
    induction m with
    | zero =>
      intro kk h1 hn2 hn7 hrn hm hk F1 hn1 fr P
      refine sg_85_23 (by omega) (fun _ => ⟨rfl, k h1 F1 ⟨n, hn1, Or.inr hn2, hn7, fun j o hj ho => P.2 j o hj ho ?_⟩ (by omega) (fun _ => by omega) fr⟩) (fun _ => by omega) (fun _ => by omega) (fun _ => by omega) (fun _ => by omega) (fun _ => by omega) (fun _ => by omega) (fun _ => by omega) (fun _ => by omega) (fun a => by omega)
      omega
    | succ m ih =>
      intro kk h1 hn2 hn7 hrn hm hk F1 hn1 fr P
      have ea : ((kk : Int) + 7 - n) * 5040 = (((5 - (n - 2 - kk)) * 5040 : Nat) : Int) := by omega
      have eb : zCk X 1000 (((n : Int) - 1 - kk).toNat) = (zfac (n - 2 - kk + 1) : Int) := by
        rw [show ((n : Int) - 1 - kk).toNat = n - 2 - kk + 1 by omega]; exact zck_fac (by omega)
      have ec : zCk X 1000 (((n : Int) - 2 - kk).toNat) = (zfac (n - 2 - kk) : Int) := by
        rw [show ((n : Int) - 2 - kk).toNat = n - 2 - kk by omega]; exact zck_fac (by omega)
      refine sg_85_23 (by omega) (fun a => by omega) (fun _ => by omega) (fun _ => by omega) (fun _ => by omega) (fun _ => by omega) (fun _ => by omega) (fun _ => by omega) (fun _ => by omega) (fun _ => by omega) (fun a => ?_)
      rw [ea, eb, ec]
      exact go1 (zfac n) 0 kk h1 hn2 hn7 hrn (by omega) (by omega) (by omega) F1 hn1 fr P fun h2 F2 hn2' fr2 P2 => ih (kk + 1) h2 hn2 hn7 hrn (by omega) (by omega) F2 hn2' fr2 P2
  refine sg_85_0 (fun a => ⟨rfl, k h F ⟨r, e0, hr0, hr7, T⟩ (Int.le_refl _) (fun _ => a) zfr.rfl⟩) (fun a => cx_77 (sg_85_12c (fun b => ?_) (fun b => ⟨rfl, ?_⟩)))
  · rw [zb1] at b
    refine go2 (n - 1) 0 _ (by omega) (by omega) (by omega) (by omega) (by omega) (F.up rfl) zup_eq (zfr.rfl.up List.mem_cons_self) ⟨fun j o hj ho => ?_, fun j o hj ho hh => by omega⟩
    rw [zup_c (by decide)]
    exact T j o hj ho
  · rw [zb0] at b
    exact k h F ⟨r, e0, hr0, hr7, T⟩ (Int.le_refl _) (fun z => absurd z b) zfr.rfl
end
