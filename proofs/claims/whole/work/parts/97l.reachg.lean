/-! THE CLASS: WHAT IS REACHED IN THE GRAPH -/
theorem znd_len : ∀ (N : Nat) (L : List Nat), L.Nodup → (∀ j, j ∈ L → j < N) → L.length ≤ N := by
  intro N
  induction N with
  | zero =>
    intro L _ h
    cases L with
    | nil => exact Nat.le_refl _
    | cons a L => exact absurd (h a (List.mem_cons_self ..)) (Nat.not_lt_zero _)
  | succ N ih =>
    intro L nd h
    have := ih (L.erase N) (nd.erase N) fun j hj => by
      have a := (nd.mem_erase_iff).mp hj
      have b := h j a.2
      have c := a.1
      omega
    by_cases c : N ∈ L
    · rw [List.length_erase_of_mem c] at this
      omega
    · rw [List.erase_of_not_mem c] at this
      omega
def zBS (h : zHP) (N : Nat) (L : List Nat) (D : Nat → Int) : Prop := h 24 7 = (L.length : Int) ∧ (∀ i, i < L.length → h 27 i = (L.getD i 0 : Nat)) ∧ (∀ i, i < N → h 26 i = D i) ∧ L.Nodup ∧ ∀ j, j ∈ L ↔ j < N ∧ D j ≠ -1
/-- those of P that were not reached yet are reached -/
def zBr (N : Nat) (P : Nat → Prop) (s : Int) (L L' : List Nat) (D D' : Nat → Int) : Prop := ∃ M, L' = L ++ M ∧ (∀ j, j ∈ M ↔ j < N ∧ P j ∧ D j = -1) ∧ (∀ j, j ∈ M → D' j = s) ∧ ∀ j, ¬ j ∈ M → D' j = D j
theorem zBr.rf {N : Nat} {P : Nat → Prop} {s : Int} {L : List Nat} {D : Nat → Int} (h : ∀ j, j < N → D j = -1 → ¬ P j) : zBr N P s L L D D := ⟨[], (List.append_nil _).symm, fun j => ⟨fun z => (by cases z), fun z => absurd z.2.1 (h j z.1 z.2.2)⟩, fun j z => (by cases z), fun j _ => rfl⟩
theorem zBr.cg {N : Nat} {P Q : Nat → Prop} {s : Int} {L L' : List Nat} {D D' : Nat → Int} (B : zBr N P s L L' D D') (h : ∀ j, j < N → (P j ↔ Q j)) : zBr N Q s L L' D D' := by
  obtain ⟨M, a, b, c, d⟩ := B
  exact ⟨M, a, fun j => (b j).trans ⟨fun z => ⟨z.1, (h j z.1).mp z.2.1, z.2.2⟩, fun z => ⟨z.1, (h j z.1).mpr z.2.1, z.2.2⟩⟩, c, d⟩
theorem zBr.tr {N : Nat} {P Q : Nat → Prop} {s : Int} {L L1 L2 : List Nat} {D D1 D2 : Nat → Int} (hs : s ≠ -1) (B : zBr N P s L L1 D D1) (B2 : zBr N Q s L1 L2 D1 D2) : zBr N (fun j => P j ∨ Q j) s L L2 D D2 := by
  obtain ⟨M, a, b, c, d⟩ := B
  obtain ⟨M2, a2, b2, c2, d2⟩ := B2
  refine ⟨M ++ M2, by rw [a2, a, List.append_assoc], fun j => ?_, fun j hj => ?_, fun j hj => ?_⟩
  · rw [List.mem_append]
    constructor
    · rintro (z | z)
      · have := (b j).mp z
        exact ⟨this.1, Or.inl this.2.1, this.2.2⟩
      · have q := (b2 j).mp z
        have nm : ¬ j ∈ M := fun y => by
          have := c j y
          rw [q.2.2] at this
          exact hs this.symm
        rw [d j nm] at q
        exact ⟨q.1, Or.inr q.2.1, q.2.2⟩
    · rintro ⟨z1, z2, z3⟩
      by_cases y : j ∈ M
      · exact Or.inl y
      · rcases z2 with z2 | z2
        · exact Or.inl ((b j).mpr ⟨z1, z2, z3⟩)
        · exact Or.inr ((b2 j).mpr ⟨z1, z2, by rw [d j y]; exact z3⟩)
  · by_cases y : j ∈ M2
    · exact c2 j y
    · rw [d2 j y]
      rcases List.mem_append.mp hj with z | z
      · exact c j z
      · exact absurd z y
  · rw [d2 j (fun z => hj (List.mem_append.mpr (Or.inr z))), d j (fun z => hj (List.mem_append.mpr (Or.inl z)))]
def zGz (h h' : zHP) : Prop := zFin h' ∧ zfr [24, 26, 27] h h' ∧ ∀ c, c ≠ 7 → h' 24 c = h 24 c
theorem zGz.rf {h : zHP} (F : zFin h) : zGz h h := ⟨F, zfr.rfl, fun _ _ => rfl⟩
theorem zGz.tr {h h1 h2 : zHP} (a : zGz h h1) (b : zGz h1 h2) : zGz h h2 := ⟨b.1, a.2.1.trans b.2.1, fun c hc => (b.2.2 c hc).trans (a.2.2 c hc)⟩
theorem zGG.gz {h h' : zHP} {n o : Nat} (G : zGG h n o) (y : zGz h h') : zGG h' n o := G.keep (y.2.2 5 (by decide)) (y.2.2 6 (by decide)) fun r => by rw [y.2.1 25 (by decide)]
theorem zwf_at {f : Nat → Nat} {i : Nat} : ∀ m, (∀ j, j < m → f j < 8) → i < m → zwf f m / 8 ^ (m - 1 - i) % 8 = f i
  | 0, _, h => by omega
  | m + 1, hf, h => by
    have h2 := hf m (by omega)
    have e : zwf f (m + 1) = zwf f m * 8 + f m := rfl
    by_cases c : i = m
    · rw [c, show m + 1 - 1 - m = 0 by omega, Nat.pow_zero, Nat.div_one, e]
      omega
    · have ih := zwf_at m (fun j hj => hf j (by omega)) (show i < m by omega)
      rw [show m + 1 - 1 - i = (m - 1 - i) + 1 by omega, Nat.pow_succ, Nat.mul_comm, ← Nat.div_div_eq_div_mul, e, show (zwf f m * 8 + f m) / 8 = zwf f m by omega]
      exact ih
theorem zwf_63 {f : Nat → Nat} {m : Nat} (hf : ∀ j, j < m → f j < 8) (hm : m ≤ 21) : zwf f m < 9223372036854775808 := Nat.lt_of_lt_of_le (zwf_lt m hf) (Nat.pow_le_pow_right (show 0 < 8 by decide) hm)
section
variable {X : List Int} {h : zHP} {K : Option zAV → zHP → Prop}
theorem cx_let {f : Nat → Nat} {m i : Nat} {x y z : Int} (hf : ∀ j, j < m → f j < 8) (hm : m ≤ 21) (hi : i < m) (hx : x = (zwf f m : Int)) (hy : y = (m : Int)) (hz : z = (i : Int)) (k : K (some (zI (f i : Int))) h) : zC X 147 [zL x, zI y, zI z] h K := by
  rw [hx, hy, hz]
  refine cx_147 (zwf_63 hf hm) hi hm ?_
  rw [zwf_at m hf hi]
  exact k
/-- reach -/
theorem cx_152 {N i : Nat} {L : List Nat} {D : Nat → Int} {x s : Int} (F : zFin h) (h5 : h 24 5 = (N : Int)) (hN : N ≤ 800) (B : zBS h N L D) (hi : i < N) (hx : x = (i : Int)) (k : ∀ h' L' D', zBr N (fun j => j = i) s L L' D D' → (s ≠ -1 → zBS h' N L' D') → zGz h h' → K none h') : zC X 152 [zR 24, zI x, zI s] h K := by
  obtain ⟨b1, b2, b3, b4, b5⟩ := B
  have ei : x.toNat = i := by omega
  have e26 : h 26 x.toNat = D i := by rw [ei]; exact b3 i hi
  by_cases c : D i = -1
  · have ni : ¬ i ∈ L := fun z => ((b5 i).mp z).2 c
    have len : L.length + 1 ≤ N := by
      have := znd_len N (i :: L) (List.nodup_cons.mpr ⟨ni, b4⟩) fun j hj => by
        rcases List.mem_cons.mp hj with z | z
        · rw [z]; exact hi
        · exact ((b5 j).mp z).1
      exact this
    have kk := k (zup (zup (zup h 26 i s) 27 L.length (i : Int)) 24 7 ((L.length + 1 : Nat) : Int)) (L ++ [i]) (fun j => if j = i then s else D j) ⟨[i], rfl, fun j => by
      rw [List.mem_singleton]
      exact ⟨fun z => ⟨by rw [z]; exact hi, z, by rw [z]; exact c⟩, fun z => z.2.1⟩, fun j hj => if_pos (List.mem_singleton.mp hj), fun j hj => if_neg fun z => hj (List.mem_singleton.mpr z)⟩ (fun hs => by
      refine ⟨by rw [zup_eq, List.length_append]; rfl, fun q hq => ?_, fun q hq => ?_, ?_, fun j => ?_⟩
      · rw [List.length_append] at hq
        have hq : q < L.length + 1 := hq
        rw [zup_c (by decide)]
        by_cases d : q = L.length
        · rw [d, zup_eq, List.getD_eq_getElem?_getD, List.getElem?_append_right (Nat.le_refl _), Nat.sub_self]
          rfl
        · rw [zup_k d, zup_c (by decide), b2 q (by omega), List.getD_eq_getElem?_getD, List.getD_eq_getElem?_getD, List.getElem?_append_left (by omega)]
      · rw [zup_c (by decide), zup_c (by decide)]
        show _ = if q = i then s else D q
        by_cases d : q = i
        · rw [d, zup_eq, if_pos rfl]
        · rw [zup_k d, if_neg d]; exact b3 q hq
      · rw [List.nodup_append]
        exact ⟨b4, by simp, fun a ha b hb z => by rw [List.mem_singleton.mp hb] at z; rw [z] at ha; exact ni ha⟩
      · rw [List.mem_append, List.mem_singleton]
        show _ ↔ j < N ∧ (if j = i then s else D j) ≠ -1
        by_cases d : j = i
        · rw [if_pos d]
          exact ⟨fun _ => ⟨by omega, hs⟩, fun _ => Or.inr d⟩
        · rw [if_neg d]
          exact ⟨fun z => (b5 j).mp (z.resolve_right d), fun z => Or.inl ((b5 j).mpr z)⟩) ⟨((F.upA zfa_26).upA zfa_27).up (by decide), (((zfr.rfl).up (by simp)).up (by simp)).up (by simp), fun q hq => by rw [zup_k hq, zup_c (by decide), zup_c (by decide)]⟩
    refine sg_152_0 F (fun z => by omega) (fun _ z => by omega) (fun _ _ z => by omega) (fun _ _ _ => by omega) (fun _ _ _ z => absurd (e26.trans c) z) (fun _ _ _ _ z => by omega) (fun _ _ _ _ _ _ => by omega) (fun _ _ _ _ _ _ => by omega) (fun _ _ _ _ _ _ => ⟨rfl, ?_⟩) (fun _ _ _ _ _ z => by omega)
    rw [ei, b1, hx, show ((L.length : Nat) : Int).toNat = L.length by omega]
    exact kk
  · have kk := k h L D (zBr.rf fun j _ hj z => c (by rw [← z]; exact hj)) (fun _ => ⟨b1, b2, b3, b4, b5⟩) (zGz.rf F)
    exact sg_152_0 F (fun z => by omega) (fun _ z => by omega) (fun _ _ z => by omega) (fun _ _ _ => by omega) (fun _ _ _ _ => ⟨rfl, kk⟩) (fun _ _ _ z => absurd (e26.symm.trans z) c) (fun _ _ _ z => absurd (e26.symm.trans z) c) (fun _ _ _ z => absurd (e26.symm.trans z) c) (fun _ _ _ z => absurd (e26.symm.trans z) c) (fun _ _ _ z => absurd (e26.symm.trans z) c)
end
