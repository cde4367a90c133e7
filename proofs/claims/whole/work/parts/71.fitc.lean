/-! THE CLASS: fitting, likely, next -/
theorem zfq_sum {n : Nat} {W : Nat → Nat} (hn : 2 ≤ n ∧ n ≤ 7) : zsu (zfq n W 0) 7 = zsu W (zfac n) := by
  have e7 : 7 = n + (7 - n) := by omega
  rw [e7, zsu_split]
  have a1 : zsu (fun i => zfq n W 0 (n + i)) (7 - n) = 0 := by
    refine Eq.trans (zsu_congr (g := fun _ => 0) fun i _ => ?_) (zsu_0 _)
    unfold zfq
    rw [if_neg (by omega)]
  rw [a1]
  have a2 : zsu (zfq n W 0) n = zsu (fun q => zsu (fun u => if zp n u 0 = q then W u else 0) (zfac n)) n := zsu_congr fun q hq => by
    unfold zfq
    rw [if_pos ⟨by omega, hq⟩]
    rfl
  rw [a2, zsu_swap]
  show _ = zsu W (zfac n)
  refine zsu_congr fun u hu => ?_
  exact zsu_pick2 (fun _ => W u) (zp_lt hu (by omega))
def zWy (h h' : zHP) (N s : Nat) (A : Nat → Nat × Nat × zel) (G : Nat) (g : Nat → Int × Int × Int × Int) : Prop := zFin h' ∧ zfr [40, 41, 42, 43, 44, 45, 46, 51, 52, 53] h h' ∧ (∀ i, i ≠ 10 → i ≠ 11 → h' 40 i = h 40 i) ∧ zQV h' 41 N s A ∧ zBV h' N s A G g
section
variable {X : List Int} {h : zHP} {K : Option zAV → zHP → Prop} {N s G : Nat} {A : Nat → Nat × Nat × zel} {g : Nat → Int × Int × Int × Int}
/-- fitting -/
theorem cx_186 {t j : Int} (F : zFin h) (T : zOT h) (S : zCS h N s A) (V : zQV h 41 N s A) (g0 : zGC h G g) (GV : zGV N A G g) (GW : ∀ i, i < G → (g i).1 ≠ -1 → (g i).2.2.2 = -1) (B : zBV h N s A G g) (k0 : (∀ u : Nat, u < N → t = (u : Int) → 0 ≤ j → j ≤ (G : Int) → False) → K (some (zL (-1))) h) (k1 : ∀ u : Nat, u < N → t = (u : Int) → 0 ≤ j → j ≤ (G : Int) → ∀ h', zWy h h' N s A G g → K (some (zL (zsu (zfw (A u).1 (A u).2.2 (A u).2.1 g t j.toNat) (zfac (A u).1) : Nat))) h') : zC X 186 [zR 0, zI t, zI j] h K := by
  have h9 := g0.1
  refine sg_186_0 (cx_202 F S (fun c => sg_186_5cz ⟨rfl, k0 fun u hu a => by omega⟩) (fun u hu htu => ?_))
  have hl := (S.2.2.2.2.1 u hu).1
  refine sg_186_5c F (by have := S.2.1; omega) (fun a => ?_) (fun a => ⟨rfl, k0 fun u' _ _ z1 z2 => by omega⟩)
  have kk := k1 u hu htu (by omega) (by omega)
  refine cx_48 F T S V g0 GV GW B hu htu (j := j.toNat) (by omega) (by omega) fun h' F' fr e40 V' B' val => sg_186_35c F' ?_
  refine cx_55 (f := zfq (A u).1 (zfw (A u).1 (A u).2.2 (A u).2.1 g t j.toNat) 0) F' (fun q hq => ?_) ?_ (sg_186_42c ⟨rfl, ?_⟩)
  · have := val 0 q (by decide) hq
    rwa [Nat.mul_zero, Nat.zero_add] at this
  · rw [zfq_sum hl.1]
    exact zfw_sum hl
  · rw [zfq_sum hl.1]
    exact kk h' ⟨F', fr, e40, V', B'⟩
/-- likely -/
theorem cx_187 {t j v q : Int} (F : zFin h) (T : zOT h) (S : zCS h N s A) (V : zQV h 41 N s A) (g0 : zGC h G g) (GV : zGV N A G g) (GW : ∀ i, i < G → (g i).1 ≠ -1 → (g i).2.2.2 = -1) (B : zBV h N s A G g) (k0 : (∀ u : Nat, u < N → t = (u : Int) → 0 ≤ j → j ≤ (G : Int) → 0 ≤ v → v < ((A u).1 : Int) → 0 ≤ q → q < ((A u).1 : Int) → False) → K (some (zL (-1))) h) (k1 : ∀ u : Nat, u < N → t = (u : Int) → 0 ≤ j → j ≤ (G : Int) → 0 ≤ v → v < ((A u).1 : Int) → 0 ≤ q → q < ((A u).1 : Int) → ∀ h', zWy h h' N s A G g → K (some (zL (zlk (A u).1 (zfw (A u).1 (A u).2.2 (A u).2.1 g t j.toNat) v.toNat q.toNat : Int))) h') : zC X 187 [zR 0, zI t, zI j, zI v, zI q] h K := by
  have h9 := g0.1
  refine sg_187_0 (cx_202 F S (fun c => sg_187_5cz ⟨rfl, k0 fun u hu a => by omega⟩) (fun u hu htu => ?_))
  have hl := (S.2.2.2.2.1 u hu).1
  have hpu := zLadT (t := u) (by have := S.2.1; omega)
  have q1 := (S.2.2.2.2.1 u hu).2.1.1
  have one : ∀ u' : Nat, t = (u' : Int) → u' = u := fun u' a => by omega
  have no : ¬ ((0 ≤ j ∧ j ≤ (G : Int)) ∧ (0 ≤ v ∧ v < ((A u).1 : Int)) ∧ 0 ≤ q ∧ q < ((A u).1 : Int)) → zSHc = zSHc ∧ K (some (zL (-1))) h := fun c => ⟨rfl, k0 fun u2 _ a b1 b2 b3 b4 b5 b6 => by
    rw [one u2 a] at b4 b6
    exact c ⟨⟨b1, b2⟩, ⟨b3, b4⟩, b5, b6⟩⟩
  have hn := hl.1
  refine sg_187_5c F hpu (by have := S.2.1; omega) (fun a => no (by omega)) (fun a b => no (by omega)) (fun a b c => ?_) (fun a b c => no (by omega))
  have kk := k1 u hu htu (by omega) (by omega) (by omega) (by omega) (by omega) (by omega)
  refine cx_48 F T S V g0 GV GW B hu htu (j := j.toNat) (by omega) (by omega) fun h' F' fr e40 V' B' val => sg_187_57c F' ?_
  refine cx_54 (v := v.toNat) (q := q.toNat) F' (by omega) (by omega) (by omega) (by omega) (sg_187_67c ⟨rfl, ?_⟩)
  rw [val v.toNat q.toNat (by omega) (by omega)]
  unfold zfq
  rw [if_pos (by omega)]
  exact kk h' ⟨F', fr, e40, V', B'⟩
/-- next -/
theorem cx_188 {t j : Int} (F : zFin h) (T : zOT h) (S : zCS h N s A) (V : zQV h 41 N s A) (g0 : zGC h G g) (GV : zGV N A G g) (GW : ∀ i, i < G → (g i).1 ≠ -1 → (g i).2.2.2 = -1) (B : zBV h N s A G g) (k0 : (∀ u : Nat, u < N → t = (u : Int) → 0 ≤ j → j ≤ (G : Int) → False) → K (some (zI (-1))) h) (k1 : ∀ u : Nat, u < N → t = (u : Int) → 0 ≤ j → j ≤ (G : Int) → ∀ h', zWy h h' N s A G g → K (some (zI (zbst (A u).1 (zfw (A u).1 (A u).2.2 (A u).2.1 g t j.toNat) (A u).1).1)) h') : zC X 188 [zR 0, zI t, zI j] h K := by
  have h9 := g0.1
  refine sg_188_0 (cx_202 F S (fun c => sg_188_5cz ⟨rfl, k0 fun u hu a => by omega⟩) (fun u hu htu => ?_))
  have hl := (S.2.2.2.2.1 u hu).1
  have hpu := zLadT (t := u) (by have := S.2.1; omega)
  have q1 := (S.2.2.2.2.1 u hu).2.1.1
  have h6 := S.2.1
  have hn := hl.1
  refine sg_188_5c F (by omega) (fun a => ?_) (fun a => ⟨rfl, k0 fun u' _ _ z1 z2 => by omega⟩)
  have kk := k1 u hu htu (by omega) (by omega)
  refine cx_48 F T S V g0 GV GW B hu htu (j := j.toNat) (by omega) (by omega) fun h' F' fr e40 V' B' val => sg_188_33c F' hpu ?_
  have e2 : h' (6 + 3 * u) 2 = ((A u).1 : Int) := by rw [fr _ (by simp; omega)]; exact q1
  refine cx_56 (n := (A u).1) (W := zfw (A u).1 (A u).2.2 (A u).2.1 g t j.toNat) F' (by omega) e2 (fun v q hv hq => ?_) (zfw_sum hl) (sg_188_44c ⟨rfl, kk h' ⟨F', fr, e40, V', B'⟩⟩)
  rw [val v q (by omega) (by omega)]
  unfold zfq
  rw [if_pos ⟨hv, hq⟩]
end
