/-- logs of a ladder that count among the first k, of j that are known -/
def zrl (g : Nat → Int × Int × Int × Int) (t : Int) (j k : Nat) (v l : Nat) : Prop := l < k ∧ (g l).1 = t ∧ ¬ zvd g l j ∧ (g l).2.1 = (v : Int)
/-- what is wanted of a number -/
def zwn (g : Nat → Int × Int × Int × Int) (t : Int) (j k v : Nat) (w : Int) : Prop := (w = -1 → ∀ l, ¬ zrl g t j k v l) ∧ (w ≠ -1 → ∃ l, zrl g t j k v l) ∧ ∀ q : Int, 0 ≤ q → (w = -1 ∨ w = q ↔ ∀ l, zrl g t j k v l → (g l).2.2.1 = q)
theorem zrl_s {g : Nat → Int × Int × Int × Int} {t : Int} {j k v l : Nat} : zrl g t j (k + 1) v l ↔ zrl g t j k v l ∨ (l = k ∧ (g k).1 = t ∧ ¬ zvd g k j ∧ (g k).2.1 = (v : Int)) := by
  unfold zrl
  constructor
  · rintro ⟨a, b⟩
    by_cases c : l = k
    · subst c; exact Or.inr ⟨rfl, b⟩
    · exact Or.inl ⟨by omega, b⟩
  · rintro (⟨a, b⟩ | ⟨a, b⟩)
    · exact ⟨by omega, b⟩
    · subst a; exact ⟨by omega, b⟩
theorem zwn_skip {g : Nat → Int × Int × Int × Int} {t w : Int} {j k v : Nat} (Z : zwn g t j k v w) (c : ¬ ((g k).1 = t ∧ ¬ zvd g k j ∧ (g k).2.1 = (v : Int))) : zwn g t j (k + 1) v w := by
  have e : ∀ l, zrl g t j (k + 1) v l ↔ zrl g t j k v l := fun l => by
    rw [zrl_s]
    exact ⟨fun z => z.elim id fun z => absurd z.2 c, Or.inl⟩
  unfold zwn at *
  simp only [e]
  exact Z
theorem zwn_new {g : Nat → Int × Int × Int × Int} {t w : Int} {j k v : Nat} (Z : zwn g t j k v w) (c : (g k).1 = t ∧ ¬ zvd g k j ∧ (g k).2.1 = (v : Int)) (p0 : 0 ≤ (g k).2.2.1) : zwn g t j (k + 1) v (if w = -1 ∨ w = (g k).2.2.1 then (g k).2.2.1 else -2) := by
  obtain ⟨z1, z2, z3⟩ := Z
  have hk : zrl g t j (k + 1) v k := zrl_s.mpr (Or.inr ⟨rfl, c⟩)
  by_cases d : w = -1 ∨ w = (g k).2.2.1
  · rw [if_pos d]
    refine ⟨fun a => by omega, fun _ => ⟨k, hk⟩, fun q hq => ⟨fun a l hl => ?_, fun a => Or.inr (a k hk)⟩⟩
    have e : (g k).2.2.1 = q := by omega
    rcases zrl_s.mp hl with b | b
    · exact (z3 q hq).mp (by omega) l b
    · rw [b.1]; exact e
  · rw [if_neg d]
    refine ⟨fun a => by omega, fun _ => ⟨k, hk⟩, fun q hq => ⟨fun a => by omega, fun a => ?_⟩⟩
    exfalso
    have e := a k hk
    have b := (z3 q hq).mpr fun l hl => a l (zrl_s.mpr (Or.inl hl))
    omega
section
variable {X : List Int} {h : zHP} {K : Option zAV → zHP → Prop} {G : Nat} {g : Nat → Int × Int × Int × Int}
/-- lookUp -/
theorem cx_49 {j : Nat} {t y : Int} (F : zFin h) (g0 : zGC h G g) (V : ∀ i, i < G → (g i).1 = t → (g i).2.2.2 = -1 ∧ 0 ≤ (g i).2.1 ∧ (g i).2.1 < 7 ∧ 0 ≤ (g i).2.2.1) (hj : j ≤ G) (hy : y = (j : Int)) (k : ∀ h', zFin h' → zfr [51] h h' → (∀ v, v < 7 → zwn g t j j v (h' 51 v)) → K none h') : zC X 49 [zR 40, zI t, zI y] h K := by
  obtain ⟨gs, hG, ga⟩ := g0
  have loop : ∀ (q i : Nat) (h1 : zHP) (z : Int), j - i = q → i ≤ j → z = (i : Int) → zFin h1 → zfr [51] h h1 → (∀ v, v < 7 → zwn g t j i v (h1 51 v)) → zAt X 49 10 0 0 [some (zR 40), some (zI t), some (zI y), some (zI z), none, none] [] zSHc h1 (fun v sh' h' => sh' = zSHc ∧ K v h') := by
    intro q
    induction q with
    | zero =>
      intro i h1 z hq hi hz F1 fr W
      have ei : i = j := by omega
      rw [ei] at W
      exact sg_49_10 F1 (fun _ => ⟨rfl, k h1 F1 fr W⟩) (fun a => by omega) (fun a => by omega) (fun a => by omega) (fun a => by omega) (fun a => by omega) (fun a => by omega) (fun a => by omega)
    | succ q ih =>
      intro i h1 z hq hi hz F1 fr W
      have hi' : i < G := by omega
      obtain ⟨a1, a2, a3, a4⟩ := ga i hi'
      have ez : z.toNat = i := by omega
      have b0 : h1 40 9 = (G : Int) := by rw [fr 40 (by decide)]; exact gs
      have b1 : h1 47 z.toNat = (g i).1 := by rw [fr 47 (by decide), ez]; exact a1
      have b2 : h1 48 z.toNat = (g i).2.1 := by rw [fr 48 (by decide), ez]; exact a2
      have b3 : h1 49 z.toNat = (g i).2.2.1 := by rw [fr 49 (by decide), ez]; exact a3
      have b4 : h1 50 z.toNat = (g i).2.2.2 := by rw [fr 50 (by decide), ez]; exact a4
      have vi := V i hi'
      have skip : (∀ v : Nat, v < 7 → ¬ ((g i).1 = t ∧ ¬ zvd g i j ∧ (g i).2.1 = (v : Int))) → zAt X 49 10 0 0 [some (zR 40), some (zI t), some (zI y), some (zI (z + 1)), none, none] [] zSHc h1 (fun v sh' h' => sh' = zSHc ∧ K v h') := fun c => ih (i + 1) h1 _ (by omega) (by omega) (by omega) F1 fr fun v hv => zwn_skip (W v hv) (c v hv)
      refine sg_49_10 F1 (fun a => by omega) (fun _ a => by omega) (fun _ _ => by omega) (fun _ _ _ => by omega) (fun _ _ c => skip fun v hv d => c ⟨by omega, by omega, by omega, by rw [b4]; exact (vi d.1).1⟩) (fun _ _ _ _ => by omega) (fun _ _ _ c => skip fun v hv d => c (by rw [b1]; exact d.1)) (fun _ _ _ c => ?_)
      rw [b1] at c
      obtain ⟨v1, v2, v3, v4⟩ := vi c
      refine cx_50 F1 (G := G) (g := g) (fun l hl => by rw [fr 50 (by decide)]; exact (ga l hl).2.2.2) hG (show i < j by omega) hj hz hy (fun d => ?_) (fun d => ?_)
      · refine sg_49_53c F1 (fun _ => by omega) (fun _ => skip fun v hv e => e.2.1 d) (fun a => absurd a (by decide)) (fun a => absurd a (by decide)) (fun a => absurd a (by decide)) (fun a => absurd a (by decide)) (fun a => absurd a (by decide)) (fun a => absurd a (by decide)) (fun a => absurd a (by decide)) (fun a => absurd a (by decide)) (fun a => absurd a (by decide)) (fun a => absurd a (by decide)) (fun a => absurd a (by decide)) (fun a => absurd a (by decide)) (fun a => absurd a (by decide))
      · obtain ⟨x, hx⟩ : ∃ x : Nat, (g i).2.1 = (x : Int) := ⟨(g i).2.1.toNat, by omega⟩
        have ex : (h1 48 z.toNat).toNat = x := by omega
        have put : ∀ w : Int, w = (if h1 51 x = -1 ∨ h1 51 x = (g i).2.2.1 then (g i).2.2.1 else -2) → zAt X 49 10 0 0 [some (zR 40), some (zI t), some (zI y), some (zI (z + 1)), none, none] [] zSHc (zup h1 51 (h1 48 z.toNat).toNat w) (fun v sh' h' => sh' = zSHc ∧ K v h') := fun w hw => by
          refine ih (i + 1) _ _ (by omega) (by omega) (by omega) (F1.upA zfa_51) (fr.up (by simp)) fun v hv => ?_
          rw [ex]
          by_cases e : v = x
          · rw [e, zup_eq, hw]
            exact zwn_new (W x (by omega)) ⟨c, d, hx⟩ v4
          · rw [zup_k e]
            exact zwn_skip (W v hv) fun e2 => e (by have := e2.2.2; omega)
        rw [← ex] at put
        have p1 := put (h1 49 z.toNat)
        have p2 := put (-2)
        clear put ih skip W V
        apply sg_49_53c F1 <;> intros <;> (try omega)
        · exact p1 (by rw [if_pos (Or.inl (by assumption))]; exact b3)
        · exact p1 (by rw [if_pos (Or.inr (by omega))]; exact b3)
        · exact p2 (by rw [if_neg (by omega)])
  refine sg_49_0 F (zp_fillI (n := 7) (by decide) rfl (by decide) (sg_49_8c (loop _ 0 _ 0 rfl (by omega) rfl ?_ ?_ ?_)))
  · intro q hq
    unfold zfill
    have h5 : ¬ q.1 = 51 := fun z => by
      have := List.all_eq_true.mp zfa_51 q hq
      rw [z, Nat.beq_refl] at this
      cases this
    rw [if_neg h5]
    exact F q hq
  · intro c hc
    funext l
    unfold zfill
    rw [if_neg (by simpa using hc)]
  · intro v hv
    have e : zfill h 51 7 (-1) 51 v = -1 := by unfold zfill; rw [if_pos rfl, if_pos hv]
    rw [e]
    exact ⟨fun _ l z => absurd z.1 (by omega), fun a => absurd rfl a, fun q _ => ⟨fun _ l z => absurd z.1 (by omega), fun _ => Or.inl rfl⟩⟩
end
