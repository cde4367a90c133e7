/-! LEAST COSTS IN A GRAPH -/
/-- ways of l edges from `b` to j: slides cost c, turns cost 1 -/
def zpa (N : Nat) (S T : Nat → Nat → Prop) (c b : Nat) : Nat → Nat → Nat → Prop
  | 0, j, s => j = b ∧ s = 0
  | l + 1, j, s => ∃ i t, i < N ∧ zpa N S T c b l i t ∧ ((S i j ∧ s = t + c) ∨ (T i j ∧ s = t + 1))
/-- least costs -/
def zDs (N : Nat) (S T : Nat → Nat → Prop) (c b : Nat) (D : Nat → Int) : Prop := (∀ j, j < N → D j = -1 ∨ ∃ s l : Nat, D j = (s : Int) ∧ zpa N S T c b l j s) ∧ D b = 0 ∧ (∀ i j, i < N → j < N → D i ≠ -1 → S i j → D j ≠ -1 ∧ D j ≤ D i + c) ∧ ∀ i j, i < N → j < N → D i ≠ -1 → T i j → D j ≠ -1 ∧ D j ≤ D i + 1
theorem zDs_le {N c b : Nat} {S T : Nat → Nat → Prop} {D : Nat → Int} (H : zDs N S T c b D) : ∀ l j s, j < N → zpa N S T c b l j s → D j ≠ -1 ∧ D j ≤ (s : Int) := by
  obtain ⟨-, h0, h1, h2⟩ := H
  intro l
  induction l with
  | zero =>
    intro j s _ h
    obtain ⟨e1, e2⟩ := h
    rw [e1, e2, h0]
    exact ⟨by decide, Int.le_refl _⟩
  | succ l ih =>
    intro j s hj h
    obtain ⟨i, t, hi, hp, h⟩ := h
    obtain ⟨a1, a2⟩ := ih i t hi hp
    rcases h with ⟨e, es⟩ | ⟨e, es⟩
    · have := h1 i j hi hj a1 e
      exact ⟨this.1, by omega⟩
    · have := h2 i j hi hj a1 e
      exact ⟨this.1, by omega⟩
theorem zDs_one {N c b : Nat} {S T : Nat → Nat → Prop} {D D2 : Nat → Int} (H : zDs N S T c b D) (H2 : zDs N S T c b D2) : ∀ j, j < N → D j = D2 j := by
  intro j hj
  rcases H.1 j hj with z | ⟨s, l, e, p⟩
  · rcases H2.1 j hj with z2 | ⟨s2, l2, e2, p2⟩
    · rw [z, z2]
    · exact absurd z (zDs_le H l2 j s2 hj p2).1
  · have a := zDs_le H2 l j s hj p
    rcases H2.1 j hj with z2 | ⟨s2, l2, e2, p2⟩
    · exact absurd z2 a.1
    · have b := zDs_le H l2 j s2 hj p2
      omega
section
variable {X : List Int} {h : zHP} {K : Option zAV → zHP → Prop}
/-- forgetDistances -/
theorem cx_151 {N : Nat} (F : zFin h) (hN : N ≤ 800) (k : ∀ h', zBS h' N [] (fun _ => -1) → zGz h h' → K none h') : zC X 151 [zR 24] h K := by
  have kk := k (zup (zfill h 26 800 (-1)) 24 7 0) ⟨zup_eq, fun i hi => absurd hi (Nat.not_lt_zero _), fun i hi => ?_, List.nodup_nil, fun j => ⟨fun z => (by cases z), fun z => absurd rfl z.2⟩⟩ ⟨((F.fill zfa_26).up (by decide)), ((zfr.rfl).fill (by simp)).up (by simp), fun c hc => ?_⟩
  · exact sg_151_0 F (zp_fillI (n := 800) (by decide) rfl (by decide) (sg_151_8c ⟨rfl, kk⟩))
  · rw [zup_c (by decide)]
    show (zfill h 26 800 (-1)) 26 i = -1
    unfold zfill
    rw [if_pos rfl]
    exact if_pos (by omega)
  · rw [zup_k hc]
    unfold zfill
    rw [if_neg (by decide)]
end
