/-! A SEARCH BY LEVELS: what holds on the way -/
def zBI (N : Nat) (S T : Nat → Nat → Prop) (c b : Nat) (L : List Nat) (D : Nat → Int) (start : Nat) : Prop := (∀ j, j < N → D j ≠ -1 → ∃ v l : Nat, D j = (v : Int) ∧ zpa N S T c b l j v) ∧ D b = 0 ∧ ∀ i, i < start → ∀ j, j < N → (S (L.getD i 0) j → D j ≠ -1 ∧ D j ≤ D (L.getD i 0) + c) ∧ (T (L.getD i 0) j → D j ≠ -1 ∧ D j ≤ D (L.getD i 0) + 1)
theorem zBI.fin {N c b start : Nat} {S T : Nat → Nat → Prop} {L : List Nat} {D : Nat → Int} (I : zBI N S T c b L D start) (hL : ∀ j, j ∈ L ↔ j < N ∧ D j ≠ -1) (h : L.length ≤ start) : zDs N S T c b D := by
  obtain ⟨i1, i2, i3⟩ := I
  have at_ : ∀ i, i < N → D i ≠ -1 → ∃ q, q < start ∧ L.getD q 0 = i := fun i hi hd => by
    obtain ⟨q, hq, e⟩ := List.getElem_of_mem ((hL i).mpr ⟨hi, hd⟩)
    exact ⟨q, by omega, by rw [List.getD_eq_getElem?_getD, List.getElem?_eq_getElem hq]; exact e⟩
  refine ⟨fun j hj => ?_, i2, fun i j hi hj hd e => ?_, fun i j hi hj hd e => ?_⟩
  · by_cases z : D j = -1
    · exact Or.inl z
    · exact Or.inr (i1 j hj z)
  · obtain ⟨q, hq, eq⟩ := at_ i hi hd
    have := (i3 q hq j hj).1
    rw [eq] at this
    exact this e
  · obtain ⟨q, hq, eq⟩ := at_ i hi hd
    have := (i3 q hq j hj).2
    rw [eq] at this
    exact this e
theorem zBI.step {N c b start v : Nat} {S T : Nat → Nat → Prop} {P : Nat → Prop} {L L' : List Nat} {D D' : Nat → Int} (I : zBI N S T c b L D start) (hs : start ≤ L.length) (hL : ∀ i, i < L.length → D (L.getD i 0) ≠ -1) (R : zBr N P (v : Int) L L' D D') (hp : ∀ j, j < N → D j = -1 → P j → ∃ l, zpa N S T c b l j v) : zBI N S T c b L' D' start := by
  obtain ⟨i1, i2, i3⟩ := I
  refine ⟨fun j hj hd => ?_, ?_, fun i hi j hj => ?_⟩
  · rcases R.new hd with ⟨a1, a2⟩ | ⟨a1, a2, a3⟩
    · rw [a2]; exact i1 j hj a1
    · obtain ⟨l, p⟩ := hp j hj a1 a2
      exact ⟨v, l, a3, p⟩
  · rw [R.keep (by rw [i2]; decide)]; exact i2
  · have e1 := R.old (show i < L.length by omega)
    have e2 := R.keep (hL i (by omega))
    obtain ⟨a1, a2⟩ := i3 i hi j hj
    rw [e1, e2]
    refine ⟨fun z => ?_, fun z => ?_⟩
    · obtain ⟨b1, b2⟩ := a1 z
      rw [R.keep b1]
      exact ⟨b1, b2⟩
    · obtain ⟨b1, b2⟩ := a2 z
      rw [R.keep b1]
      exact ⟨b1, b2⟩
theorem zBS.rd {h : zHP} {N : Nat} {L : List Nat} {D : Nat → Int} (B : zBS h N L D) {i : Nat} (hi : i < L.length) : L.getD i 0 < N ∧ D (L.getD i 0) ≠ -1 ∧ h 27 i = ((L.getD i 0 : Nat) : Int) := by
  have e : L.getD i 0 ∈ L := by
    rw [List.getD_eq_getElem?_getD, List.getElem?_eq_getElem hi]
    exact List.getElem_mem hi
  have := (B.2.2.2.2 _).mp e
  exact ⟨this.1, this.2, B.2.1 i hi⟩
theorem zBS.len {h : zHP} {N : Nat} {L : List Nat} {D : Nat → Int} (B : zBS h N L D) : L.length ≤ N := znd_len N L B.2.2.2.1 fun j hj => ((B.2.2.2.2 j).mp hj).1
