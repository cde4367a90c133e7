/-! STEPS OF A SEARCH: what stays, what comes; a turn taken back -/
theorem zBr.keep {N : Nat} {P : Nat → Prop} {s : Int} {L L' : List Nat} {D D' : Nat → Int} (B : zBr N P s L L' D D') {j : Nat} (h : D j ≠ -1) : D' j = D j := by
  obtain ⟨M, a, b, c, d⟩ := B
  exact d j fun z => h ((b j).mp z).2.2
theorem zBr.got {N : Nat} {P : Nat → Prop} {s : Int} {L L' : List Nat} {D D' : Nat → Int} (B : zBr N P s L L' D D') (hs : s ≠ -1) {j : Nat} (hj : j < N) (h : P j) : D' j ≠ -1 := by
  by_cases c : D j = -1
  · obtain ⟨M, a, b, e, d⟩ := B
    rw [e j ((b j).mpr ⟨hj, h, c⟩)]
    exact hs
  · rw [B.keep c]
    exact c
theorem zBr.new {N : Nat} {P : Nat → Prop} {s : Int} {L L' : List Nat} {D D' : Nat → Int} (B : zBr N P s L L' D D') {j : Nat} (h : D' j ≠ -1) : (D j ≠ -1 ∧ D' j = D j) ∨ (D j = -1 ∧ P j ∧ D' j = s) := by
  obtain ⟨M, a, b, c, d⟩ := B
  by_cases y : j ∈ M
  · exact Or.inr ⟨((b j).mp y).2.2, ((b j).mp y).2.1, c j y⟩
  · rw [d j y] at h ⊢
    exact Or.inl ⟨h, rfl⟩
theorem zBr.len {N : Nat} {P : Nat → Prop} {s : Int} {L L' : List Nat} {D D' : Nat → Int} (B : zBr N P s L L' D D') : L.length ≤ L'.length := by
  obtain ⟨M, a, b, c, d⟩ := B
  rw [a, List.length_append]
  omega
theorem zBr.old {N : Nat} {P : Nat → Prop} {s : Int} {L L' : List Nat} {D D' : Nat → Int} (B : zBr N P s L L' D D') {i : Nat} (hi : i < L.length) : L'.getD i 0 = L.getD i 0 := by
  obtain ⟨M, a, b, c, d⟩ := B
  rw [a, List.getD_eq_getElem?_getD, List.getD_eq_getElem?_getD, List.getElem?_append_left hi]
theorem zBr.fresh {N : Nat} {P : Nat → Prop} {s : Int} {L L' : List Nat} {D D' : Nat → Int} (B : zBr N P s L L' D D') {i : Nat} (h1 : L.length ≤ i) (h2 : i < L'.length) : L'.getD i 0 < N ∧ P (L'.getD i 0) ∧ D (L'.getD i 0) = -1 ∧ D' (L'.getD i 0) = s := by
  obtain ⟨M, a, b, c, d⟩ := B
  have e : L'.getD i 0 ∈ M := by
    rw [a, List.length_append] at h2
    have h3 : i - L.length < M.length := by omega
    rw [a, List.getD_eq_getElem?_getD, List.getElem?_append_right h1, List.getElem?_eq_getElem h3]
    exact List.getElem_mem h3
  have f := (b _).mp e
  exact ⟨f.1, f.2.1, f.2.2, c _ e⟩
theorem ztnr_back {n v r a : Nat} (hv : v < zfac n) (hr : r < zTl n v) (S : zisT n v r a) : zisT n v (ztnr n v r a) a ∧ ztnr n v (ztnr n v r a) a = r := by
  obtain ⟨s1, s2⟩ := ztnr_ok hv hr S
  obtain ⟨S1, S2, S3⟩ := S
  have ea : zlet n v (ztnr n v r a) a = zlet n v r (a + 1) := (s2 a (by omega)).trans (if_pos rfl)
  have eb : zlet n v (ztnr n v r a) (a + 1) = zlet n v r a := (s2 (a + 1) (by omega)).trans (by unfold ztw; rw [if_neg (by omega), if_pos rfl])
  have ec : zlet n v (ztnr n v r a) (a + 2) = zlet n v r (a + 1) := (s2 (a + 2) S1).trans (by unfold ztw; rw [if_neg (by omega), if_neg (by omega), if_pos rfl])
  refine ⟨⟨S1, by rw [ea, ec], by rw [ea, eb]; omega⟩, ?_⟩
  have e : ztnr n v (ztnr n v r a) a = zrks n v (zlet n v r) (zinvs n v) := zrks_congr fun j hj => by
    show (if j = a then zlet n v (ztnr n v r a) (a + 1) else if j = a + 1 then zlet n v (ztnr n v r a) a else if j = a + 2 then zlet n v (ztnr n v r a) (a + 1) else zlet n v (ztnr n v r a) j) = _
    by_cases c1 : j = a
    · rw [if_pos c1, eb, c1]
    · by_cases c2 : j = a + 1
      · rw [if_neg c1, if_pos c2, ea, c2]
      · by_cases c3 : j = a + 2
        · rw [if_neg c1, if_neg c2, if_pos c3, eb, c3, S2]
        · rw [if_neg c1, if_neg c2, if_neg c3, s2 j hj]
          unfold ztw
          rw [if_neg c1, if_neg c2, if_neg c3]
  rw [e, zrks_let _ _ _ hv hr rfl]
