/-! THE ROWS OF AN ODDS OBJECT, which change places -/
def zDis (o r1 r2 r3 r4 : Nat) : Prop := ((r1 = o + 1 ∧ r3 = o + 3) ∨ (r1 = o + 3 ∧ r3 = o + 1)) ∧ ((r2 = o + 2 ∧ r4 = o + 4) ∨ (r2 = o + 4 ∧ r4 = o + 2))
section
variable {X : List Int} {o r1 r2 r3 r4 : Nat}
theorem zd_0_1 (h : zDis o r1 r2 r3 r4) : ¬ o = r1 := by unfold zDis at h; omega
theorem zd_0_2 (h : zDis o r1 r2 r3 r4) : ¬ o = r2 := by unfold zDis at h; omega
theorem zd_0_3 (h : zDis o r1 r2 r3 r4) : ¬ o = r3 := by unfold zDis at h; omega
theorem zd_0_4 (h : zDis o r1 r2 r3 r4) : ¬ o = r4 := by unfold zDis at h; omega
theorem zd_0_5 (h : zDis o r1 r2 r3 r4) : ¬ o = o + 5 := by unfold zDis at h; omega
theorem zd_1_0 (h : zDis o r1 r2 r3 r4) : ¬ r1 = o := by unfold zDis at h; omega
theorem zd_1_2 (h : zDis o r1 r2 r3 r4) : ¬ r1 = r2 := by unfold zDis at h; omega
theorem zd_1_3 (h : zDis o r1 r2 r3 r4) : ¬ r1 = r3 := by unfold zDis at h; omega
theorem zd_1_4 (h : zDis o r1 r2 r3 r4) : ¬ r1 = r4 := by unfold zDis at h; omega
theorem zd_1_5 (h : zDis o r1 r2 r3 r4) : ¬ r1 = o + 5 := by unfold zDis at h; omega
theorem zd_2_0 (h : zDis o r1 r2 r3 r4) : ¬ r2 = o := by unfold zDis at h; omega
theorem zd_2_1 (h : zDis o r1 r2 r3 r4) : ¬ r2 = r1 := by unfold zDis at h; omega
theorem zd_2_3 (h : zDis o r1 r2 r3 r4) : ¬ r2 = r3 := by unfold zDis at h; omega
theorem zd_2_4 (h : zDis o r1 r2 r3 r4) : ¬ r2 = r4 := by unfold zDis at h; omega
theorem zd_2_5 (h : zDis o r1 r2 r3 r4) : ¬ r2 = o + 5 := by unfold zDis at h; omega
theorem zd_3_0 (h : zDis o r1 r2 r3 r4) : ¬ r3 = o := by unfold zDis at h; omega
theorem zd_3_1 (h : zDis o r1 r2 r3 r4) : ¬ r3 = r1 := by unfold zDis at h; omega
theorem zd_3_2 (h : zDis o r1 r2 r3 r4) : ¬ r3 = r2 := by unfold zDis at h; omega
theorem zd_3_4 (h : zDis o r1 r2 r3 r4) : ¬ r3 = r4 := by unfold zDis at h; omega
theorem zd_3_5 (h : zDis o r1 r2 r3 r4) : ¬ r3 = o + 5 := by unfold zDis at h; omega
theorem zd_4_0 (h : zDis o r1 r2 r3 r4) : ¬ r4 = o := by unfold zDis at h; omega
theorem zd_4_1 (h : zDis o r1 r2 r3 r4) : ¬ r4 = r1 := by unfold zDis at h; omega
theorem zd_4_2 (h : zDis o r1 r2 r3 r4) : ¬ r4 = r2 := by unfold zDis at h; omega
theorem zd_4_3 (h : zDis o r1 r2 r3 r4) : ¬ r4 = r3 := by unfold zDis at h; omega
theorem zd_4_5 (h : zDis o r1 r2 r3 r4) : ¬ r4 = o + 5 := by unfold zDis at h; omega
theorem zd_5_0 (h : zDis o r1 r2 r3 r4) : ¬ o + 5 = o := by unfold zDis at h; omega
theorem zd_5_1 (h : zDis o r1 r2 r3 r4) : ¬ o + 5 = r1 := by unfold zDis at h; omega
theorem zd_5_2 (h : zDis o r1 r2 r3 r4) : ¬ o + 5 = r2 := by unfold zDis at h; omega
theorem zd_5_3 (h : zDis o r1 r2 r3 r4) : ¬ o + 5 = r3 := by unfold zDis at h; omega
theorem zd_5_4 (h : zDis o r1 r2 r3 r4) : ¬ o + 5 = r4 := by unfold zDis at h; omega
theorem zDis.s1 (hp : zOdd o) (h : zDis o r1 r2 r3 r4) : zsh X zSHc r1 = (0, 5040) := by
  rcases h.1 with ⟨e, -⟩ | ⟨e, -⟩ <;> subst e
  · exact hp.s1
  · exact hp.s3
theorem zDis.l1 (hp : zOdd o) (h : zDis o r1 r2 r3 r4) : r1 < 1000 := by
  rcases h.1 with ⟨e, -⟩ | ⟨e, -⟩ <;> subst e
  · exact hp.l1
  · exact hp.l3
theorem zDis.a1 (hp : zOdd o) (h : zDis o r1 r2 r3 r4) : zarr r1 := by
  rcases h.1 with ⟨e, -⟩ | ⟨e, -⟩ <;> subst e
  · exact hp.a1
  · exact hp.a3
theorem zDis.s2 (hp : zOdd o) (h : zDis o r1 r2 r3 r4) : zsh X zSHc r2 = (1, 5040) := by
  rcases h.2 with ⟨e, -⟩ | ⟨e, -⟩ <;> subst e
  · exact hp.s2
  · exact hp.s4
theorem zDis.l2 (hp : zOdd o) (h : zDis o r1 r2 r3 r4) : r2 < 1000 := by
  rcases h.2 with ⟨e, -⟩ | ⟨e, -⟩ <;> subst e
  · exact hp.l2
  · exact hp.l4
theorem zDis.a2 (hp : zOdd o) (h : zDis o r1 r2 r3 r4) : zarr r2 := by
  rcases h.2 with ⟨e, -⟩ | ⟨e, -⟩ <;> subst e
  · exact hp.a2
  · exact hp.a4
theorem zDis.s3 (hp : zOdd o) (h : zDis o r1 r2 r3 r4) : zsh X zSHc r3 = (0, 5040) := by
  rcases h.1 with ⟨-, e⟩ | ⟨-, e⟩ <;> subst e
  · exact hp.s3
  · exact hp.s1
theorem zDis.l3 (hp : zOdd o) (h : zDis o r1 r2 r3 r4) : r3 < 1000 := by
  rcases h.1 with ⟨-, e⟩ | ⟨-, e⟩ <;> subst e
  · exact hp.l3
  · exact hp.l1
theorem zDis.a3 (hp : zOdd o) (h : zDis o r1 r2 r3 r4) : zarr r3 := by
  rcases h.1 with ⟨-, e⟩ | ⟨-, e⟩ <;> subst e
  · exact hp.a3
  · exact hp.a1
theorem zDis.s4 (hp : zOdd o) (h : zDis o r1 r2 r3 r4) : zsh X zSHc r4 = (1, 5040) := by
  rcases h.2 with ⟨-, e⟩ | ⟨-, e⟩ <;> subst e
  · exact hp.s4
  · exact hp.s2
theorem zDis.l4 (hp : zOdd o) (h : zDis o r1 r2 r3 r4) : r4 < 1000 := by
  rcases h.2 with ⟨-, e⟩ | ⟨-, e⟩ <;> subst e
  · exact hp.l4
  · exact hp.l2
theorem zDis.a4 (hp : zOdd o) (h : zDis o r1 r2 r3 r4) : zarr r4 := by
  rcases h.2 with ⟨-, e⟩ | ⟨-, e⟩ <;> subst e
  · exact hp.a4
  · exact hp.a2
end
