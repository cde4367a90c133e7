/-! ODDS: what the methods do -/
def zOB (h : zHP) (o r3 r4 n c : Nat) (E W : Nat → Nat) : Prop := h o 7 = (c : Int) ∧ (∀ i, i < c → (E i < zfac n ∧ 0 < W i) ∧ h r3 i = (E i : Int) ∧ h r4 i = (W i : Int)) ∧ (∀ i j, i < c → j < c → E i = E j → i = j) ∧ (∀ i, i < c → h (o + 5) (E i) = ((i + 1 : Nat) : Int)) ∧ (∀ v, v < 5040 → (∀ i, i < c → E i ≠ v) → h (o + 5) v = 0)
theorem zDis.swap {o r1 r2 r3 r4 : Nat} (h : zDis o r1 r2 r3 r4) : zDis o r3 r4 r1 r2 := by unfold zDis at h ⊢; omega
theorem zOB.le {h : zHP} {o r3 r4 n c : Nat} {E W : Nat → Nat} (B : zOB h o r3 r4 n c E W) : c ≤ zfac n := by
  rcases Nat.lt_or_ge c (zfac n + 1) with g | g
  · omega
  · exfalso
    have := zpig (c := zfac n) (M := zfac n) (E := E) (v := E (zfac n)) (fun i hi => (B.2.1 i (by omega)).1.1) (fun i j hi hj e => B.2.2.1 i j (by omega) (by omega) e) (B.2.1 _ (by omega)).1.1 (fun i hi e => by have := B.2.2.1 i _ (by omega) (by omega) e; omega)
    omega
section
variable {X : List Int} {h : zHP} {K : Option zAV → zHP → Prop}
/-- bring -/
theorem cx_70 {o r1 r2 r3 r4 n c v w : Nat} {E W : Nat → Nat} (F : zFin h) (hp : zOdd o) (hD : zDis o r1 r2 r3 r4) (hf3 : h o 3 = ((r3 : Nat) : Int)) (hf4 : h o 4 = ((r4 : Nat) : Int)) (B : zOB h o r3 r4 n c E W) (hn : n ≤ 7) (hv : v < zfac n) (hb : zsu W c + w ≤ 4611686018427387904)
    (k : ∀ (h' : zHP) (c' : Nat) (E' W' : Nat → Nat), zFin h' → zfr [o, r3, r4, o + 5] h h' → (∀ j, j ≠ 7 → h' o j = h o j) → zOB h' o r3 r4 n c' E' W' → (∀ u, zwt E' W' c' u = zwt E W c u + (if v = u then w else 0)) → zsu W' c' = zsu W c + w → K none h') : zC X 70 [zR o, zI v, zL w] h K := by
  have h5 := zfac7 hn
  have hle := B.le
  obtain ⟨b1, b2, b3, b4, b5⟩ := id B
  have e7 : (h o 7).toNat = c := by omega
  have tv : ((v : Int)).toNat = v := Int.toNat_natCast v
  by_cases cw : w = 0
  · have kk := k h c E W F zfr.rfl (fun _ _ => rfl) B (fun u => by rw [cw]; split <;> rfl) (by omega)
    clear k b2 b3 b4 b5
    apply sg_70_0 F hf4 hf3 hD hp <;> intros <;> (try omega)
    exact ⟨rfl, kk⟩
  by_cases ex : ∃ i, i < c ∧ E i = v
  · obtain ⟨i, hi, he⟩ := ex
    obtain ⟨⟨-, g0⟩, -, g4⟩ := b2 i hi
    have hs : h (o + 5) ((v : Int)).toNat = ((i + 1 : Nat) : Int) := by rw [tv, ← he]; exact b4 i hi
    have es : (h (o + 5) ((v : Int)).toNat - 1).toNat = i := by omega
    have g4' : h r4 (h (o + 5) ((v : Int)).toNat - 1).toNat = (W i : Int) := by rw [es]; exact g4
    have wi := zsu_ge (f := W) hi
    have kk := k (zup h r4 i ((W i : Int) + w)) c E (fun j => if j = i then W i + w else W j) (F.upV (zDis.a4 hp hD)) (zfr.rfl.up (by simp)) (fun j _ => zup_c (zd_0_4 hD)) ⟨?_, ?_, b3, ?_, ?_⟩ ?_ ?_
    · clear k b2 b3 b4 b5
      apply sg_70_0 F hf4 hf3 hD hp <;> intros <;> (try omega)
      rw [es, g4]
      exact ⟨rfl, kk⟩
    · rw [zup_c (zd_0_4 hD)]; exact b1
    · intro j hj
      obtain ⟨⟨q1, q2⟩, q3, q4⟩ := b2 j hj
      refine ⟨⟨q1, ?_⟩, by rw [zup_c (zd_3_4 hD)]; exact q3, ?_⟩
      · simp only; split <;> omega
      · by_cases cj : j = i
        · rw [cj, zup_eq]; simp
        · rw [zup_k cj]; simp only [if_neg cj]; exact q4
    · intro j hj
      rw [zup_c (zd_5_4 hD)]; exact b4 j hj
    · intro u hu hne
      rw [zup_c (zd_5_4 hD)]; exact b5 u hu hne
    · intro u
      have e1 : zwt E (fun j => if j = i then W i + w else W j) c u = zwt E W c u + zsu (fun j => if j = i then (if E j = u then w else 0) else 0) c := by
        unfold zwt
        rw [← zsu_add]
        refine zsu_congr fun j _ => ?_
        by_cases cj : j = i
        · subst cj
          simp only [if_true]
          split <;> omega
        · simp only [if_neg cj, Nat.add_zero]
      rw [e1, zsu_pick (fun j => if E j = u then w else 0) hi, he]
    · have e1 : zsu (fun j => if j = i then W i + w else W j) c = zsu W c + zsu (fun j => if j = i then w else 0) c := by
        rw [← zsu_add]
        refine zsu_congr fun j _ => ?_
        by_cases cj : j = i
        · subst cj; simp only [if_true]
        · simp only [if_neg cj, Nat.add_zero]
      rw [e1, zsu_pick (fun _ => w) hi]
  · have hne : ∀ i, i < c → E i ≠ v := fun i hi e => ex ⟨i, hi, e⟩
    have hc := zpig (fun i hi => (b2 i hi).1.1) b3 hv hne
    have hs : h (o + 5) ((v : Int)).toNat = 0 := by rw [tv]; exact b5 v (by omega) hne
    have kk := k (zup (zup (zup (zup (zup h r3 c (v : Int)) r4 c 0) o 7 ((c : Int) + 1)) (o + 5) v ((c : Int) + 1)) r4 c (0 + (w : Int))) (c + 1) (fun j => if j = c then v else E j) (fun j => if j = c then w else W j) ((((((F.upV (zDis.a3 hp hD)).upV (zDis.a4 hp hD)) |> fun q => zOdd.up q hp rfl).upV hp.a5)).upV (zDis.a4 hp hD)) (((((zfr.rfl.up (by simp)).up (by simp)).up (by simp)).up (by simp)).up (by simp)) (fun j hj => ?_) ⟨?_, ?_, ?_, ?_, ?_⟩ ?_ ?_
    · clear k b2 b3 b4 b5
      apply sg_70_0 F hf4 hf3 hD hp <;> intros <;> (try omega)
      rw [e7, b1, tv]
      exact ⟨rfl, kk⟩
    · rw [zup_c (zd_0_4 hD), zup_c (zd_0_5 hD), zup_k hj, zup_c (zd_0_4 hD), zup_c (zd_0_3 hD)]
    · rw [zup_c (zd_0_4 hD), zup_c (zd_0_5 hD), zup_eq]; omega
    · intro j hj
      by_cases cj : j = c
      · subst cj
        refine ⟨⟨by simp only [if_true]; exact hv, by simp only [if_true]; omega⟩, ?_, ?_⟩
        · rw [zup_c (zd_3_4 hD), zup_c (zd_3_5 hD), zup_c (zd_3_0 hD), zup_c (zd_3_4 hD), zup_eq]; simp
        · rw [zup_eq]; simp
      · obtain ⟨⟨q1, q2⟩, q3, q4⟩ := b2 j (by omega)
        refine ⟨⟨by simp only [if_neg cj]; exact q1, by simp only [if_neg cj]; exact q2⟩, ?_, ?_⟩
        · rw [zup_c (zd_3_4 hD), zup_c (zd_3_5 hD), zup_c (zd_3_0 hD), zup_c (zd_3_4 hD), zup_k cj]; simp only [if_neg cj]; exact q3
        · rw [zup_k cj, zup_c (zd_4_5 hD), zup_c (zd_4_0 hD), zup_k cj, zup_c (zd_4_3 hD)]; simp only [if_neg cj]; exact q4
    · intro i j hi hj e
      by_cases ci : i = c
      · by_cases cj : j = c
        · omega
        · simp only [if_pos ci, if_neg cj] at e
          exact absurd e.symm (hne j (by omega))
      · by_cases cj : j = c
        · simp only [if_neg ci, if_pos cj] at e
          exact absurd e (hne i (by omega))
        · simp only [if_neg ci, if_neg cj] at e
          exact b3 i j (by omega) (by omega) e
    · intro j hj
      by_cases cj : j = c
      · subst cj
        simp only [if_true]
        rw [zup_c (zd_5_4 hD), zup_eq]; omega
      · simp only [if_neg cj]
        rw [zup_c (zd_5_4 hD), zup_k (hne j (by omega)), zup_c (zd_5_0 hD), zup_c (zd_5_4 hD), zup_c (zd_5_3 hD)]
        exact b4 j (by omega)
    · intro u hu hu2
      have h1 := hu2 c (by omega)
      simp only [if_true] at h1
      rw [zup_c (zd_5_4 hD), zup_k (fun z => h1 z.symm), zup_c (zd_5_0 hD), zup_c (zd_5_4 hD), zup_c (zd_5_3 hD)]
      refine b5 u hu fun i hi => ?_
      have h2 := hu2 i (by omega)
      simp only [if_neg (show ¬ i = c by omega)] at h2
      exact h2
    · intro u
      show zsu _ c + (if (if c = c then v else E c) = u then (if c = c then w else W c) else 0) = _
      rw [if_pos rfl, if_pos rfl]
      congr 1
      refine zsu_congr fun j hj => ?_
      simp only [if_neg (show ¬ j = c by omega)]
    · show zsu _ c + (if c = c then w else W c) = _
      rw [if_pos rfl]
      congr 1
      refine zsu_congr fun j hj => ?_
      simp only [if_neg (show ¬ j = c by omega)]
/-- turnOver -/
theorem cx_71 {o r1 r2 r3 r4 : Nat} (F : zFin h) (hp : zOdd o) (hD : zDis o r1 r2 r3 r4) (hf1 : h o 1 = ((r1 : Nat) : Int)) (hf2 : h o 2 = ((r2 : Nat) : Int)) (hf3 : h o 3 = ((r3 : Nat) : Int)) (hf4 : h o 4 = ((r4 : Nat) : Int)) (k : ∀ h', zFin h' → zfr [o, o + 5] h h' → h' o 1 = ((r3 : Nat) : Int) → h' o 2 = ((r4 : Nat) : Int) → h' o 3 = ((r1 : Nat) : Int) → h' o 4 = ((r2 : Nat) : Int) → h' o 6 = h o 7 → h' o 7 = 0 → (∀ j, 8 ≤ j → h' o j = h o j) → (∀ v, v < 5040 → h' (o + 5) v = 0) → K none h') : zC X 71 [zR o] h K := by
  have n5 : ¬ o = o + 5 := by omega
  refine sg_71_0 F hf4 hf2 hf3 hf1 hD hp (zp_fillI hp.l5 hp.s5 (by decide) (sg_71_57c ⟨rfl, ?_⟩))
  generalize hG : zup (zup (zup (zup (zup (zup h o 1 ((r3 : Nat) : Int)) o 3 ((r1 : Nat) : Int)) o 2 ((r4 : Nat) : Int)) o 4 ((r2 : Nat) : Int)) o 6 (h o 7)) o 7 0 = G
  have FG : zFin G := by rw [← hG]; exact zOdd.up (zOdd.up (zOdd.up (zOdd.up (zOdd.up (zOdd.up F hp rfl) hp rfl) hp rfl) hp rfl) hp rfl) hp rfl
  have fo : ∀ j, zfill G (o + 5) 5040 0 o j = G o j := fun j => by unfold zfill; rw [if_neg n5]
  have frG : zfr [o] h G := by rw [← hG]; exact (((((zfr.rfl.up (by simp)).up (by simp)).up (by simp)).up (by simp)).up (by simp)).up (by simp)
  refine k _ ?_ ?_ ?_ ?_ ?_ ?_ ?_ ?_ (fun j hj => ?_) (fun v hv => ?_)
  · intro q hq
    unfold zfill
    have h5 : ¬ q.1 = o + 5 := fun z => by
      have := List.all_eq_true.mp hp.a5 q hq
      rw [z, Nat.beq_refl] at this
      cases this
    rw [if_neg h5]
    exact FG q hq
  · intro c hc
    funext j
    unfold zfill
    simp only [List.mem_cons, List.not_mem_nil, or_false, not_or] at hc
    rw [if_neg hc.2]
    exact congrFun (frG c (by simp; exact hc.1)) j
  · rw [fo, ← hG, zup_k (by decide), zup_k (by decide), zup_k (by decide), zup_k (by decide), zup_k (by decide), zup_eq]
  · rw [fo, ← hG, zup_k (by decide), zup_k (by decide), zup_k (by decide), zup_eq]
  · rw [fo, ← hG, zup_k (by decide), zup_k (by decide), zup_k (by decide), zup_k (by decide), zup_eq]
  · rw [fo, ← hG, zup_k (by decide), zup_k (by decide), zup_eq]
  · rw [fo, ← hG, zup_k (by decide), zup_eq]
  · rw [fo, ← hG, zup_eq]
  · rw [fo, ← hG, zup_k (by omega), zup_k (by omega), zup_k (by omega), zup_k (by omega), zup_k (by omega), zup_k (by omega)]
  · unfold zfill
    rw [if_pos rfl, if_pos hv]
end
