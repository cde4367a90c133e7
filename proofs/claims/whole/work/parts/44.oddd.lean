/-! ODDS: an element passed by many, a maybe, the whole look -/
theorem zsw_rd {h : zHP} {n l o : Nat} (T : zOT h) (hr : (n : Int) ≤ h 1 1) (hn : 2 ≤ n) (hl : l + 2 ≤ n) (ho : o < zfac n) : h 2 ((5 - (n - 2 - l)) * 5040 + o) = (zx n l o : Int) := by
  obtain ⟨r, t1, t2, t3, t4⟩ := T
  exact t4 _ _ (by omega) (Nat.lt_of_lt_of_le ho (zfac_mono (by omega)))
section
variable {X : List Int} {h : zHP} {K : Option zAV → zHP → Prop}
/-- leadAll: the loop -/
theorem cx_88l {p n l c : Nat} {al tl : Int} {E G : Nat → Nat} (F : zFin h) (T : zOT h) (ha : zarr p) (hs : zsh X zSHc p = (0, 5040)) (hp : p < 1000) (hp2 : p ≠ 1 ∧ p ≠ 2) (hn : 2 ≤ n ∧ n ≤ 7) (hr : (n : Int) ≤ h 1 1) (hl : l + 2 ≤ n) (hc : c ≤ 5040) (htl : tl = 0 ∨ tl = 1) (hE : ∀ j, j < c → E j < zfac n ∧ h p j = (E j : Int)) (hG : ∀ j, j < c → (¬ al = 0 → G j = zx n l (E j)) ∧ (al = 0 → zx n l (E j) < E j → (tl = 1 → G j = zx n l (E j)) ∧ (tl = 0 → G j = E j)) ∧ (al = 0 → E j ≤ zx n l (E j) → (tl = 0 → G j = zx n l (E j)) ∧ (tl = 1 → G j = E j)))
    (k : ∀ h', zFin h' → zfr [p] h h' → (∀ j, j < c → h' p j = (G j : Int)) → (∀ j, c ≤ j → h' p j = h p j) → K none h') : zAt X 88 93 0 0 [some (zR 1), none, none, some (zR p), some (zI (c : Int)), none, none, none, some (zI (((l : Int) + 7 - n) * 5040)), some (zI al), some (zI tl), some (zI 0), none, none, none] [] zSHc h (fun v sh' h' => sh' = zSHc ∧ K v h') := by
  have loop : ∀ (q i : Nat) (h1 : zHP) (y : Int), c - i = q → i ≤ c → y = (i : Int) → zFin h1 → zfr [p] h h1 → (∀ j, j < i → h1 p j = (G j : Int)) → (∀ j, i ≤ j → h1 p j = h p j) → zAt X 88 93 0 0 [some (zR 1), none, none, some (zR p), some (zI (c : Int)), none, none, none, some (zI (((l : Int) + 7 - n) * 5040)), some (zI al), some (zI tl), some (zI y), none, none, none] [] zSHc h1 (fun v sh' h' => sh' = zSHc ∧ K v h') := by
    intro q
    induction q with
    | zero =>
      intro i h1 y hq hi hy F1 fr a1 a2
      have ei : i = c := by omega
      subst ei
      apply sq_88_93 F1 ha hs hp <;> intros <;> (try omega)
      exact ⟨rfl, k h1 F1 fr a1 a2⟩
    | succ q ih =>
      intro i h1 y hq hi hy F1 fr a1 a2
      have hi' : i < c := by omega
      obtain ⟨e1, e2⟩ := hE i hi'
      have g := hG i hi'
      have f2 : h1 2 = h 2 := fr 2 (by simp; omega)
      have ey : y.toNat = i := by omega
      have ea : h1 p y.toNat = (E i : Int) := by rw [ey, a2 i (by omega)]; exact e2
      have h5 := zfac7 hn.2
      have eidx : (((l : Int) + 7 - n) * 5040 + h1 p y.toNat).toNat = (5 - (n - 2 - l)) * 5040 + E i := by omega
      have esw : h1 2 (((l : Int) + 7 - n) * 5040 + h1 p y.toNat).toNat = (zx n l (E i) : Int) := by rw [f2, eidx]; exact zsw_rd T hr hn.1 hl e1
      have skip : G i = E i → zAt X 88 93 0 0 [some (zR 1), none, none, some (zR p), some (zI (c : Int)), none, none, none, some (zI (((l : Int) + 7 - n) * 5040)), some (zI al), some (zI tl), some (zI (y + 1)), none, none, none] [] zSHc h1 (fun v sh' h' => sh' = zSHc ∧ K v h') := fun eg =>
        ih (i + 1) h1 _ (by omega) (by omega) (by omega) F1 fr (fun j hj => by
          by_cases cj : j = i
          · rw [cj, eg, a2 i (by omega)]; exact e2
          · exact a1 j (by omega)) (fun j hj => a2 j (by omega))
      have put : G i = zx n l (E i) → zAt X 88 93 0 0 [some (zR 1), none, none, some (zR p), some (zI (c : Int)), none, none, none, some (zI (((l : Int) + 7 - n) * 5040)), some (zI al), some (zI tl), some (zI (y + 1)), none, none, none] [] zSHc (zup h1 p y.toNat (h1 2 (((l : Int) + 7 - n) * 5040 + h1 p y.toNat).toNat)) (fun v sh' h' => sh' = zSHc ∧ K v h') := fun eg => by
        rw [esw, ey]
        refine ih (i + 1) _ _ (by omega) (by omega) (by omega) (F1.upV ha) (fr.up (by simp)) (fun j hj => ?_) (fun j hj => ?_)
        · by_cases cj : j = i
          · rw [cj, zup_eq, eg]
          · rw [zup_k cj]; exact a1 j (by omega)
        · rw [zup_k (by omega)]; exact a2 j (by omega)
      obtain ⟨g1, g2, g3⟩ := g
      clear hE hG a1 a2 ih k
      apply sq_88_93 F1 ha hs hp <;> intros <;> (try omega)
      · exact put (g1 (by omega))
      · exact skip ((g3 (by omega) (by omega)).2 (by omega))
      · exact put ((g3 (by omega) (by omega)).1 (by omega))
      · exact skip ((g2 (by omega) (by omega)).2 (by omega))
      · exact put ((g2 (by omega) (by omega)).1 (by omega))
  exact loop c 0 h 0 (by omega) (by omega) rfl F zfr.rfl (fun j hj => by omega) (fun _ _ => rfl)
/-- leadAll -/
theorem cx_88 {w p n m i c : Nat} {e : zel} {x : Int} {E : Nat → Nat} (F : zFin h) (T : zOT h) (hw : zLad w) (L : zLC h w n m e) (hl : zlok n m e) (hi : i < m) (hx : x = (i : Int)) (ha : zarr p) (hs : zsh X zSHc p = (0, 5040)) (hp : p < 1000) (hp2 : p ≠ 1 ∧ p ≠ 2) (hr : (n : Int) ≤ h 1 1) (hc : c ≤ 5040) (h3 : ¬ (e i).1 = 3) (hE : ∀ j, j < c → E j < zfac n ∧ h p j = (E j : Int)) (k : ∀ h', zFin h' → zfr [p] h h' → (∀ j, j < c → h' p j = (zst n (e i) true (E j) : Int)) → (∀ j, c ≤ j → h' p j = h p j) → K none h') : zC X 88 [zR 1, zR w, zI x, zR p, zI (c : Int)] h K := by
  have hk := L.kd hl hi
  have hg := L.lg hl hi
  rw [← hx] at hk hg
  obtain ⟨hk4, hl2, -⟩ := hl.2.2.2 i hi
  have hn := hl.1
  have q1 := L.1
  have go : ∀ al tl : Int, (tl = 0 ∨ tl = 1) → ((¬ al = 0 ∧ ¬ (e i).1 = 1 ∧ ¬ (e i).1 = 2) ∨ (al = 0 ∧ tl = 1 ∧ (e i).1 = 1) ∨ (al = 0 ∧ tl = 0 ∧ (e i).1 = 2)) → zAt X 88 93 0 0 [some (zR 1), none, none, some (zR p), some (zI (c : Int)), none, none, none, some (zI (((e i).2.1 + 7 - n : Int) * 5040)), some (zI al), some (zI tl), some (zI 0), none, none, none] [] zSHc h (fun v sh' h' => sh' = zSHc ∧ K v h') := by
    intro al tl htl hcase
    refine cx_88l (E := E) (G := fun j => zst n (e i) true (E j)) F T ha hs hp hp2 hn hr hl2 hc htl hE (fun j hj => ?_) k
    rcases hcase with ⟨c1, c2, c3⟩ | ⟨c1, c2, c3⟩ | ⟨c1, c2, c3⟩
    · refine ⟨fun _ => zst_r c2 c3, fun z => absurd z c1, fun z => absurd z c1⟩
    · refine ⟨fun z => absurd c1 z, fun _ z => ⟨fun _ => ?_, fun y => by omega⟩, fun _ z => ⟨fun y => by omega, fun _ => ?_⟩⟩
      · show zst n (e i) true (E j) = _
        rw [zst_g c3]; omega
      · show zst n (e i) true (E j) = _
        rw [zst_g c3]; omega
    · refine ⟨fun z => absurd c1 z, fun _ z => ⟨fun y => by omega, fun _ => ?_⟩, fun _ z => ⟨fun _ => ?_, fun y => by omega⟩⟩
      · show zst n (e i) true (E j) = _
        rw [zst_b c3]; omega
      · show zst n (e i) true (E j) = _
        rw [zst_b c3]; omega
  clear hE k
  apply sq_88_0 F hw <;> intros <;> (try omega)
  · rw [hg, q1]; exact go 1 0 (Or.inl rfl) (Or.inl ⟨by decide, by omega, by omega⟩)
  · rw [hg, q1]; exact go 0 0 (Or.inl rfl) (Or.inr (Or.inr ⟨rfl, rfl, by omega⟩))
  · rw [hg, q1]; exact go 0 1 (Or.inr rfl) (Or.inr (Or.inl ⟨rfl, rfl, by omega⟩))
/-- part -/
theorem cx_69 {o w r1 r2 r3 r4 n m i c : Nat} {e : zel} {x : Int} {E W V : Nat → Nat} (F : zFin h) (T : zOT h) (hp : zOdd o) (hw : zLad w) (hD : zDis o r1 r2 r3 r4) (hf1 : h o 1 = ((r1 : Nat) : Int)) (hf2 : h o 2 = ((r2 : Nat) : Int)) (hf3 : h o 3 = ((r3 : Nat) : Int)) (hf4 : h o 4 = ((r4 : Nat) : Int)) (L : zLC h w n m e) (hl : zlok n m e) (hi : i < m) (hx : x = (i : Int)) (h3 : (e i).1 = 3) (hr : (n : Int) ≤ h 1 1) (h8 : h o 8 = (n : Int)) (h6 : h o 6 = (c : Int)) (hc : c ≤ 5040) (hE : ∀ j, j < c → E j < zfac n ∧ h r1 j = (E j : Int) ∧ h r2 j = (W j : Int)) (h7 : h o 7 = 0) (h0 : ∀ v, v < 5040 → h (o + 5) v = 0) (hV : ∀ u, u < zfac n → V u = zwt E W c u) (hB : zsu W c * (e i).2.2.2 ≤ 4398046511104)
    (k : ∀ (h' : zHP) (c' : Nat) (E' W' : Nat → Nat), zFin h' → zfr [o, r3, r4, o + 5] h h' → (∀ j, j ≠ 7 → h' o j = h o j) → zOB h' o r3 r4 n c' E' W' → (∀ u, u < zfac n → zwt E' W' c' u = zpf n (e i) V u) → zsu W' c' = zsu W c * (e i).2.2.2 → K none h') : zC X 69 [zR o, zR w, zI x] h K := by
  have hk := L.kd hl hi
  have hg := L.lg hl hi
  have hwa := L.wa hl hi
  have hwb := L.wb hl hi
  rw [if_pos h3, ← hx] at hwa hwb
  rw [← hx] at hk hg
  obtain ⟨hk4, hl2, hmay⟩ := hl.2.2.2 i hi
  obtain ⟨m1, m2, m3⟩ := hmay h3
  have hn := hl.1
  have hwo : o ≠ 1 ∧ o ≠ 2 := by unfold zOdd at hp; omega
  have hr12 : r3 ≠ 1 ∧ r3 ≠ 2 ∧ r4 ≠ 1 ∧ r4 ≠ 2 ∧ o + 5 ≠ 1 ∧ o + 5 ≠ 2 := by unfold zOdd at hp; unfold zDis at hD; omega
  generalize ha : (e i).2.2.1 = a at *
  generalize hb : (e i).2.2.2 = b at *
  generalize hlg : (e i).2.1 = l at *
  have B0 : zOB h o r3 r4 n 0 E W := ⟨h7, fun j hj => by omega, fun i j hj => by omega, fun j hj => by omega, fun v hv _ => h0 v hv⟩
  have loop : ∀ (q j : Nat) (h1 : zHP) (y : Int) (c1 : Nat) (E1 W1 : Nat → Nat), c - j = q → j ≤ c → y = (j : Int) → zFin h1 → zfr [o, r3, r4, o + 5] h h1 → (∀ j, j ≠ 7 → h1 o j = h o j) → zOB h1 o r3 r4 n c1 E1 W1 → (∀ u, zwt E1 W1 c1 u = zsu (fun i => (if E i = u then W i * (b - a) else 0) + (if zx n l (E i) = u then W i * a else 0)) j) → zsu W1 c1 = zsu W j * b → zAt X 69 25 0 0 [some (zR o), none, none, some (zI (a : Int)), some (zI ((b : Int) - a)), some (zI (l : Int)), some (zI y)] [] zSHc h1 (fun v sh' h' => sh' = zSHc ∧ K v h') := by
    intro q
    induction q with
    | zero =>
      intro j h1 y c1 E1 W1 hq hj hy F1 fr f7 B1 w1 s1
      have ej : j = c := by omega
      subst ej
      have g6 : h1 o 6 = (j : Int) := by rw [f7 6 (by decide)]; exact h6
      have g1 : h1 o 1 = ((r1 : Nat) : Int) := by rw [f7 1 (by decide)]; exact hf1
      have g2 : h1 o 2 = ((r2 : Nat) : Int) := by rw [f7 2 (by decide)]; exact hf2
      have kk := k h1 c1 E1 W1 F1 fr f7 B1 (fun u hu => by
        rw [w1 u, zwt_pf (fun i hi => (hE i hi).1) hV]
        simp only [if_pos h3, ha, hb, hlg]) s1
      clear k hE h0 B1 w1
      apply sg_69_25 g2 g1 hD hp <;> intros <;> (try omega)
      exact ⟨rfl, kk⟩
    | succ q ih =>
      intro j h1 y c1 E1 W1 hq hj hy F1 fr f7 B1 w1 s1
      have hj' : j < c := by omega
      obtain ⟨e1, e2, e3⟩ := hE j hj'
      have g6 : h1 o 6 = (c : Int) := by rw [f7 6 (by decide)]; exact h6
      have g1 : h1 o 1 = ((r1 : Nat) : Int) := by rw [f7 1 (by decide)]; exact hf1
      have g2 : h1 o 2 = ((r2 : Nat) : Int) := by rw [f7 2 (by decide)]; exact hf2
      have g3 : h1 o 3 = ((r3 : Nat) : Int) := by rw [f7 3 (by decide)]; exact hf3
      have g4 : h1 o 4 = ((r4 : Nat) : Int) := by rw [f7 4 (by decide)]; exact hf4
      have ey : y.toNat = j := by omega
      have fr1 : h1 r1 = h r1 := fr r1 (by have := zd_1_0 hD; have := zd_1_3 hD; have := zd_1_4 hD; have := zd_1_5 hD; simp; omega)
      have fr2 : h1 r2 = h r2 := fr r2 (by have := zd_2_0 hD; have := zd_2_3 hD; have := zd_2_4 hD; have := zd_2_5 hD; simp; omega)
      have v1 : h1 r1 y.toNat = (E j : Int) := by rw [ey, fr1]; exact e2
      have v2 : h1 r2 y.toNat = (W j : Int) := by rw [ey, fr2]; exact e3
      have sj : zsu W (j + 1) ≤ zsu W c := by
        have : ∀ t, j + 1 ≤ t → zsu W (j + 1) ≤ zsu W t := by
          intro t ht
          induction t with
          | zero => omega
          | succ t iht =>
            by_cases ct : j + 1 = t + 1
            · rw [ct]; exact Nat.le_refl _
            · have := iht (by omega)
              show _ ≤ zsu W t + W t
              omega
        exact this c (by omega)
      have sj2 : zsu W (j + 1) * b ≤ zsu W c * b := Nat.mul_le_mul_right _ sj
      have sj3 : zsu W (j + 1) * b = zsu W j * b + W j * b := by rw [show zsu W (j + 1) = zsu W j + W j from rfl, Nat.add_mul]
      have ab : W j * (b - a) + W j * a = W j * b := by rw [← Nat.mul_add]; congr 1; omega
      have t1 : h1 r2 y.toNat * ((b : Int) - a) = ((W j * (b - a) : Nat) : Int) := by
        rw [v2, show ((b : Int) - a) = ((b - a : Nat) : Int) by omega]; exact (Int.natCast_mul _ _).symm
      have nx : zC X 70 [zR o, zI (h1 r1 y.toNat), zL (h1 r2 y.toNat * ((b : Int) - a))] h1 (fun v h9 => zAt X 69 76 0 0 [some (zR o), none, none, some (zI (a : Int)), some (zI ((b : Int) - a)), some (zI (l : Int)), some (zI y)] (zpush v []) zSHc h9 (fun v sh' h' => sh' = zSHc ∧ K v h')) := by
        rw [t1, v1]
        refine cx_70 F1 hp hD g3 g4 B1 hn.2 e1 (by omega) fun h2 c2 E2 W2 F2 fr2' f72 B2 w2 s2 => ?_
        have p1 : h2 o 1 = ((r1 : Nat) : Int) := by rw [f72 1 (by decide)]; exact g1
        have p2 : h2 o 2 = ((r2 : Nat) : Int) := by rw [f72 2 (by decide)]; exact g2
        have p3 : h2 o 3 = ((r3 : Nat) : Int) := by rw [f72 3 (by decide)]; exact g3
        have p4 : h2 o 4 = ((r4 : Nat) : Int) := by rw [f72 4 (by decide)]; exact g4
        have p8 : h2 o 8 = (n : Int) := by rw [f72 8 (by decide), f7 8 (by decide)]; exact h8
        have q1 : h2 r1 = h1 r1 := fr2' r1 (by have := zd_1_0 hD; have := zd_1_3 hD; have := zd_1_4 hD; have := zd_1_5 hD; simp; omega)
        have q2 : h2 r2 = h1 r2 := fr2' r2 (by have := zd_2_0 hD; have := zd_2_3 hD; have := zd_2_4 hD; have := zd_2_5 hD; simp; omega)
        have FRall := fr.trans fr2'
        have T2 : zOT h2 := by
          obtain ⟨r, t1, t2, t3, t4⟩ := T
          refine ⟨r, by rw [FRall 1 (by simp; omega)]; exact t1, t2, t3, fun j o a b => by rw [FRall 2 (by simp; omega)]; exact t4 j o a b⟩
        have hr2 : (n : Int) ≤ h2 1 1 := by rw [FRall 1 (by simp; omega)]; exact hr
        refine sg_69_76c F2 p1 hD hp (by omega) ?_
        rw [p8, q1, v1]
        refine cx_86 F2 T2 hn.1 hr2 hl2 e1 (sg_69_97c p2 hD hp (by omega) (by rw [q2, v2, ← Int.natCast_mul]; omega) ?_)
        rw [q2, v2, ← Int.natCast_mul]
        refine cx_70 F2 hp hD p3 p4 B2 hn.2 (zx_lt e1 hl2) (by omega) fun h3' c3 E3 W3 F3 fr3 f73 B3 w3 s3 => sg_69_110c (by omega) ?_
        refine ih (j + 1) h3' _ c3 E3 W3 (by omega) (by omega) (by omega) F3 (FRall.trans fr3) (fun t ht => by rw [f73 t ht, f72 t ht]; exact f7 t ht) B3 (fun u => ?_) (by omega)
        rw [w3 u, w2 u, w1 u]
        exact Nat.add_assoc _ _ _
      clear ih k hE h0 w1 B1
      apply sg_69_25 g2 g1 hD hp <;> intros <;> (try omega)
      all_goals exact nx
  refine sg_69_0 F hw (by omega) ?_
  rw [hwa, hwb, hg]
  exact loop c 0 h 0 0 E W (by omega) (by omega) rfl F zfr.rfl (fun _ _ => rfl) B0 (fun u => rfl) (by show 0 = 0 * b; omega)
end
