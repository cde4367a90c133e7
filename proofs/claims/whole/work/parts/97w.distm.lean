/-! THE REFERENCE: DISTANCES -/
def zcnD (N : Nat) (D : Nat → Int) : Nat := zsu (fun j => if D j = -1 then 0 else 1) N
def zmu (N : Nat) (D : Nat → Int) : Nat := zsu (fun j => if D j = -1 then N + 1 else (D j).toNat) N
/-- what holds while distances are mended -/
def zFB (N : Nat) (S T : Nat → Nat → Prop) (c b : Nat) (D : Nat → Int) : Prop := (∀ j, j < N → D j = -1 ∨ ∃ s l : Nat, D j = (s : Int) ∧ zpa N S T c b l j s) ∧ D b = 0 ∧ ∀ j, j < N → D j + 1 ≤ (zcnD N D : Int)
theorem zcnD_le {N : Nat} {D : Nat → Int} : zcnD N D ≤ N := by
  have := zsu_bd (f := fun j => if D j = -1 then 0 else 1) (b := 1) N fun i _ => by
    show (if D i = -1 then 0 else 1) ≤ 1
    split <;> omega
  unfold zcnD
  omega
theorem zFB.up {N c b i t w : Nat} {S T : Nat → Nat → Prop} {D D' : Nat → Int} (I : zFB N S T c b D) (hi : i < N) (ht : t < N) (hd : D i ≠ -1) (hw : (S i t ∧ w = c) ∨ (T i t ∧ w = 1)) (hw1 : w ≤ 1) (h : D t = -1 ∨ D i + w < D t) (e : ∀ j, D' j = if j = t then D i + w else D j) : zFB N S T c b D' ∧ zmu N D' < zmu N D := by
  obtain ⟨i1, i2, i3⟩ := I
  obtain ⟨s, l, es, ps⟩ := (i1 i hi).resolve_left hd
  have ci := i3 i hi
  have cl := zcnD_le (N := N) (D := D)
  have c2 : zcnD N D' + (if D t = -1 then 0 else 1) = zcnD N D + 1 := by
    have c1 : zcnD N D' = zsu (fun j => if j = t then 1 else (if D j = -1 then 0 else 1)) N := zsu_congr fun j _ => by
      show (if D' j = -1 then 0 else 1) = _
      rw [e j]
      by_cases q : j = t
      · rw [if_pos q, if_pos q, if_neg (by omega)]
      · rw [if_neg q, if_neg q]
    rw [c1]
    exact zsu_upd (C := fun j => if D j = -1 then 0 else 1) ht
  have m2 : zmu N D' + (if D t = -1 then N + 1 else (D t).toNat) = zmu N D + (D i + w).toNat := by
    have c1 : zmu N D' = zsu (fun j => if j = t then (D i + w).toNat else (if D j = -1 then N + 1 else (D j).toNat)) N := zsu_congr fun j _ => by
      show (if D' j = -1 then N + 1 else (D' j).toNat) = _
      rw [e j]
      by_cases q : j = t
      · rw [if_pos q, if_pos q, if_neg (by omega)]
      · rw [if_neg q, if_neg q]
    rw [c1]
    exact zsu_upd (C := fun j => if D j = -1 then N + 1 else (D j).toNat) ht
  refine ⟨⟨fun j hj => ?_, ?_, fun j hj => ?_⟩, ?_⟩
  · rw [e j]
    by_cases q : j = t
    · rw [if_pos q]
      refine Or.inr ⟨s + w, l + 1, by omega, i, s, hi, ps, ?_⟩
      rw [q]
      rcases hw with ⟨a1, a2⟩ | ⟨a1, a2⟩
      · exact Or.inl ⟨a1, by omega⟩
      · exact Or.inr ⟨a1, by omega⟩
    · rw [if_neg q]
      exact i1 j hj
  · rw [e b]
    by_cases q : b = t
    · rw [q] at i2
      omega
    · rw [if_neg q]
      exact i2
  · have cj := i3 j hj
    rw [e j]
    by_cases a : D t = -1
    · rw [if_pos a] at c2
      by_cases q : j = t
      · rw [if_pos q]; omega
      · rw [if_neg q]; omega
    · rw [if_neg a] at c2
      have ct := i3 t ht
      by_cases q : j = t
      · rw [if_pos q]; omega
      · rw [if_neg q]; omega
  · by_cases a : D t = -1
    · rw [if_pos a] at m2
      omega
    · rw [if_neg a] at m2
      omega
/-- nothing is to be mended at an edge -/
def zRx (D : Nat → Int) (n o c v i : Nat) : Prop := D v ≠ -1 → (zisS n o v i → D (zslr n o v i) ≠ -1 ∧ D (zslr n o v i) ≤ D v + c) ∧ (zisT n o v i → D (ztnr n o v i) ≠ -1 ∧ D (ztnr n o v i) ≤ D v + 1)
theorem zFB.fin {n o c b : Nat} {D : Nat → Int} (hn : n ≤ 7) (I : zFB (zTl n o) (zES n o) (zET n o) c b D) (R : ∀ v i, v < zTl n o → i < 21 → zRx D n o c v i) : zDs (zTl n o) (zES n o) (zET n o) c b D := by
  have m21 := zinvs_le (o := o) hn
  refine ⟨I.1, I.2.1, fun i j hi _ hd e => ?_, fun i j hi _ hd e => ?_⟩
  · obtain ⟨a, a1, a2⟩ := e
    have a3 := a1.1
    have r := (R i a hi (by omega) hd).1 a1
    rw [a2] at r
    exact r
  · obtain ⟨a, a1, a2⟩ := e
    have a3 := a1.1
    have r := (R i a hi (by omega) hd).2 a1
    rw [a2] at r
    exact r
theorem zWE.fr {h h2 : zHP} {n o c : Nat} (W : zWE h n o c) (f : zfr [147] h h2) : zWE h2 n o c := fun v i a b => by
  unfold zWa1
  rw [f 145 (by decide), f 146 (by decide)]
  exact W v i a b
section
variable {X : List Int} {h : zHP} {K : Option zAV → zHP → Prop}
/-- distances -/
theorem cm_283 {n o b c : Nat} {x y z : Int} (F : zFin h) (hn : n ≤ 7) (ho : o < zfac n) (h8 : zTl n o ≤ 800) (W : zWE h n o (21 * zTl n o)) (hb : b < zTl n o) (hc : c = 0 ∨ c = 1) (hx : x = (zTl n o : Int)) (hy : y = (b : Int)) (hz : z = (c : Int)) (k : ∀ h', zFin h' → zfr [147] h h' → zDs (zTl n o) (zES n o) (zET n o) c b (fun j => h' 147 j) → K none h') : zC X 283 [zR 108, zI x, zI y, zI z] h K := by
  have m21 := zinvs_le (o := o) hn
  have round : ∀ (m : Nat) (h0 : zHP), zmu (zTl n o) (fun j => h0 147 j) < m → zFin h0 → zfr [147] h h0 → zFB (zTl n o) (zES n o) (zET n o) c b (fun j => h0 147 j) → zAt X 283 33 0 0 [some (zR 108), some (zI x), none, some (zI z), some (zI 1), none, none, none, none] [] zSHc h0 (fun v sh' h' => sh' = zSHc ∧ K v h') := by
    intro m
    induction m with
    | zero => intro h0 hm; omega
    | succ m ihm =>
      intro h0 hm F0 fr0 I0
      have pass : ∀ (r v : Nat) (h1 : zHP) (x4 x5 : Int), zTl n o - v = r → v ≤ zTl n o → x5 = (v : Int) → zFin h1 → zfr [147] h h1 → zFB (zTl n o) (zES n o) (zET n o) c b (fun j => h1 147 j) → zmu (zTl n o) (fun j => h1 147 j) ≤ m → ((x4 = 0 ∧ ∀ v' i', v' < v → i' < 21 → zRx (fun j => h1 147 j) n o c v' i') ∨ (x4 = 1 ∧ zmu (zTl n o) (fun j => h1 147 j) < m)) → zAt X 283 44 0 0 [some (zR 108), some (zI x), none, some (zI z), some (zI x4), some (zI x5), none, none, none] [] zSHc h1 (fun v sh' h' => sh' = zSHc ∧ K v h') := by
        intro r
        induction r with
        | zero =>
          intro v h1 x4 x5 hr hv e5 F1 fr1 I1 mu C
          have ev : v = zTl n o := by omega
          refine sg_283_44 F1 (fun _ => ?_) (fun a => by omega) (fun a => by omega) (fun a => by omega) (fun a => by omega)
          rcases C with ⟨c1, c2⟩ | ⟨c1, c2⟩
          · exact sg_283_33 (fun _ => ⟨rfl, k h1 F1 fr1 (zFB.fin hn I1 fun v' i' a b => c2 v' i' (by omega) b)⟩) (fun a => absurd c1 a)
          · rw [c1]
            exact ihm h1 c2 F1 fr1 I1
        | succ r ihr =>
          intro v h1 x4 x5 hr hv e5 F1 fr1 I1 mu C
          have hv2 : v < zTl n o := by omega
          have e147 : h1 147 x5.toNat = h1 147 v := by rw [show x5.toNat = v by omega]
          have inner : ∀ (s i : Nat) (h2 : zHP) (x4 x6 : Int), 21 - i = s → i ≤ 21 → x6 = (i : Int) → zFin h2 → zfr [147] h h2 → zFB (zTl n o) (zES n o) (zET n o) c b (fun j => h2 147 j) → h2 147 v ≠ -1 → zmu (zTl n o) (fun j => h2 147 j) ≤ m → ((x4 = 0 ∧ ∀ v' i', i' < 21 → 21 * v' + i' < 21 * v + i → zRx (fun j => h2 147 j) n o c v' i') ∨ (x4 = 1 ∧ zmu (zTl n o) (fun j => h2 147 j) < m)) → zAt X 283 66 0 0 [some (zR 108), some (zI x), none, some (zI z), some (zI x4), some (zI x5), some (zI x6), none, none] [] zSHc h2 (fun v sh' h' => sh' = zSHc ∧ K v h') := by
            intro s
            induction s with
            | zero =>
              intro i h2 x4 x6 hs hi e6 F2 fr2 I2 hd mu C
              refine sg_283_66 F2 (fun _ => by omega) (fun _ => ?_) (fun a => by omega) (fun a => by omega) (fun a => by omega) (fun a => by omega) (fun a => by omega) (fun a => by omega) (fun a => by omega) (fun a => by omega) (fun a => by omega) (fun a => by omega) (fun a => by omega) (fun a => by omega) (fun a => by omega) (fun a => by omega) (fun a => by omega) (fun a => by omega) (fun a => by omega) (fun a => by omega) (fun a => by omega) (fun a => by omega) (fun a => by omega) (fun a => by omega)
              refine ihr (v + 1) h2 x4 (x5 + 1) (by omega) (by omega) (by omega) F2 fr2 I2 mu ?_
              rcases C with ⟨c1, c2⟩ | c1
              · exact Or.inl ⟨c1, fun v' i' a b => c2 v' i' b (by omega)⟩
              · exact Or.inr c1
            | succ s ihs =>
              intro i h2 x4 x6 hs hi e6 F2 fr2 I2 hd mu C
              have ec : ((21 * x5) + x6).toNat = 21 * v + i := by omega
              have w := W.fr fr2 v i (by omega) (by omega)
              have f147 : h2 147 x5.toNat = h2 147 v := by rw [show x5.toNat = v by omega]
              obtain ⟨s0, l0, es0, _⟩ := (I2.1 v hv2).resolve_left hd
              have es0 : h2 147 v = (s0 : Int) := es0
              have cv : h2 147 v + 1 ≤ _ := I2.2.2 v hv2
              have cl := zcnD_le (N := zTl n o) (D := fun j => h2 147 j)
              have skip : zRx (fun j => h2 147 j) n o c v i → zAt X 283 66 0 0 [some (zR 108), some (zI x), none, some (zI z), some (zI x4), some (zI x5), some (zI (x6 + 1)), none, none] [] zSHc h2 (fun v sh' h' => sh' = zSHc ∧ K v h') := fun rx => ihs (i + 1) h2 x4 (x6 + 1) (by omega) (by omega) (by omega) F2 fr2 I2 hd mu (by
                rcases C with ⟨c1, c2⟩ | c1
                · refine Or.inl ⟨c1, fun v' i' a b => ?_⟩
                  by_cases d : 21 * v' + i' < 21 * v + i
                  · exact c2 v' i' a d
                  · have ev : v' = v := by omega
                    have ei : i' = i := by omega
                    rw [ev, ei]
                    exact rx
                · exact Or.inr c1)
              have put : ∀ (t w : Nat), t < zTl n o → (zES n o v t ∧ w = c) ∨ (zET n o v t ∧ w = 1) → w ≤ 1 → (h2 147 t = -1 ∨ h2 147 v + w < h2 147 t) → zAt X 283 66 0 0 [some (zR 108), some (zI x), none, some (zI z), some (zI 1), some (zI x5), some (zI (x6 + 1)), none, none] [] zSHc (zup h2 147 t (h2 147 v + w)) (fun v sh' h' => sh' = zSHc ∧ K v h') := fun t w ht hw hw1 hlt => by
                have ed : ∀ j, (fun j => zup h2 147 t (h2 147 v + w) 147 j) j = if j = t then (fun j => h2 147 j) v + w else (fun j => h2 147 j) j := fun j => by
                  show zup h2 147 t (h2 147 v + w) 147 j = if j = t then h2 147 v + w else h2 147 j
                  by_cases q : j = t
                  · rw [q, zup_eq, if_pos rfl]
                  · rw [zup_k q, if_neg q]
                obtain ⟨u1, u2⟩ := I2.up hv2 ht hd hw hw1 hlt ed
                refine ihs (i + 1) _ 1 (x6 + 1) (by omega) (by omega) (by omega) (F2.upA zfa_147) (fr2.up (by simp)) u1 ?_ (by omega) (Or.inr ⟨rfl, by omega⟩)
                by_cases q : v = t
                · rw [q, zup_eq, ← q]; omega
                · rw [zup_k q]; exact hd
              have dt : ∀ t, t < zTl n o → h2 147 t = -1 ∨ 0 ≤ h2 147 t := fun t ht => by
                rcases I2.1 t ht with a | ⟨s1, _, a, _⟩
                · exact Or.inl a
                · have a : h2 147 t = (s1 : Int) := a
                  exact Or.inr (by omega)
              by_cases S : zisS n o v i
              · obtain ⟨e145, e146⟩ := w.1 S
                have ht := (zslr_ok ho hv2 S).1
                have dt := dt _ ht
                rw [← ec] at e145 e146
                have et : h2 147 ((h2 145 (((21 * x5) + x6).toNat)).toNat) = h2 147 (zslr n o v i) := by rw [e145, Int.toNat_natCast]
                have p : (h2 147 (zslr n o v i) = -1 ∨ h2 147 v + c < h2 147 (zslr n o v i)) → zAt X 283 66 0 0 [some (zR 108), some (zI x), none, some (zI z), some (zI 1), some (zI x5), some (zI (x6 + 1)), none, none] [] zSHc (zup h2 147 ((h2 145 (((21 * x5) + x6).toNat)).toNat) ((h2 147 x5.toNat) + z)) (fun v sh' h' => sh' = zSHc ∧ K v h') := fun hlt => by
                  have q := put (zslr n o v i) c ht (Or.inl ⟨⟨i, S, rfl⟩, rfl⟩) (by omega) hlt
                  rw [e145, Int.toNat_natCast, f147]
                  rw [← hz] at q
                  exact q
                have rx : 0 ≤ h2 147 (zslr n o v i) → h2 147 (zslr n o v i) ≤ h2 147 v + c → zRx (fun j => h2 147 j) n o c v i := fun a b _ => ⟨fun _ => ⟨fun z => by have z : h2 147 (zslr n o v i) = -1 := z; omega, b⟩, fun T => (zST S T).elim⟩
                clear w W ihs ihr ihm put I2 I1 I0 C
                exact sg_283_66 F2 (fun a => by omega) (fun a => by omega) (fun _ => by omega) (fun _ => by omega) (fun _ => by omega) (fun _ _ => by omega) (fun _ _ _ => by omega) (fun _ _ _ => by omega) (fun _ _ _ _ => by omega) (fun _ _ _ a => p (Or.inl (by omega))) (fun _ _ _ _ _ => by omega) (fun _ _ _ _ a => p (Or.inr (by omega))) (fun _ _ _ _ _ => by omega) (fun _ _ _ a b => skip (rx (by omega) (by omega))) (fun _ _ a => absurd e146 a) (fun _ _ a => absurd e146 a) (fun _ _ a => absurd e146 a) (fun _ _ a => absurd e146 a) (fun _ _ a => absurd e146 a) (fun _ _ a => absurd e146 a) (fun _ _ a => absurd e146 a) (fun _ _ a => absurd e146 a) (fun _ a => by omega) (fun _ a => by omega)
              · by_cases T : zisT n o v i
                · obtain ⟨e145, e146⟩ := w.2.1 T
                  have ht := (ztnr_ok ho hv2 T).1
                  have dt := dt _ ht
                  rw [← ec] at e145 e146
                  have et : h2 147 ((h2 145 (((21 * x5) + x6).toNat)).toNat) = h2 147 (ztnr n o v i) := by rw [e145, Int.toNat_natCast]
                  have p : (h2 147 (ztnr n o v i) = -1 ∨ h2 147 v + (1 : Nat) < h2 147 (ztnr n o v i)) → zAt X 283 66 0 0 [some (zR 108), some (zI x), none, some (zI z), some (zI 1), some (zI x5), some (zI (x6 + 1)), none, none] [] zSHc (zup h2 147 ((h2 145 (((21 * x5) + x6).toNat)).toNat) ((h2 147 x5.toNat) + 1)) (fun v sh' h' => sh' = zSHc ∧ K v h') := fun hlt => by
                    have q := put (ztnr n o v i) 1 ht (Or.inr ⟨⟨i, T, rfl⟩, rfl⟩) (by omega) hlt
                    rw [e145, Int.toNat_natCast, f147]
                    exact q
                  have rx : 0 ≤ h2 147 (ztnr n o v i) → h2 147 (ztnr n o v i) ≤ h2 147 v + 1 → zRx (fun j => h2 147 j) n o c v i := fun a b _ => ⟨fun z => absurd z S, fun _ => ⟨fun z => by have z : h2 147 (ztnr n o v i) = -1 := z; omega, b⟩⟩
                  clear w W ihs ihr ihm put I2 I1 I0 C
                  have n146 : ¬ h2 146 (((21 * x5) + x6).toNat) = 0 := by omega
                  exact sg_283_66 F2 (fun a => by omega) (fun a => by omega) (fun _ => by omega) (fun _ => by omega) (fun _ => by omega) (fun _ _ => by omega) (fun _ _ a => absurd a n146) (fun _ _ a => absurd a n146) (fun _ _ a => absurd a n146) (fun _ _ a => absurd a n146) (fun _ _ a => absurd a n146) (fun _ _ a => absurd a n146) (fun _ _ a => absurd a n146) (fun _ _ a => absurd a n146) (fun _ _ _ => by omega) (fun _ _ _ => by omega) (fun _ _ _ _ => by omega) (fun _ _ _ a => p (Or.inl (by omega))) (fun _ _ _ _ _ => by omega) (fun _ _ _ _ a => p (Or.inr (by omega))) (fun _ _ _ _ _ => by omega) (fun _ _ _ a b => skip (rx (by omega) (by omega))) (fun _ a => by omega) (fun _ a => by omega)
                · have e145 := w.2.2 S T
                  rw [← ec] at e145
                  have sk := skip fun _ => ⟨fun z => absurd z S, fun z => absurd z T⟩
                  clear w W ihs ihr ihm put I2 I1 I0 C skip
                  exact sg_283_66 F2 (fun a => by omega) (fun a => by omega) (fun _ => by omega) (fun _ => by omega) (fun _ => by omega) (fun _ a => by omega) (fun _ a => by omega) (fun _ a => by omega) (fun _ a => by omega) (fun _ a => by omega) (fun _ a => by omega) (fun _ a => by omega) (fun _ a => by omega) (fun _ a => by omega) (fun _ a => by omega) (fun _ a => by omega) (fun _ a => by omega) (fun _ a => by omega) (fun _ a => by omega) (fun _ a => by omega) (fun _ a => by omega) (fun _ a => by omega) (fun _ _ => by omega) (fun _ _ => sk)
          have dv : h1 147 v = -1 ∨ 0 ≤ h1 147 v := by
            rcases I1.1 v hv2 with a | ⟨s1, _, a, _⟩
            · exact Or.inl a
            · have a : h1 147 v = (s1 : Int) := a
              exact Or.inr (by omega)
          refine sg_283_44 F1 (fun a => by omega) (fun _ => by omega) (fun _ a => ?_) (fun _ _ => by omega) (fun _ a => ?_)
          · refine inner 21 0 h1 x4 0 rfl (by omega) rfl F1 fr1 I1 (by omega) mu ?_
            rcases C with ⟨c1, c2⟩ | c1
            · exact Or.inl ⟨c1, fun v' i' a b => c2 v' i' (by omega) a⟩
            · exact Or.inr c1
          · refine ihr (v + 1) h1 x4 (x5 + 1) (by omega) (by omega) (by omega) F1 fr1 I1 mu ?_
            rcases C with ⟨c1, c2⟩ | c1
            · refine Or.inl ⟨c1, fun v' i' a b => ?_⟩
              by_cases d : v' < v
              · exact c2 v' i' d b
              · have ev : v' = v := by omega
                rw [ev]
                intro z
                have z : h1 147 v ≠ -1 := z
                omega
            · exact Or.inr c1
      exact sg_283_33 (fun a => absurd a (by decide)) (fun _ => pass _ 0 h0 0 0 rfl (Nat.zero_le _) rfl F0 fr0 I0 (by omega) (Or.inl ⟨rfl, fun v' i' a => absurd a (Nat.not_lt_zero _)⟩))
  have init : ∀ (r v : Nat) (h1 : zHP) (x4 : Int), zTl n o - v = r → v ≤ zTl n o → x4 = (v : Int) → zFin h1 → zfr [147] h h1 → (∀ j, j < v → h1 147 j = -1) → zAt X 283 3 0 0 [some (zR 108), some (zI x), some (zI y), some (zI z), some (zI x4), none, none, none, none] [] zSHc h1 (fun v sh' h' => sh' = zSHc ∧ K v h') := by
    intro r
    induction r with
    | zero =>
      intro v h1 x4 hr hv e4 F1 fr1 C
      refine sg_283_3 F1 (fun _ => by omega) (fun _ => ?_) (fun a => by omega) (fun a => by omega) (fun a => by omega)
      have ey : y.toNat = b := by omega
      rw [ey]
      have z : ∀ j, j < zTl n o → zup h1 147 b 0 147 j = -1 ∨ (j = b ∧ zup h1 147 b 0 147 j = 0) := fun j hj => by
        by_cases q : j = b
        · exact Or.inr ⟨q, by rw [q, zup_eq]⟩
        · exact Or.inl (by rw [zup_k q]; exact C j (by omega))
      refine round _ _ (Nat.lt_succ_self _) (F1.upA zfa_147) (fr1.up (by simp)) ⟨fun j hj => ?_, zup_eq, fun j hj => ?_⟩
      · rcases z j hj with a | ⟨a1, a2⟩
        · exact Or.inl a
        · exact Or.inr ⟨0, 0, a2, a1, rfl⟩
      · have g := zsu_ge (f := fun j => if zup h1 147 b 0 147 j = -1 then 0 else 1) hb
        have g2 : (if zup h1 147 b 0 147 b = -1 then 0 else 1) ≤ zcnD (zTl n o) (fun j => zup h1 147 b 0 147 j) := g
        rw [zup_eq, if_neg (by decide)] at g2
        show zup h1 147 b 0 147 j + 1 ≤ _
        rcases z j hj with a | ⟨a1, a2⟩
        · rw [a]; omega
        · rw [a2]; omega
    | succ r ih =>
      intro v h1 x4 hr hv e4 F1 fr1 C
      refine sg_283_3 F1 (fun a => by omega) (fun a => by omega) (fun _ => by omega) (fun _ => by omega) (fun _ => ?_)
      rw [show x4.toNat = v by omega]
      refine ih (v + 1) _ _ (by omega) (by omega) (by omega) (F1.upA zfa_147) (fr1.up (by simp)) fun j hj => ?_
      by_cases q : j = v
      · rw [q, zup_eq]
      · rw [zup_k q]; exact C j (by omega)
  exact sg_283_0 (init _ 0 h 0 rfl (Nat.zero_le _) rfl F zfr.rfl fun j hj => absurd hj (Nat.not_lt_zero _))
end
