/-! TEXTS, THE REFERENCE: WHAT IS TOLD; NOTES; ELEMENTS -/
def znmT (tb : Nat → Nat) (T q : Nat) : Int := (zwdN 27 (zlfN tb (zpcT tb T q)) (zlnE tb T (zpcT tb T q) - zpcT tb T q) : Int)
theorem zk110 {tb : Nat → Nat} {T q : Nat} (h : zkdT tb T q = 110) : zpcT tb T q < T ∧ zvlT tb T q = (zwdN 32 (zlfN tb (zpcT tb T q)) (zlnE tb T (zpcT tb T q) - zpcT tb T q) : Int) ∧ ∀ i, i < zlnE tb T (zpcT tb T q) - zpcT tb T q → 1 ≤ zlfN tb (zpcT tb T q) i ∧ zlfN tb (zpcT tb T q) i ≤ 26 := by
  have h : zknT tb T (zpcT tb T q) = 110 := h
  show _ ∧ zvvT tb T (zpcT tb T q) = _ ∧ _
  generalize zpcT tb T q = p at h
  unfold zknT at h
  unfold zvvT
  by_cases c : T ≤ p
  · rw [if_pos c] at h; exact absurd h (by decide)
  · rw [if_neg c] at h
    rw [if_neg c]
    by_cases c1 : zltB tb p = true
    · rw [if_pos c1]
      refine ⟨by omega, rfl, fun i hi => ?_⟩
      obtain ⟨n1, n2, n3, n4⟩ := zeE_ok (p := zltB tb) (T := T) (T - p) p rfl
      have := n3 (p + i) (by omega) (by show p + i < zlnE tb T p; omega)
      unfold zltB at this
      rw [decide_eq_true_iff] at this
      unfold zlfN
      omega
    · rw [if_neg c1] at h
      by_cases c2 : zdgB tb p = true
      · rw [if_pos c2] at h
        split at h <;> exact absurd h (by decide)
      · rw [if_neg c2] at h
        by_cases c3 : tb p = 59 ∨ tb p = 123 ∨ tb p = 125
        · rw [if_pos c3] at h; omega
        · rw [if_neg c3] at h; exact absurd h (by decide)
theorem znm_eq {tb : Nat → Nat} {T q r : Nat} (hq : zkdT tb T q = 110) (hr : zkdT tb T r = 110) : znmT tb T q = znmT tb T r ↔ zvlT tb T q = zvlT tb T r := by
  obtain ⟨_, a2, a3⟩ := zk110 hq
  obtain ⟨_, b2, b3⟩ := zk110 hr
  have e := zwd_both a3 b3
  rw [a2, b2]
  unfold znmT
  omega
abbrev zWm : List Nat := [108, 124, 125, 126, 127, 128, 129, 130, 131, 132, 133]
def zMb (h h' : zHP) : Prop := zFin h' ∧ zfr zWm h h' ∧ ∀ c, c ≠ 19 → c ≠ 20 → c ≠ 21 → c ≠ 22 → c ≠ 31 → c ≠ 34 → c ≠ 35 → h' 108 c = h 108 c
theorem zMb.rf {h : zHP} (F : zFin h) : zMb h h := ⟨F, zfr.rfl, fun _ _ _ _ _ _ _ _ => rfl⟩
theorem zMb.tr {h h1 h2 : zHP} (a : zMb h h1) (b : zMb h1 h2) : zMb h h2 := ⟨b.1, a.2.1.trans b.2.1, fun c x1 x2 x3 x4 x5 x6 x7 => (b.2.2 c x1 x2 x3 x4 x5 x6 x7).trans (a.2.2 c x1 x2 x3 x4 x5 x6 x7)⟩
theorem zMb.of {h h' : zHP} {W : List Nat} (F : zFin h') (f : zfr W h h') (hW : ∀ c ∈ W, c ∈ zWm) (h108 : 108 ∉ W) : zMb h h' := ⟨F, f.mono hW, fun c _ _ _ _ _ _ _ => by rw [f 108 h108]⟩
theorem zMb.up {h h' : zHP} {c : Nat} {x : Int} (b : zMb h h') (hc : c = 19 ∨ c = 20 ∨ c = 21 ∨ c = 22 ∨ c = 31 ∨ c = 34 ∨ c = 35) : zMb h (zup h' 108 c x) := by
  refine ⟨?_, b.2.1.up (by decide), fun q a1 a2 a3 a4 a5 a6 a7 => by rw [zup_k (by omega)]; exact b.2.2 q a1 a2 a3 a4 a5 a6 a7⟩
  rcases hc with z | z | z | z | z | z | z <;> subst z <;> exact b.1.up (by decide)
abbrev zot (op : Option Nat) (m : Nat) : Nat := if op = none then 8 else m
def zMSa (h : zHP) (n i : Nat) (ft : Int × Int) (m : Nat) (op : Option Nat) (d : Nat) : Prop := (h 108 19 = (i : Int) ∧ h 108 20 = ft.1 ∧ h 108 21 = ft.2) ∧ h 108 22 = ((m + zo1 op : Nat) : Int) ∧ h 108 31 = ((d + zo1 op : Nat) : Int) ∧ h 108 34 = (zot op m : Int) ∧ h 108 35 = (n : Int)
def zME (h : zHP) (t : Nat) (l : List zTe) : Prop := h 127 t = ((min l.length 201 : Nat) : Int) ∧ ∀ q, q < l.length → q < 201 → h 128 (201 * t + q) = ((l.getD q ze0).1 : Int) ∧ h 129 (201 * t + q) = (l.getD q ze0).2.1 ∧ ((l.getD q ze0).1 = 3 → h 130 (201 * t + q) = (l.getD q ze0).2.2.1 ∧ h 131 (201 * t + q) = (l.getD q ze0).2.2.2)
theorem zME.fr {h h' : zHP} {t : Nat} {l : List zTe} (M : zME h t l) (f : ∀ c, 127 ≤ c → c ≤ 131 → h' c = h c) : zME h' t l := by
  unfold zME
  rw [f 127 (by decide) (by decide), f 128 (by decide) (by decide), f 129 (by decide) (by decide), f 130 (by decide) (by decide), f 131 (by decide) (by decide)]
  exact M
def zMKs (h : zHP) (z : Nat) : List (Int × Nat) → Prop
  | [] => True
  | e :: r => (h 132 (r.length + z) = e.1 ∧ h 133 (r.length + z) = ((min e.2 201 : Nat) : Int)) ∧ zMKs h z r
theorem zMKs.lt {h h' : zHP} {z : Nat} : ∀ {st : List (Int × Nat)}, (∀ q, q < st.length → h' 132 (q + z) = h 132 (q + z) ∧ h' 133 (q + z) = h 133 (q + z)) → zMKs h z st → zMKs h' z st
  | [], _, _ => trivial
  | _ :: r, e, s => by
    obtain ⟨e1, e2⟩ := e r.length (by rw [List.length_cons]; omega)
    exact ⟨by rw [e1, e2]; exact s.1, zMKs.lt (fun q hq => e q (by rw [List.length_cons]; omega)) s.2⟩
/-- kinds and legs that can come -/
def zeb (n : Nat) (e : zTe) : Prop := e.1 < 4 ∧ (n : Int) - 10001 ≤ e.2.1 ∧ e.2.1 ≤ 9999
def zMRe (h : zHP) (tb : Nat → Nat) (T n : Nat) (P : List (Int × List zTe)) (op : Option Nat) (B : List zTe) (st : List (Int × Nat)) (I : List zTe) : Prop := (∀ p, p < P.length → (∃ q, zkdT tb T q = 110 ∧ (P.getD p (0, [])).1 = zvlT tb T q ∧ h 124 p = znmT tb T q) ∧ h 125 p = 1) ∧ (∀ j, op = some j → zkdT tb T j = 110 ∧ h 124 P.length = znmT tb T j ∧ h 125 P.length = 0 ∧ h 126 P.length = (j : Int) ∧ h 132 0 = -1) ∧ zMKs h (zo1 op) st ∧ zME h (zot op P.length) I ∧ (op ≠ none → zME h 8 B) ∧ (∀ p, p < P.length → zME h p (P.getD p (0, [])).2) ∧ (∀ e ∈ I, zeb n e) ∧ (op ≠ none → ∀ e ∈ B, zeb n e) ∧ ∀ p, p < P.length → ∀ e ∈ (P.getD p (0, [])).2, zeb n e
section
variable {X : List Int} {h : zHP} {K : Option zAV → zHP → Prop} {tb : Nat → Nat} {T L n : Nat} {i : Nat} {ft : Int × Int} {P : List (Int × List zTe)} {op : Option Nat} {B : List zTe} {st : List (Int × Nat)} {I : List zTe} {m d : Nat}
theorem zTKm.mb {h' : zHP} (t : zTKm h tb T L) (b : zMb h h') : zTKm h' tb T L := ⟨t.1, t.2.1, t.2.2.1, fun j hj => (t.2.2.2 j hj).fr fun c hc => by rw [b.2.1 c (by rcases hc with z | z | z | z <;> subst z <;> decide)]⟩
theorem zTKm.pc {x : Int} {j : Nat} (t : zTKm h tb T L) (hj : j ≤ L) (hx : x = (j : Int)) : h 121 x.toNat = (zpcT tb T j : Int) := by rw [show x.toNat = j by omega]; exact (t.2.2.2 j hj).2.1
theorem zTKm.it {x : Int} {j : Nat} (t : zTKm h tb T L) (hj : j ≤ L) (hx : x = (j : Int)) (hk : zkdT tb T j = 105) : h 122 x.toNat = zvlT tb T j := by rw [show x.toNat = j by omega]; exact (t.2.2.2 j hj).2.2.1 hk
theorem zTKm.nm {x : Int} {j : Nat} (t : zTKm h tb T L) (hj : j ≤ L) (hx : x = (j : Int)) (hk : zkdT tb T j = 110) : h 123 x.toNat = znmT tb T j := by rw [show x.toNat = j by omega]; exact (t.2.2.2 j hj).2.2.2.2.2 hk
def zMN (h h' : zHP) (ft' : Int × Int) : Prop := zFin h' ∧ zfr [108] h h' ∧ (∀ c, c ≠ 20 → c ≠ 21 → h' 108 c = h 108 c) ∧ h' 108 20 = ft'.1 ∧ h' 108 21 = ft'.2
theorem zMN.rf (F : zFin h) (e4 : h 108 20 = ft.1) (e5 : h 108 21 = ft.2) : zMN h h ft := ⟨F, zfr.rfl, fun _ _ _ => rfl, e4, e5⟩
theorem zMN.mb {h' : zHP} {f : Int × Int} (N : zMN h h' f) : zMb h h' := ⟨N.1, N.2.1.mono (by simp [zWm]), fun c _ a b _ _ _ _ => N.2.2.1 c a b⟩
theorem zMN.tr {h1 h2 : zHP} {f g : Int × Int} (a : zMN h h1 f) (b : zMN h1 h2 g) : zMN h h2 g := ⟨b.1, a.2.1.trans b.2.1, fun c x y => (b.2.2.1 c x y).trans (a.2.2.1 c x y), b.2.2.2⟩
theorem zMSa.nt {h' : zHP} {f : Int × Int} (S : zMSa h n i ft m op d) (N : zMN h h' f) : zMSa h' n i f m op d := by
  obtain ⟨⟨a1, a2, a3⟩, b1, b2, b3, b4⟩ := S
  obtain ⟨n1, n2, n3, n4, n5⟩ := N
  exact ⟨⟨(n3 19 (by decide) (by decide)).trans a1, n4, n5⟩, (n3 22 (by decide) (by decide)).trans b1, (n3 31 (by decide) (by decide)).trans b2, (n3 34 (by decide) (by decide)).trans b3, (n3 35 (by decide) (by decide)).trans b4⟩
theorem zMRe.fr {h' : zHP} (R : zMRe h tb T n P op B st I) (f : ∀ c, c ≠ 108 → h' c = h c) : zMRe h' tb T n P op B st I := by
  obtain ⟨r1, r2, r3, r4, r5, r6, r7⟩ := R
  refine ⟨?_, ?_, r3.lt fun q hq => ?_, r4.fr fun c _ _ => f c (by omega), fun o => (r5 o).fr fun c _ _ => f c (by omega), fun p hp => (r6 p hp).fr fun c _ _ => f c (by omega), r7⟩
  · rw [f 124 (by decide), f 125 (by decide)]; exact r1
  · rw [f 124 (by decide), f 125 (by decide), f 126 (by decide), f 132 (by decide)]; exact r2
  · rw [f 132 (by decide), f 133 (by decide)]; exact ⟨rfl, rfl⟩
theorem zMRe.nt {h' : zHP} {f : Int × Int} (R : zMRe h tb T n P op B st I) (N : zMN h h' f) : zMRe h' tb T n P op B st I := R.fr fun c hc => N.2.1 c (by simp; exact hc)
theorem zMSa.at {j : Nat} {x : Int} (S : zMSa h n i ft m op d) (hx : x = (j : Int)) : zMSa (zup h 108 19 x) n j ft m op d := by
  obtain ⟨⟨a1, a2, a3⟩, b1, b2, b3, b4⟩ := S
  refine ⟨⟨by rw [zup_eq]; exact hx, ?_, ?_⟩, ?_, ?_, ?_, ?_⟩
  all_goals rw [zup_k (by decide)]; assumption
theorem zMRe.up {c : Nat} {x : Int} (R : zMRe h tb T n P op B st I) : zMRe (zup h 108 c x) tb T n P op B st I := R.fr fun b hb => by funext j; exact zup_c hb
/-- tells -/
theorem cm_228 {a : Int} {j : Nat} {x : Int} (F : zFin h) (t : zTKm h tb T L) (e4 : h 108 20 = ft.1) (e5 : h 108 21 = ft.2) (hj : j ≤ L) (hx : x = (j : Int)) (k : ∀ h', zMN h h' (zno ft a (zpcT tb T j : Int)) → K none h') : zC X 228 [zR 108, zI a, zI x] h K := by
  have tl := t.1
  have ep := t.pc hj hx
  have yes : (ft.1 = 0 ∨ (zpcT tb T j : Int) < ft.2 ∨ ((zpcT tb T j : Int) = ft.2 ∧ a < ft.1)) → (fun v sh' h' => sh' = zSHc ∧ K v h') none zSHc (zup (zup h 108 20 a) 108 21 (h 121 x.toNat)) := fun c => ⟨rfl, k _ (by
    rw [show zno ft a (zpcT tb T j : Int) = (a, (zpcT tb T j : Int)) from if_pos c, ep]
    exact ⟨(F.up (by decide)).up (by decide), (zfr.rfl.up (by simp)).up (by simp), fun q h1 h2 => by rw [zup_k h2, zup_k h1], by rw [zup_k (by decide), zup_eq], zup_eq⟩)⟩
  have no : ¬ (ft.1 = 0 ∨ (zpcT tb T j : Int) < ft.2 ∨ ((zpcT tb T j : Int) = ft.2 ∧ a < ft.1)) → (fun v sh' h' => sh' = zSHc ∧ K v h') none zSHc h := fun c => ⟨rfl, k _ (by
    rw [show zno ft a (zpcT tb T j : Int) = ft from if_neg c]
    exact zMN.rf F e4 e5)⟩
  exact sg_228_0 F (by omega) (fun _ => yes (by omega)) (fun _ _ => no (by omega)) (fun _ _ _ => yes (by omega)) (fun _ _ _ _ => yes (by omega)) (fun _ _ _ _ => no (by omega))
/-- put -/
theorem cm_229 {t kd : Nat} {l : List zTe} {x1 a b c : Int} {e : zTe} (F : zFin h) (ht : h 108 34 = (t : Int)) (h9 : t < 9) (M : zME h t l) (hx : x1 = (kd : Int)) (he : e.1 = kd ∧ e.2.1 = a ∧ (kd = 3 → e.2.2.1 = b ∧ e.2.2.2 = c)) (k : ∀ h', zFin h' → zfr [127, 128, 129, 130, 131] h h' → zME h' t (l ++ [e]) → (∀ t' l', t' ≠ t → zME h t' l' → zME h' t' l') → K none h') : zC X 229 [zR 108, zI x1, zI a, zI b, zI c] h K := by
  have et : (h 108 34).toNat = t := by omega
  obtain ⟨m1, m2⟩ := M
  have len : (l ++ [e]).length = l.length + 1 := by rw [List.length_append]; rfl
  have e127 : h 127 ((h 108 34).toNat) = ((min l.length 201 : Nat) : Int) := by rw [et]; exact m1
  by_cases big : l.length ≤ 200
  · have es : min l.length 201 = l.length := by omega
    rw [es] at m1 e127
    refine sg_229_0 F (by omega) (fun _ => by omega) (fun _ => by omega) (fun _ => by omega) (fun _ => by omega) (fun _ => ⟨rfl, ?_⟩) (fun z => by omega)
    rw [show ((201 * (h 108 34)) + (h 127 ((h 108 34).toNat))).toNat = 201 * t + l.length by omega, e127, et]
    refine k _ (((((F.upA zfa_128).upA zfa_129).upA zfa_130).upA zfa_131).upA zfa_127) (((((zfr.rfl.up (by simp)).up (by simp)).up (by simp)).up (by simp)).up (by simp)) ⟨?_, fun q hq h2 => ?_⟩ fun t' l' ne M' => ⟨?_, fun q hq h2 => ?_⟩
    · rw [zup_eq, len]; omega
    · rw [len] at hq
      by_cases z : q = l.length
      · rw [zget_r (by omega), z, Nat.sub_self]
        show zup _ 127 t _ 128 (201 * t + l.length) = (e.1 : Int) ∧ zup _ 127 t _ 129 (201 * t + l.length) = e.2.1 ∧ (e.1 = 3 → zup _ 127 t _ 130 (201 * t + l.length) = e.2.2.1 ∧ zup _ 127 t _ 131 (201 * t + l.length) = e.2.2.2)
        refine ⟨?_, ?_, fun y => ⟨?_, ?_⟩⟩
        · rw [zup_c (by decide), zup_c (by decide), zup_c (by decide), zup_c (by decide), zup_eq, hx, he.1]
        · rw [zup_c (by decide), zup_c (by decide), zup_c (by decide), zup_eq, he.2.1]
        · rw [zup_c (by decide), zup_c (by decide), zup_eq]
          exact (he.2.2 (by rw [← he.1]; exact y)).1.symm
        · rw [zup_c (by decide), zup_eq]
          exact (he.2.2 (by rw [← he.1]; exact y)).2.symm
      · rw [zget_l (by omega)]
        have w := m2 q (by omega) h2
        rw [zup_c (by decide), zup_c (by decide), zup_c (by decide), zup_c (by decide), zup_k (by omega)]
        refine ⟨w.1, ?_, fun y => ⟨?_, ?_⟩⟩
        · rw [zup_c (by decide), zup_c (by decide), zup_c (by decide), zup_k (by omega), zup_c (by decide)]; exact w.2.1
        · rw [zup_c (by decide), zup_c (by decide), zup_k (by omega), zup_c (by decide), zup_c (by decide)]; exact (w.2.2 y).1
        · rw [zup_c (by decide), zup_k (by omega), zup_c (by decide), zup_c (by decide), zup_c (by decide)]; exact (w.2.2 y).2
    · rw [zup_k ne, zup_c (by decide), zup_c (by decide), zup_c (by decide), zup_c (by decide)]; exact M'.1
    · have w := M'.2 q hq h2
      have n1 : 201 * t' + q ≠ 201 * t + l.length := by omega
      rw [zup_c (by decide), zup_c (by decide), zup_c (by decide), zup_c (by decide), zup_k n1]
      refine ⟨w.1, ?_, fun y => ⟨?_, ?_⟩⟩
      · rw [zup_c (by decide), zup_c (by decide), zup_c (by decide), zup_k n1, zup_c (by decide)]; exact w.2.1
      · rw [zup_c (by decide), zup_c (by decide), zup_k n1, zup_c (by decide), zup_c (by decide)]; exact (w.2.2 y).1
      · rw [zup_c (by decide), zup_k n1, zup_c (by decide), zup_c (by decide), zup_c (by decide)]; exact (w.2.2 y).2
  · refine sg_229_0 F (by omega) (fun z => by omega) (fun z => by omega) (fun z => by omega) (fun z => by omega) (fun z => by omega) (fun _ => ⟨rfl, ?_⟩)
    refine k h F zfr.rfl ⟨?_, fun q hq h2 => ?_⟩ fun _ _ _ M' => M'
    · rw [m1, len]; omega
    · rw [zget_l (by omega)]
      exact m2 q (by omega) h2
/-- isLong -/
theorem cm_230 {t : Nat} {l : List zTe} (F : zFin h) (ht : h 108 34 = (t : Int)) (h9 : t < 9) (M : zME h t l) (k1 : zlgL l → K (some (zI 1)) h) (k0 : ¬ zlgL l → K (some (zI 0)) h) : zC X 230 [zR 108] h K := by
  have et : (h 108 34).toNat = t := by omega
  obtain ⟨m1, m2⟩ := M
  have e127 : h 127 ((h 108 34).toNat) = ((min l.length 201 : Nat) : Int) := by rw [et]; exact m1
  have loop : ∀ (q j : Nat) (x1 x2 : Int), min l.length 201 - j = q → j ≤ min l.length 201 → x2 = (j : Int) → x1 = (zc3L (l.take j) : Int) → zAt X 230 4 0 0 [some (zR 108), some (zI x1), some (zI x2)] [] zSHc h (fun v sh' h' => sh' = zSHc ∧ K v h') := by
    intro q
    induction q with
    | zero =>
      intro j x1 x2 hq hj e2 e1
      refine sg_230_4 F (by omega) (fun _ z => ⟨rfl, k1 (Or.inl (by omega))⟩) (fun _ z y => ⟨rfl, k0 ?_⟩) (fun _ z y => ⟨rfl, k1 (Or.inr ?_)⟩) (fun z => by omega) (fun z => by omega) (fun z => by omega) (fun z => by omega) (fun z => by omega) (fun z => by omega) (fun z => by omega) (fun z => by omega)
      · rintro (w | w)
        · omega
        · rw [List.take_of_length_le (by omega)] at e1
          omega
      · rw [List.take_of_length_le (by omega)] at e1
        omega
    | succ q ih =>
      intro j x1 x2 hq hj e2 e1
      have hl : j < l.length := by omega
      have w := m2 j hl (by omega)
      have e128 : h 128 (((201 * (h 108 34)) + x2).toNat) = ((l.getD j ze0).1 : Int) := by rw [show ((201 * (h 108 34)) + x2).toNat = 201 * t + j by omega]; exact w.1
      have et : l.take (j + 1) = l.take j ++ [l.getD j ze0] := by
        rw [List.take_succ, List.getD_eq_getElem?_getD, List.getElem?_eq_getElem hl]
        rfl
      have ec : zc3L (l.take (j + 1)) = zc3L (l.take j) + (if (l.getD j ze0).1 = 3 then 1 else 0) := by
        rw [et, zc3L_app]
        rfl
      have b : zc3L (l.take j) ≤ 1000 := by
        have : ∀ m : List zTe, zc3L m ≤ m.length := by
          intro m
          induction m with
          | nil => exact Nat.le_refl _
          | cons a r ih => show (if a.1 = 3 then 1 else 0) + zc3L r ≤ r.length + 1; split <;> omega
        have := this (l.take j)
        rw [List.length_take] at this
        omega
      by_cases c : (l.getD j ze0).1 = 3
      · rw [if_pos c] at ec
        have nx := ih (j + 1) (x1 + 1) (x2 + 1) (by omega) (by omega) (by omega) (by omega)
        exact sg_230_4 F (by omega) (fun z => by omega) (fun z => by omega) (fun z => by omega) (fun _ => by omega) (fun _ => by omega) (fun _ => by omega) (fun _ z => by omega) (fun _ z => by omega) (fun _ _ => by omega) (fun _ _ => by omega) (fun _ _ => nx)
      · rw [if_neg c] at ec
        have nx := ih (j + 1) x1 (x2 + 1) (by omega) (by omega) (by omega) (by omega)
        exact sg_230_4 F (by omega) (fun z => by omega) (fun z => by omega) (fun z => by omega) (fun _ => by omega) (fun _ => by omega) (fun _ => by omega) (fun _ _ => by omega) (fun _ _ => nx) (fun _ z => by omega) (fun _ z => by omega) (fun _ z => by omega)
  exact sg_230_0 (loop _ 0 0 0 rfl (Nat.zero_le _) rfl rfl)
/-- checkLeg -/
theorem cm_231 {j : Nat} {x : Int} (F : zFin h) (t : zTKm h tb T L) (S : zMSa h n i ft m op d) (hn : n ≤ 7) (hj : j ≤ L) (hx : x = (j : Int)) (hk : zkdT tb T j = 105) (k : ∀ h', zMN h h' (znlg (n : Int) ft (zvlT tb T j) (zpcT tb T j : Int)) → K none h') : zC X 231 [zR 108, zI x] h K := by
  have tl := t.1
  have e := t.it hj hx hk
  have e35 := S.2.2.2.2
  have v := zvl_int hk
  refine sg_231_0 F (by omega) (by omega) (fun le => ⟨rfl, k h ?_⟩) (fun gt => ?_)
  · rw [show znlg (n : Int) ft (zvlT tb T j) (zpcT tb T j : Int) = ft from if_neg (by omega)]
    exact zMN.rf F S.1.2.1 S.1.2.2
  · refine cm_228 F t S.1.2.1 S.1.2.2 hj hx fun h' N => sg_231_21c ⟨rfl, k h' ?_⟩
    rw [show znlg (n : Int) ft (zvlT tb T j) (zpcT tb T j : Int) = zno ft 5 (zpcT tb T j : Int) from if_pos (by omega)]
    exact N
end
