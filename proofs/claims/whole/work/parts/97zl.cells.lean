/-! TEXTS, THE CLASS: LADDERS AS LISTS -/
abbrev ze0 : zTe := (0, 0, 0, 0)
def zLE (h : zHP) (o n : Nat) (l : List zTe) : Prop := zRw h o n (min l.length 100000) (min (zc3L l) 100000) (fun q => zcdE (l.getD q ze0)) ∧ ∀ e ∈ l, e.1 < 4
/-- a part that is closed: so much of it as counts -/
def zLP (h : zHP) (o n : Nat) (l : List zTe) : Prop := (∃ s b c, zRw h o n s b c ∧ s ≤ 100000 ∧ min s 200 = l.length ∧ ∀ q, q < l.length → c q = zcdE (l.getD q ze0)) ∧ ∀ e ∈ l, e.1 < 4
theorem zget_in {l : List zTe} {q : Nat} (h : q < l.length) : l.getD q ze0 ∈ l := by
  rw [List.getD_eq_getElem?_getD, List.getElem?_eq_getElem h]
  exact List.getElem_mem h
theorem zget_l {a b : List zTe} {q : Nat} (h : q < a.length) : (a ++ b).getD q ze0 = a.getD q ze0 := by
  rw [List.getD_eq_getElem?_getD, List.getD_eq_getElem?_getD, List.getElem?_append_left h]
theorem zget_r {a b : List zTe} {q : Nat} (h : a.length ≤ q) : (a ++ b).getD q ze0 = b.getD (q - a.length) ze0 := by
  rw [List.getD_eq_getElem?_getD, List.getD_eq_getElem?_getD, List.getElem?_append_right h]
theorem zc3_take {l : List zTe} {c : Nat → Nat} (hc : ∀ q, q < l.length → c q = zcdE (l.getD q ze0)) (hk : ∀ e ∈ l, e.1 < 4) : ∀ i, i ≤ l.length → zc3 c i = zc3L (l.take i)
  | 0, _ => rfl
  | i + 1, h => by
    have ih := zc3_take hc hk i (by omega)
    have hi : i < l.length := by omega
    have e : l.take (i + 1) = l.take i ++ [l.getD i ze0] := by
      rw [List.take_succ, List.getD_eq_getElem?_getD, List.getElem?_eq_getElem hi]
      rfl
    rw [e, zc3L_app, ← ih]
    show zc3 c i + (if c i % 4 = 3 then 1 else 0) = zc3 c i + ((if (l.getD i ze0).1 = 3 then 1 else 0) + 0)
    rw [hc i hi, zcdE_k (hk _ (zget_in hi)), Nat.add_zero]
theorem zuse_get {up tu : Bool} {n j : Nat} {l : List zTe} (h : j < l.length) : (zuseL up tu (n : Int) l).getD j ze0 = (if tu = true then zflp (n : Int) (l.getD (if up = true then l.length - 1 - j else j) ze0) else l.getD (if up = true then l.length - 1 - j else j) ze0) := by
  unfold zuseL
  have hl : (if up = true then l.reverse else l).length = l.length := by
    split
    · exact List.length_reverse
    · rfl
  have e : (if up = true then l.reverse else l).getD j ze0 = l.getD (if up = true then l.length - 1 - j else j) ze0 := by
    by_cases c : up = true
    · rw [if_pos c, if_pos c, List.getD_eq_getElem?_getD, List.getD_eq_getElem?_getD, List.getElem?_reverse h]
    · rw [if_neg c, if_neg c]
  rw [← e]
  generalize (if up = true then l.reverse else l) = l2 at hl
  have h2 : j < l2.length := by omega
  rw [List.getD_eq_getElem?_getD, List.getElem?_map, List.getD_eq_getElem?_getD, List.getElem?_eq_getElem h2]
  rfl
theorem zuse_len {up tu : Bool} {n : Int} {l : List zTe} : (zuseL up tu n l).length = l.length := by
  unfold zuseL
  rw [List.length_map]
  split
  · exact List.length_reverse
  · rfl
theorem zflp_k {n : Int} {e : zTe} (h : e.1 < 4) : (zflp n e).1 < 4 := by
  show (if e.1 = 1 then 2 else if e.1 = 2 then 1 else e.1) < 4
  split
  · decide
  · split <;> omega
theorem zuse_k {up tu : Bool} {n : Int} {l : List zTe} (h : ∀ e ∈ l, e.1 < 4) : ∀ e ∈ zuseL up tu n l, e.1 < 4 := fun e he => by
  unfold zuseL at he
  obtain ⟨x, hx, ex⟩ := List.mem_map.mp he
  have hx : x ∈ l := by
    split at hx
    · exact List.mem_reverse.mp hx
    · exact hx
  rw [← ex]
  split
  · exact zflp_k (h x hx)
  · exact h x hx
theorem zrpt_k {m t : Nat} {l : List zTe} (h : ∀ e ∈ l, e.1 < 4) : ∀ e ∈ zrptL m t l, e.1 < 4 := fun e he => by
  unfold zrptL at he
  rcases List.mem_append.mp he with z | z
  · exact h e (List.mem_of_mem_take z)
  · obtain ⟨x, hx, ex⟩ := List.mem_flatten.mp z
    rw [(List.mem_replicate.mp hx).2] at ex
    exact h e (List.mem_of_mem_drop ex)
theorem zrep_c3 (d : List zTe) : ∀ t, zc3L (List.replicate t d).flatten = t * zc3L d
  | 0 => by rw [Nat.zero_mul]; rfl
  | t + 1 => by rw [List.replicate_succ, List.flatten_cons, zc3L_app, zrep_c3 d t, Nat.add_mul]; omega
theorem zrpt_c3 {m t : Nat} {l : List zTe} : zc3L (zrptL m t l) = zc3L (l.take m) + t * (zc3L l - zc3L (l.take m)) := by
  unfold zrptL
  have e : zc3L l = zc3L (l.take m) + zc3L (l.drop m) := by rw [← zc3L_app, List.take_append_drop]
  rw [zc3L_app, zrep_c3, e]
  congr 2
  omega
theorem zc3_le {m : Nat} {l : List zTe} : zc3L (l.take m) ≤ zc3L l := by
  have e : zc3L l = zc3L (l.take m) + zc3L (l.drop m) := by rw [← zc3L_app, List.take_append_drop]
  omega
theorem zrep_get {d : List zTe} {t k : Nat} (h : k + d.length < t * d.length) : (List.replicate t d).flatten.getD (k + d.length) ze0 = (List.replicate t d).flatten.getD k ze0 := by
  cases t with
  | zero => rw [Nat.zero_mul] at h; omega
  | succ t =>
    have len : (List.replicate t d).flatten.length = t * d.length := by
      clear h
      induction t with
      | zero => rw [Nat.zero_mul]; rfl
      | succ t ih => rw [List.replicate_succ, List.flatten_cons, List.length_append, ih, Nat.add_mul]; omega
    have e1 : (List.replicate (t + 1) d).flatten = d ++ (List.replicate t d).flatten := by rw [List.replicate_succ, List.flatten_cons]
    have e2 : (List.replicate (t + 1) d).flatten = (List.replicate t d).flatten ++ d := by
      clear h len e1
      induction t with
      | zero => rw [List.replicate_succ, List.flatten_cons, List.replicate_zero, List.flatten_nil, List.nil_append, List.append_nil]
      | succ t ih =>
        rw [List.replicate_succ, List.flatten_cons, ih, ← List.append_assoc]
        congr 1
    have e3 : (List.replicate (t + 1) d).flatten.getD (k + d.length) ze0 = (List.replicate t d).flatten.getD k ze0 := by
      rw [e1, zget_r (by omega), show k + d.length - d.length = k by omega]
    rw [e3, e2]
    rw [Nat.add_mul] at h
    rw [zget_l (by omega)]
theorem zrpt_get {m t i : Nat} {l : List zTe} (hm : m ≤ l.length) (h1 : l.length ≤ i) (h2 : i < m + t * (l.length - m)) : (zrptL m t l).getD i ze0 = (zrptL m t l).getD (i - (l.length - m)) ze0 := by
  unfold zrptL
  have lt : (l.take m).length = m := by rw [List.length_take]; omega
  have ld : (l.drop m).length = l.length - m := List.length_drop
  rw [zget_r (by omega), zget_r (by omega), lt]
  have := zrep_get (d := l.drop m) (t := t) (k := i - (l.length - m) - m) (by rw [ld]; omega)
  rw [ld] at this
  rw [← this]
  congr 1
  omega
theorem zrpt_old {m t i : Nat} {l : List zTe} (hm : m ≤ l.length) (h : (t = 0 ∧ i < m) ∨ (1 ≤ t ∧ i < l.length)) : (zrptL m t l).getD i ze0 = l.getD i ze0 := by
  unfold zrptL
  have lt : (l.take m).length = m := by rw [List.length_take]; omega
  have td : l.take m ++ l.drop m = l := List.take_append_drop ..
  rcases h with ⟨h0, h⟩ | ⟨h0, h⟩
  · rw [zget_l (by omega)]
    conv => rhs; rw [← td]
    rw [zget_l (by omega)]
  · cases t with
    | zero => omega
    | succ t =>
      rw [List.replicate_succ, List.flatten_cons, ← List.append_assoc, td, zget_l h]
theorem zgA {a b L : Nat} : min (min a L + b) L = min (a + b) L := by omega
theorem zgB {a b t L : Nat} (h : a ≤ b) : min (min a L + (min b L - min a L) * t) L = min (a + t * (b - a)) L := by
  rw [Nat.mul_comm t]
  by_cases c : b ≤ L
  · rw [Nat.min_eq_left (show a ≤ L by omega), Nat.min_eq_left c]
  · cases t with
    | zero => rw [Nat.mul_zero, Nat.mul_zero]; omega
    | succ t =>
      have e1 : (b - a) * (t + 1) = (b - a) * t + (b - a) := Nat.mul_succ _ _
      have e2 : (min b L - min a L) * (t + 1) = (min b L - min a L) * t + (min b L - min a L) := Nat.mul_succ _ _
      omega
theorem zgC {a L : Nat} (h : 200 ≤ L) : min (min a L) 200 = min 200 a := by omega
theorem zL200 {a : Nat} (h : a ≤ 200) : min a 100000 = a := Nat.min_eq_left (Nat.le_trans h (by decide))
theorem zLlt {i a : Nat} (h : i < min a 100000) : i < a := Nat.lt_of_lt_of_le h (Nat.min_le_left _ _)
theorem zLgt {i a : Nat} (h : i < a) (h2 : i < 200) : i < min a 100000 := Nat.lt_min.mpr ⟨h, Nat.lt_of_lt_of_le h2 (by decide)⟩
theorem zLle {a : Nat} : min a 100000 ≤ 100000 := Nat.min_le_right _ _
theorem zLmo {a b : Nat} (h : a ≤ b) : min a 100000 ≤ min b 100000 := Nat.le_min.mpr ⟨Nat.le_trans (Nat.min_le_left _ _) h, zLle⟩
theorem zisub {a b : Nat} (h : b ≤ a) : (a : Int) - (b : Int) = ((a - b : Nat) : Int) := by omega
theorem zimin {a b : Nat} : min ((a : Int) + (b : Int)) 100000 = ((min (a + b) 100000 : Nat) : Int) := by omega
theorem zbd1 {d : Nat} (h : d ≤ 100000) : -2147483648 ≤ (d : Int) ∧ (d : Int) < 2147483648 := by omega
theorem zbd3 {d : Nat} (h : d ≤ 1000000000) : -9223372036854775808 ≤ (d : Int) ∧ (d : Int) < 9223372036854775808 := by omega
theorem zbd4 {a d : Nat} (ha : a ≤ 100000) (h : d ≤ 1000000000) : -9223372036854775808 ≤ (a : Int) + (d : Int) ∧ (a : Int) + (d : Int) < 9223372036854775808 := by omega
theorem zgD {a i L : Nat} (hL : 200 ≤ L) (h : i ≤ 200) : min a L ≤ i ↔ a ≤ i ∨ (i = 200 ∧ L = 200) := by omega
theorem zLi {a i : Nat} (h : i < 200) : min a 100000 ≤ i ↔ a ≤ i := by
  have := zgD (a := a) (i := i) (L := 100000) (by decide) (Nat.le_of_lt h)
  rw [this]
  constructor
  · rintro (z | z)
    · exact z
    · exact absurd z.2 (by decide)
  · exact Or.inl
theorem zrpt_b {a b t : Nat} (hb : b ≤ 100000) (ht : t < 10000) : (b - a) * t ≤ 1000000000 := by
  have : (b - a) * t ≤ 100000 * 10000 := Nat.mul_le_mul (Nat.le_trans (Nat.sub_le _ _) hb) (Nat.le_of_lt ht)
  exact this
section
variable {X : List Int} {h : zHP} {K : Option zAV → zHP → Prop} {o n : Nat} {l : List zTe}
theorem zLE.fr {h' : zHP} (L : zLE h o n l) (f : h' o = h o) (g : h' (o + 1) = h (o + 1)) : zLE h' o n l := ⟨by unfold zRw; rw [f, g]; exact L.1, L.2⟩
theorem zLP.fr {h' : zHP} (L : zLP h o n l) (f : h' o = h o) (g : h' (o + 1) = h (o + 1)) : zLP h' o n l := by
  obtain ⟨⟨s, b, c, r, w⟩, k⟩ := L
  exact ⟨⟨s, b, c, by unfold zRw; rw [f, g]; exact r, w⟩, k⟩
theorem zLE.part (L : zLE h o n l) : zLP h o n (l.take 200) := by
  obtain ⟨r, k⟩ := L
  refine ⟨⟨_, _, _, r, zLle, by rw [List.length_take]; exact zgC (by decide), fun q hq => ?_⟩, fun e he => k e (List.mem_of_mem_take he)⟩
  show zcdE (l.getD q ze0) = _
  rw [List.length_take] at hq
  have hq : q < 200 := Nat.lt_of_lt_of_le hq (Nat.min_le_left _ _)
  rw [List.getD_eq_getElem?_getD, List.getD_eq_getElem?_getD, List.getElem?_take, if_pos hq]
/-- begin -/
theorem cx_15 (F : zFin h) (hp : zLad o) (k : ∀ h', zFin h' → zfr [o] h h' → zLE h' o n [] → K none h') : zC X 15 [zR o, zI n, zI 0] h K := by
  refine sg_15_0 hp ⟨rfl, k _ ?_ ((((zfr.rfl.up (by simp)).up (by simp)).up (by simp)).up (by simp)) ⟨⟨?_, ?_, ?_, fun i hi => absurd hi (Nat.not_lt_zero _)⟩, fun e he => (by cases he)⟩⟩
  · exact zLad.up (zLad.up (zLad.up (zLad.up F hp (by decide)) hp (by decide)) hp (by decide)) hp (by decide)
  · rw [zup_k (by decide), zup_k (by decide), zup_k (by decide), zup_eq]
  · rw [zup_k (by decide), zup_eq]; rfl
  · rw [zup_eq]; rfl
/-- add, to a list -/
theorem cxl_28 {kd : Nat} {a b c : Int} (F : zFin h) (hp : zLad o) (L : zLE h o n l) (hk : kd < 4) (k : ∀ h', zFin h' → zfr [o, o + 1] h h' → zLE h' o n (l ++ [(kd, a, b, c)]) → K none h') : zC X 28 [zR o, zI kd, zI a, zI b, zI c] h K := by
  obtain ⟨⟨r2, r3, r4, rc⟩, kk⟩ := L
  refine cx_28 F hp r3 r4 zLle zLle hk fun h' F' fr e2 e5 e3 e4 e6 e7 => k h' F' fr ⟨⟨e2.trans r2, ?_, ?_, fun i hi h2 => ?_⟩, fun e he => ?_⟩
  · rw [e3, List.length_append]
    show ((min (min l.length 100000 + 1) 100000 : Nat) : Int) = ((min (l.length + 1) 100000 : Nat) : Int)
    rw [zgA]
  · rw [e4, zc3L_app]
    show _ = ((min (zc3L l + ((if kd = 3 then 1 else 0) + 0)) 100000 : Nat) : Int)
    by_cases c3 : kd = 3
    · rw [if_pos c3, if_pos c3, zgA]
    · rw [if_neg c3, if_neg c3]; rfl
  · have hi := zLlt hi
    rw [List.length_append] at hi
    have hi : i < l.length + 1 := hi
    show h' (o + 1) i = (zcdE ((l ++ [(kd, a, b, c)]).getD i ze0) : Int) ∧ zcdE ((l ++ [(kd, a, b, c)]).getD i ze0) < 2048
    by_cases z : i = l.length
    · have em : min l.length 100000 = l.length := zL200 (by omega)
      rw [zget_r (by omega), z, Nat.sub_self]
      rw [em] at e7
      exact ⟨e7 (by omega), zcdE_lt hk⟩
    · have i1 : i < l.length := by omega
      have i2 := zLgt i1 h2
      rw [zget_l i1, e6 i (Nat.ne_of_lt i2)]
      exact rc i i2 h2
  · rcases List.mem_append.mp he with z | z
    · exact kk e z
    · rw [List.mem_singleton.mp z]; exact hk
/-- addAll, to a list -/
theorem cxl_30 {p n2 : Nat} {l2 : List zTe} {up tu : Int} {ub tb : Bool} (F : zFin h) (ho : zLad o) (hp : zLad p) (hop : o ≠ p) (L : zLE h o n l) (L2 : zLP h p n2 l2) (hn : n ≤ 7) (hu : up = if ub = true then 1 else 0) (ht : tu = if tb = true then 1 else 0) (k : ∀ h', zFin h' → zfr [o, o + 1] h h' → zLE h' o n (l ++ zuseL ub tb (n : Int) l2) → K none h') : zC X 30 [zR o, zR p, zI up, zI tu] h K := by
  obtain ⟨r, kk⟩ := L
  obtain ⟨⟨s2, b2, c2, R2, hs2, hm, hc⟩, k2⟩ := L2
  have cell : ∀ j, j < l2.length → zctr n l2.length up tu c2 j = zcdE ((zuseL ub tb (n : Int) l2).getD j ze0) := fun j hj => by
    rw [zuse_get hj]
    unfold zctr
    have e1 : (if up = 0 then j else l2.length - 1 - j) = (if ub = true then l2.length - 1 - j else j) := by
      rw [hu]
      by_cases c : ub = true
      · rw [if_pos c, if_pos c, if_neg (by decide)]
      · rw [if_neg c, if_neg c, if_pos rfl]
    rw [e1]
    have hq : (if ub = true then l2.length - 1 - j else j) < l2.length := by split <;> omega
    generalize (if ub = true then l2.length - 1 - j else j) = q at hq
    rw [hc q hq, ht]
    by_cases c : tb = true
    · rw [if_pos c, if_pos c, if_neg (by decide), zctn_E (k2 _ (zget_in hq))]
    · rw [if_neg c, if_neg c, if_pos rfl]
  have ck : ∀ j, j < (zuseL ub tb (n : Int) l2).length → zctr n l2.length up tu c2 j = zcdE ((zuseL ub tb (n : Int) l2).getD j ze0) := fun j hj => cell j (by rw [zuse_len] at hj; exact hj)
  have cnt : zc3 (zctr n l2.length up tu c2) l2.length = zc3L (zuseL ub tb (n : Int) l2) := by
    have := zc3_take ck (zuse_k k2) l2.length (by rw [zuse_len]; exact Nat.le_refl _)
    rw [List.take_of_length_le (by rw [zuse_len]; exact Nat.le_refl _)] at this
    exact this
  refine cx_30 F ho hp hop r R2 zLle zLle hs2 hn fun h' F' fr e2 e5 e3 e4 e6 e7 => ?_
  rw [hm] at e3 e4 e7
  obtain ⟨r2, r3, r4, rc⟩ := r
  clear R2 hs2 hm hc
  refine k h' F' fr ⟨⟨e2.trans r2, ?_, ?_, fun i hi h2 => ?_⟩, fun e he => ?_⟩
  · rw [e3, List.length_append, zuse_len, zgA]
  · rw [e4, zc3L_app, cnt, zgA]
  · have hi := zLlt hi
    rw [List.length_append, zuse_len] at hi
    show h' (o + 1) i = (zcdE ((l ++ zuseL ub tb (n : Int) l2).getD i ze0) : Int) ∧ zcdE ((l ++ zuseL ub tb (n : Int) l2).getD i ze0) < 2048
    by_cases z : i < l.length
    · have i2 := zLgt z h2
      rw [zget_l z, e6 i i2]
      exact rc i i2 h2
    · have em : min l.length 100000 = l.length := zL200 (by omega)
      rw [em] at e7
      have e7 := e7 (i - l.length) (by omega) (by omega)
      rw [show l.length + (i - l.length) = i by omega, cell _ (by omega)] at e7
      rw [zget_r (by omega)]
      exact ⟨e7, zcdE_lt (zuse_k k2 _ (zget_in (by rw [zuse_len]; omega)))⟩
  · rcases List.mem_append.mp he with z | z
    · exact kk e z
    · exact zuse_k k2 e z
/-- repeat -/
theorem cxl_31 {m t : Nat} {x1 x2 x3 : Int} (F : zFin h) (hp : zLad o) (L : zLE h o n l) (hm : m ≤ l.length) (ht : t < 10000) (h1 : x1 = ((min m 100000 : Nat) : Int)) (h2 : x2 = ((min (zc3L (l.take m)) 100000 : Nat) : Int)) (h3 : x3 = (t : Int)) (k : ∀ h', zFin h' → zfr [o, o + 1] h h' → zLE h' o n (zrptL m t l) → K none h') : zC X 31 [zR o, zI x1, zI x2, zI x3] h K := by
  obtain ⟨⟨r2, r3, r4, rc⟩, kk⟩ := L
  have hz := zc3_le (m := m) (l := l)
  have nl := zrpt_len (t := t) hm
  have m1 : h o 3 - x1 = ((min l.length 100000 - min m 100000 : Nat) : Int) := by rw [r3, h1]; exact zisub (zLmo hm)
  have m2 : h o 4 - x2 = ((min (zc3L l) 100000 - min (zc3L (l.take m)) 100000 : Nat) : Int) := by rw [r4, h2]; exact zisub (zLmo hz)
  have p1 : (h o 3 - x1) * x3 = (((min l.length 100000 - min m 100000) * t : Nat) : Int) := by rw [m1, h3]; exact (Int.natCast_mul _ _).symm
  have p2 : (h o 4 - x2) * x3 = (((min (zc3L l) 100000 - min (zc3L (l.take m)) 100000) * t : Nat) : Int) := by rw [m2, h3]; exact (Int.natCast_mul _ _).symm
  have n1 : min (x1 + (h o 3 - x1) * x3) 100000 = ((min (zrptL m t l).length 100000 : Nat) : Int) := by rw [p1, h1, zimin, zgB hm, ← nl]
  have n2 : min (x2 + (h o 4 - x2) * x3) 100000 = ((min (zc3L (zrptL m t l)) 100000 : Nat) : Int) := by rw [p2, h2, zimin, zgB hz, ← zrpt_c3]
  have B1 : -2147483648 ≤ h o 3 - x1 ∧ h o 3 - x1 < 2147483648 := by rw [m1]; exact zbd1 (Nat.le_trans (Nat.sub_le _ _) zLle)
  have B2 : -2147483648 ≤ h o 4 - x2 ∧ h o 4 - x2 < 2147483648 := by rw [m2]; exact zbd1 (Nat.le_trans (Nat.sub_le _ _) zLle)
  have B3 : -9223372036854775808 ≤ (h o 3 - x1) * x3 ∧ (h o 3 - x1) * x3 < 9223372036854775808 := by rw [p1]; exact zbd3 (zrpt_b zLle ht)
  have B4 : -9223372036854775808 ≤ x1 + (h o 3 - x1) * x3 ∧ x1 + (h o 3 - x1) * x3 < 9223372036854775808 := by rw [p1, h1]; exact zbd4 zLle (zrpt_b zLle ht)
  have B5 : -2147483648 ≤ min (x1 + (h o 3 - x1) * x3) 100000 ∧ min (x1 + (h o 3 - x1) * x3) 100000 < 2147483648 := by rw [n1]; exact zbd1 zLle
  have C3 : -9223372036854775808 ≤ (h o 4 - x2) * x3 ∧ (h o 4 - x2) * x3 < 9223372036854775808 := by rw [p2]; exact zbd3 (zrpt_b zLle ht)
  have C4 : -9223372036854775808 ≤ x2 + (h o 4 - x2) * x3 ∧ x2 + (h o 4 - x2) * x3 < 9223372036854775808 := by rw [p2, h2]; exact zbd4 zLle (zrpt_b zLle ht)
  have C5 : -2147483648 ≤ min (x2 + (h o 4 - x2) * x3) 100000 ∧ min (x2 + (h o 4 - x2) * x3) 100000 < 2147483648 := by rw [n2]; exact zbd1 zLle
  have own : l.length ≤ 200 → h o 3 - x1 = ((l.length - m : Nat) : Int) := fun z => by rw [m1, zL200 z, zL200 (Nat.le_trans hm z)]
  have done : ∀ (h9 : zHP), zFin h9 → zfr [o, o + 1] h h9 → h9 o = h o → (∀ q, q < (zrptL m t l).length → q < 200 → h9 (o + 1) q = (zcdE ((zrptL m t l).getD q ze0) : Int)) → (fun v sh' h' => sh' = zSHc ∧ K v h') none zSHc (zup (zup h9 o 3 ((min (zrptL m t l).length 100000 : Nat) : Int)) o 4 (min (x2 + (h o 4 - x2) * x3) 100000)) := fun h9 F9 fr9 e9 C => by
    rw [n2]
    refine ⟨rfl, k _ (zLad.up (zLad.up F9 hp (by decide)) hp (by decide)) ((fr9.up (by simp)).up (by simp)) ⟨⟨?_, ?_, zup_eq, fun i hi hi2 => ?_⟩, zrpt_k kk⟩⟩
    · rw [zup_k (by decide), zup_k (by decide), e9]; exact r2
    · rw [zup_k (by decide), zup_eq]
    · rw [zup_c (by omega), zup_c (by omega)]
      exact ⟨C i (zLlt hi) hi2, zcdE_lt (zrpt_k kk _ (zget_in (zLlt hi)))⟩
  have base : ∀ q, q < (zrptL m t l).length → q < l.length → q < 200 → h (o + 1) q = (zcdE ((zrptL m t l).getD q ze0) : Int) := fun q q1 q2 q3 => by
    have e : (zrptL m t l).getD q ze0 = l.getD q ze0 := by
      refine zrpt_old hm ?_
      by_cases z : t = 0
      · rw [nl, z, Nat.zero_mul] at q1
        exact Or.inl ⟨z, q1⟩
      · exact Or.inr ⟨Nat.pos_of_ne_zero z, q2⟩
    rw [e]
    exact (rc q (zLgt q2 q3) q3).1
  have nsi : ∀ i, i < 200 → (min (zrptL m t l).length 100000 ≤ i ↔ (zrptL m t l).length ≤ i) := fun i hi => zLi hi
  have len31 : l.length < 200 ∨ 200 ≤ min l.length 100000 := by
    by_cases z : l.length < 200
    · exact Or.inl z
    · exact Or.inr (Nat.le_min.mpr ⟨by omega, by decide⟩)
  have sml : l.length < 200 → min l.length 100000 = l.length := fun z => zL200 (Nat.le_of_lt z)
  refine sg_31_0 hp B1 B2 B3 B4 B5 ?_
  rw [n1, show max (h o 3) 0 = h o 3 from by rw [r3]; exact Int.max_eq_left (Int.natCast_nonneg _)]
  clear n1 n2 p1 p2 m1 m2 B1 B2 B3 B4 B5
  generalize min (zrptL m t l).length 100000 = ns at done nsi
  generalize min l.length 100000 = sz at r3 len31 sml rc
  clear rc r4 kk k h1 h2 h3 hz r2
  have stop : ∀ (h9 : zHP) (x7 : Int), zFin h9 → zfr [o, o + 1] h h9 → h9 o = h o → (∀ q, q < (zrptL m t l).length → q < 200 → h9 (o + 1) q = (zcdE ((zrptL m t l).getD q ze0) : Int)) → ((ns : Int) ≤ x7 ∨ 200 ≤ x7) → zAt X 31 44 0 0 [some (zR o), none, some (zI x2), some (zI x3), some (zI (h o 3 - x1)), some (zI (h o 4 - x2)), some (zI (ns : Int)), some (zI x7)] [] zSHc h9 (fun v sh' h' => sh' = zSHc ∧ K v h') := fun h9 x7 F9 fr9 e9 C y => by
    have fin := done h9 F9 fr9 e9 C
    by_cases w : (ns : Int) ≤ x7
    · exact sg_31_44 F9 hp (fun _ => C3) (fun _ => C4) (fun _ => C5) (fun _ => fin) (fun z => absurd w (Int.not_le.mpr z)) (fun z => absurd w (Int.not_le.mpr z)) (fun z => absurd w (Int.not_le.mpr z)) (fun z => absurd w (Int.not_le.mpr z)) (fun z => absurd w (Int.not_le.mpr z)) (fun z => absurd w (Int.not_le.mpr z)) (fun z => absurd w (Int.not_le.mpr z)) (fun z => absurd w (Int.not_le.mpr z)) (fun z => absurd w (Int.not_le.mpr z)) (fun z => absurd w (Int.not_le.mpr z)) (fun z => absurd w (Int.not_le.mpr z)) (fun z => absurd w (Int.not_le.mpr z)) (fun z => absurd w (Int.not_le.mpr z))
    · have y : 200 ≤ x7 := y.resolve_left w
      exact sg_31_44 F9 hp (fun z => absurd z w) (fun z => absurd z w) (fun z => absurd z w) (fun z => absurd z w) (fun _ _ => C3) (fun _ _ => C4) (fun _ _ => C5) (fun _ _ => fin) (fun _ z => absurd y (Int.not_le.mpr z)) (fun _ z => absurd y (Int.not_le.mpr z)) (fun _ z => absurd y (Int.not_le.mpr z)) (fun _ z => absurd y (Int.not_le.mpr z)) (fun _ z => absurd y (Int.not_le.mpr z)) (fun _ z => absurd y (Int.not_le.mpr z)) (fun _ z => absurd y (Int.not_le.mpr z)) (fun _ z => absurd y (Int.not_le.mpr z)) (fun _ z => absurd y (Int.not_le.mpr z))
  have loop : ∀ (d i : Nat) (h9 : zHP) (x7 : Int), 200 - i ≤ d → l.length ≤ i → i ≤ 200 → x7 = (i : Int) → zFin h9 → zfr [o, o + 1] h h9 → h9 o = h o → (∀ q, q < (zrptL m t l).length → q < i → h9 (o + 1) q = (zcdE ((zrptL m t l).getD q ze0) : Int)) → zAt X 31 44 0 0 [some (zR o), none, some (zI x2), some (zI x3), some (zI (h o 3 - x1)), some (zI (h o 4 - x2)), some (zI (ns : Int)), some (zI x7)] [] zSHc h9 (fun v sh' h' => sh' = zSHc ∧ K v h') := by
    intro d
    induction d with
    | zero =>
      intro i h9 x7 hd hl hi e7 F9 fr9 e9 C
      exact stop h9 x7 F9 fr9 e9 (fun q q1 q2 => C q q1 (by omega)) (Or.inr (by omega))
    | succ d ih =>
      intro i h9 x7 hd hl hi e7 F9 fr9 e9 C
      by_cases i2 : i < 200
      · by_cases z : (zrptL m t l).length ≤ i
        · have z2 := (nsi i i2).mpr z
          exact stop h9 x7 F9 fr9 e9 (fun q q1 q2 => C q q1 (by omega)) (Or.inl (by omega))
        · have z2 : ¬ ns ≤ i := fun w => z ((nsi i i2).mp w)
          have own := own (by omega)
          have pos : 0 < l.length - m := by
            by_cases w : l.length - m = 0
            · rw [nl, w, Nat.mul_zero] at z; omega
            · omega
          have ei : x7.toNat = i := by omega
          have ej : (x7 - (h o 3 - x1)).toNat = i - (l.length - m) := by omega
          have v := C (i - (l.length - m)) (by omega) (by omega)
          have C2 : ∀ q, q < (zrptL m t l).length → q < i + 1 → zup h9 (o + 1) i (h9 (o + 1) (i - (l.length - m))) (o + 1) q = (zcdE ((zrptL m t l).getD q ze0) : Int) := fun q q1 q2 => by
            by_cases w : q = i
            · rw [w, zup_eq, v, zrpt_get hm hl (by rw [← nl]; omega)]
            · rw [zup_k w]; exact C q q1 (by omega)
          have nx := ih (i + 1) (zup h9 (o + 1) i (h9 (o + 1) (i - (l.length - m)))) (x7 + 1) (by omega) (by omega) (by omega) (by omega) (F9.upV hp.a1) (fr9.up (by simp)) (by rw [← e9]; funext j; rw [zup_c (by omega)]) C2
          rw [← ej, ← ei] at nx
          clear C C2 v done base stop ih nl
          exact sg_31_44 F9 hp (fun w => by omega) (fun w => by omega) (fun w => by omega) (fun w => by omega) (fun _ w => by omega) (fun _ w => by omega) (fun _ w => by omega) (fun _ w => by omega) (fun _ _ => by omega) (fun _ _ w => by omega) (fun _ _ w => by omega) (fun _ _ _ w => by omega) (fun _ _ _ w => by omega) (fun _ _ _ _ => by omega) (fun _ _ _ _ => by omega) (fun _ _ _ _ => by omega) (fun _ _ _ _ => nx)
      · exact stop h9 x7 F9 fr9 e9 (fun q q1 q2 => C q q1 (by omega)) (Or.inr (by omega))
  rcases len31 with z | z
  · rw [r3, sml z]
    have := loop 200 l.length h (l.length : Int) (by omega) (Nat.le_refl _) (by omega) rfl F zfr.rfl rfl fun q q1 q2 => base q q1 q2 (by omega)
    rw [r3, sml z] at this
    exact this
  · have := stop h (h o 3) F zfr.rfl rfl (fun q q1 q2 => base q q1 (by
      by_cases w : q < l.length
      · exact w
      · exact absurd (sml (by omega)) (by omega)) q2) (Or.inr (by omega))
    exact this
end
