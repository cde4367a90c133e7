/-! ORDERS AS ROWS -/
def zmpd (d : Nat) (l : List Nat) : List Nat := l.map (fun x => if d ≤ x then x + 1 else x)
def zrw : Nat → Nat → List Nat
  | 0, _ => []
  | n + 1, o => o / zfac n :: zmpd (o / zfac n) (zrw n (o % zfac n))
def zswp : Nat → List Nat → List Nat
  | 0, a :: b :: r => b :: a :: r
  | k + 1, a :: r => a :: zswp k r
  | _, l => l
/-- how many of the row are less -/
def zcls (x : Nat) (l : List Nat) : Nat := l.countP (fun y => decide (y < x))
/-- the number of a row; how many pairs of it are turned -/
def zlnum : List Nat → Nat
  | [] => 0
  | x :: r => zcls x r * zfac r.length + zlnum r
def zlinv : List Nat → Nat
  | [] => 0
  | x :: r => zcls x r + zlinv r
/-- a row of 0 .. n - 1, each once -/
def zpm (n : Nat) (l : List Nat) : Prop := l.Nodup ∧ ∀ v, v ∈ l ↔ v < n
abbrev zx (n k o : Nat) : Nat := zsj (n - 2 - k) o
theorem zpm.perm {n : Nat} {l : List Nat} (h : zpm n l) : l.Perm (List.range n) := (List.perm_ext_iff_of_nodup h.1 List.nodup_range).mpr fun v => by rw [h.2, List.mem_range]
theorem zpm.len {n : Nat} {l : List Nat} (h : zpm n l) : l.length = n := by rw [h.perm.length_eq, List.length_range]
theorem zpm.of {n : Nat} {l l2 : List Nat} (h : zpm n l) (p : l2.Perm l) : zpm n l2 := ⟨p.nodup_iff.mpr h.1, fun v => by rw [p.mem_iff]; exact h.2 v⟩
theorem zcls_range (n : Nat) : ∀ x, x ≤ n → zcls x (List.range n) = x := by
  induction n with
  | zero => intro x hx; have : x = 0 := by omega
            subst this; rfl
  | succ n ih =>
    intro x hx
    unfold zcls at ih ⊢
    rw [List.range_succ, List.countP_append]
    by_cases c : x ≤ n
    · rw [ih x c, List.countP_cons_of_neg (by simp; omega)]
      rfl
    · have e : x = n + 1 := by omega
      subst e
      rw [List.countP_cons_of_pos (by simp), List.countP_nil]
      have h1 : (List.range n).countP (fun y => decide (y < n + 1)) = (List.range n).countP (fun y => decide (y < n)) := List.countP_congr fun y hy => by
        have := List.mem_range.mp hy
        simp; omega
      rw [h1, ih n (Nat.le_refl _)]
theorem zpm.cls {n : Nat} {l : List Nat} (h : zpm n l) {x : Nat} (hx : x ≤ n) : zcls x l = x := by
  have := h.perm.countP_eq (fun y => decide (y < x))
  unfold zcls
  rw [this]
  exact zcls_range n x hx
theorem zpm.cls1 {n x : Nat} {r : List Nat} (h : zpm n (x :: r)) : zcls x r = x := by
  have hx : x < n := (h.2 x).mp List.mem_cons_self
  have h1 := h.cls (x := x) (by omega)
  unfold zcls at h1 ⊢
  rw [List.countP_cons_of_neg (by simp)] at h1
  exact h1
theorem zmpd_len (d : Nat) (l : List Nat) : (zmpd d l).length = l.length := List.length_map _
theorem zcls_map (d x : Nat) (l : List Nat) : zcls (if d ≤ x then x + 1 else x) (zmpd d l) = zcls x l := by
  unfold zcls zmpd
  rw [List.countP_map]
  refine List.countP_congr fun y _ => ?_
  simp only [Function.comp, decide_eq_true_eq]
  split <;> split <;> omega
theorem zlnum_map (d : Nat) : ∀ l : List Nat, zlnum (zmpd d l) = zlnum l
  | [] => rfl
  | x :: r => by
    show zcls (if d ≤ x then x + 1 else x) (zmpd d r) * zfac (zmpd d r).length + zlnum (zmpd d r) = _
    rw [zcls_map, zmpd_len, zlnum_map d r]
    rfl
theorem zlinv_map (d : Nat) : ∀ l : List Nat, zlinv (zmpd d l) = zlinv l
  | [] => rfl
  | x :: r => by
    show zcls (if d ≤ x then x + 1 else x) (zmpd d r) + zlinv (zmpd d r) = _
    rw [zcls_map, zlinv_map d r]
    rfl
theorem zmpd_pm {n d : Nat} {r : List Nat} (h : zpm n r) (hd : d ≤ n) : zpm (n + 1) (d :: zmpd d r) := by
  refine ⟨List.nodup_cons.mpr ⟨fun z => ?_, ?_⟩, fun v => ?_⟩
  · obtain ⟨y, -, e⟩ := List.mem_map.mp z
    split at e <;> omega
  · refine List.pairwise_map.mpr (List.Pairwise.imp (fun {a b} hab => ?_) h.1)
    show (if d ≤ a then a + 1 else a) ≠ (if d ≤ b then b + 1 else b)
    split <;> split <;> omega
  · constructor
    · intro z
      rcases List.mem_cons.mp z with z | z
      · omega
      · obtain ⟨y, hy, e⟩ := List.mem_map.mp z
        have := (h.2 y).mp hy
        split at e <;> omega
    · intro z
      by_cases c : v = d
      · rw [c]; exact List.mem_cons_self
      · refine List.mem_cons_of_mem _ (List.mem_map.mpr ?_)
        by_cases c2 : v < d
        · exact ⟨v, (h.2 v).mpr (by omega), if_neg (by omega)⟩
        · exact ⟨v - 1, (h.2 _).mpr (by omega), by rw [if_pos (by omega)]; omega⟩
theorem zdiv_le {n o : Nat} (ho : o < zfac (n + 1)) : o / zfac n ≤ n := by
  have h : o / zfac n < n + 1 := Nat.div_lt_of_lt_mul (by rw [Nat.mul_comm]; exact ho)
  omega
theorem zrw_pm : ∀ {n o : Nat}, o < zfac n → zpm n (zrw n o)
  | 0, _, _ => ⟨List.nodup_nil, fun v => by simp [zrw]⟩
  | n + 1, o, ho => zmpd_pm (zrw_pm (Nat.mod_lt _ (zfac_pos n))) (zdiv_le ho)
theorem zrw_len {n o : Nat} : (zrw n o).length = n := by
  induction n generalizing o with
  | zero => rfl
  | succ n ih =>
    show (zmpd _ _).length + 1 = _
    rw [zmpd_len, ih]
theorem zlnum_row : ∀ {n o : Nat}, o < zfac n → zlnum (zrw n o) = o
  | 0, o, ho => by
    have : o = 0 := by change o < 1 at ho; omega
    subst this; rfl
  | n + 1, o, ho => by
    have hp := zrw_pm ho
    have hr := zlnum_row (Nat.mod_lt o (zfac_pos n))
    have hc := zpm.cls1 hp
    show zcls (o / zfac n) (zmpd (o / zfac n) (zrw n (o % zfac n))) * zfac (zmpd (o / zfac n) (zrw n (o % zfac n))).length + zlnum (zmpd (o / zfac n) (zrw n (o % zfac n))) = o
    rw [hc, zmpd_len, zrw_len, zlnum_map, hr]
    have := Nat.div_add_mod o (zfac n)
    rw [Nat.mul_comm] at this
    exact this
/-- what is left of a row without its first number, as a row of its own -/
theorem zpm_tail {n x : Nat} {r : List Nat} (h : zpm (n + 1) (x :: r)) : ∃ r', zpm n r' ∧ zmpd x r' = r := by
  have hx : x ∉ r := (List.nodup_cons.mp h.1).1
  have hn : r.Nodup := (List.nodup_cons.mp h.1).2
  have hm : ∀ y, y ∈ r → y ≠ x ∧ y < n + 1 := fun y hy => ⟨fun e => hx (e ▸ hy), (h.2 y).mp (List.mem_cons_of_mem _ hy)⟩
  have hxn : x < n + 1 := (h.2 x).mp List.mem_cons_self
  refine ⟨r.map (fun y => if x < y then y - 1 else y), ⟨?_, fun v => ?_⟩, ?_⟩
  · refine List.pairwise_map.mpr (List.Pairwise.imp_of_mem (fun {a b} ha hb hab => ?_) hn)
    have h1 := hm a ha
    have h2 := hm b hb
    have hab : a ≠ b := hab
    show (if x < a then a - 1 else a) ≠ (if x < b then b - 1 else b)
    split <;> split <;> omega
  · constructor
    · intro z
      obtain ⟨y, hy, e⟩ := List.mem_map.mp z
      have := hm y hy
      split at e <;> omega
    · intro z
      refine List.mem_map.mpr ?_
      by_cases c : v < x
      · refine ⟨v, ?_, if_neg (by omega)⟩
        rcases List.mem_cons.mp ((h.2 v).mpr (by omega)) with g | g
        · omega
        · exact g
      · refine ⟨v + 1, ?_, by rw [if_pos (by omega)]; omega⟩
        rcases List.mem_cons.mp ((h.2 (v + 1)).mpr (by omega)) with g | g
        · omega
        · exact g
  · unfold zmpd
    rw [List.map_map]
    refine (List.map_congr_left fun y hy => ?_).trans (List.map_id r)
    have := hm y hy
    show (if x ≤ (if x < y then y - 1 else y) then (if x < y then y - 1 else y) + 1 else (if x < y then y - 1 else y)) = y
    split <;> split at * <;> omega
theorem zrw_num : ∀ {n : Nat} {l : List Nat}, zpm n l → zrw n (zlnum l) = l ∧ zlnum l < zfac n
  | 0, l, h => by
    have e : l = [] := List.eq_nil_of_length_eq_zero h.len
    subst e
    exact ⟨rfl, Nat.one_pos⟩
  | n + 1, [], h => by have := h.len; simp at this
  | n + 1, x :: r, h => by
    obtain ⟨r', h1, h2⟩ := zpm_tail h
    obtain ⟨i1, i2⟩ := zrw_num h1
    have hc := h.cls1
    have hl : r.length = n := by have := h.len; simpa using this
    have hxn : x < n + 1 := (h.2 x).mp List.mem_cons_self
    have e : zlnum (x :: r) = x * zfac n + zlnum r' := by
      show zcls x r * zfac r.length + zlnum r = _
      rw [hc, hl, ← h2, zlnum_map]
    have d1 : (x * zfac n + zlnum r') / zfac n = x := by
      rw [Nat.mul_comm, Nat.mul_add_div (zfac_pos n), Nat.div_eq_of_lt i2]; rfl
    have d2 : (x * zfac n + zlnum r') % zfac n = zlnum r' := by
      rw [Nat.mul_comm, Nat.mul_add_mod, Nat.mod_eq_of_lt i2]
    rw [e]
    refine ⟨?_, ?_⟩
    · show (x * zfac n + zlnum r') / zfac n :: zmpd ((x * zfac n + zlnum r') / zfac n) (zrw n ((x * zfac n + zlnum r') % zfac n)) = _
      rw [d1, d2, i1, h2]
    · show _ < (n + 1) * zfac n
      have : x * zfac n + zfac n ≤ (n + 1) * zfac n := by
        rw [← Nat.succ_mul]; exact Nat.mul_le_mul_right _ (by omega)
      omega
theorem zlinv_num : ∀ {n o : Nat}, o < zfac n → zlinv (zrw n o) = zinvs n o
  | 0, _, _ => rfl
  | n + 1, o, ho => by
    have hc := zpm.cls1 (zrw_pm ho)
    have hr := zlinv_num (Nat.mod_lt o (zfac_pos n))
    have sh : ∀ (f : Nat → Nat) (m : Nat), zsu f (m + 1) = f 0 + zsu (fun i => f (i + 1)) m := by
      intro f m
      induction m with
      | zero => show 0 + f 0 = f 0 + 0; omega
      | succ m ih =>
        show zsu f (m + 1) + f (m + 1) = f 0 + (zsu (fun i => f (i + 1)) m + f (m + 1))
        rw [ih]; omega
    have hd : zD n o = o / zfac n := Nat.mod_eq_of_lt (by have := zdiv_le ho; omega)
    have hlow : ∀ i, i < n → zD (n - 1 - i) (o % zfac n) = zD (n - 1 - i) o := fun i hi => by
      unfold zD
      have hdv : zfac (n - 1 - i + 1) ∣ zfac n := by
        have : ∀ a b : Nat, zfac a ∣ zfac (a + b) := fun a b => by
          induction b with
          | zero => exact Nat.dvd_refl _
          | succ b ih => exact Nat.dvd_trans ih (Nat.dvd_mul_left _ _)
        have := this (n - 1 - i + 1) i
        rw [show n - 1 - i + 1 + i = n by omega] at this
        exact this
      obtain ⟨q, hq⟩ := hdv
      have e1 : zfac (n - 1 - i + 1) = (n - 1 - i + 1) * zfac (n - 1 - i) := rfl
      rw [hq, e1, Nat.mul_comm (n - 1 - i + 1), Nat.mul_assoc, Nat.mod_mul_right_div_self, Nat.mod_mul_right_mod]
    have ez : zinvs n (o % zfac n) = zsu (fun i => zD (n - 1 - i) o) n := by
      unfold zinvs
      have : ∀ m, m ≤ n → zsu (fun i => zD (n - 1 - i) (o % zfac n)) m = zsu (fun i => zD (n - 1 - i) o) m := by
        intro m hm
        induction m with
        | zero => rfl
        | succ m ih =>
          show zsu _ m + zD (n - 1 - m) (o % zfac n) = zsu _ m + zD (n - 1 - m) o
          rw [ih (by omega), hlow m (by omega)]
      exact this n (Nat.le_refl _)
    show zcls (o / zfac n) (zmpd (o / zfac n) (zrw n (o % zfac n))) + zlinv (zmpd (o / zfac n) (zrw n (o % zfac n))) = zinvs (n + 1) o
    rw [hc, zlinv_map, hr, ez]
    unfold zinvs
    rw [sh]
    show _ = zD n o + _
    rw [hd]
    congr 1
    congr 1
    funext i
    congr 1
    omega
