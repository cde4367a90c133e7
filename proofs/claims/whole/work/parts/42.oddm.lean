/-! ODDS: bags of orders with their ways -/
theorem zpig {c M : Nat} {E : Nat → Nat} (h1 : ∀ i, i < c → E i < M) (h2 : ∀ i j, i < c → j < c → E i = E j → i = j) {v : Nat} (hv : v < M) (h3 : ∀ i, i < c → E i ≠ v) : c < M := by
  have nd : (v :: (List.range c).map E).Nodup := by
    refine List.nodup_cons.mpr ⟨fun z => ?_, ?_⟩
    · obtain ⟨i, hi, e⟩ := List.mem_map.mp z
      exact h3 i (List.mem_range.mp hi) e
    · refine List.pairwise_map.mpr (List.Pairwise.imp_of_mem (fun {a b} ha hb hab => ?_) List.nodup_range)
      exact fun e => hab (h2 a b (List.mem_range.mp ha) (List.mem_range.mp hb) e)
  have hs : (v :: (List.range c).map E) ⊆ List.range M := by
    intro x hx
    rcases List.mem_cons.mp hx with hx | hx
    · rw [hx]; exact List.mem_range.mpr hv
    · obtain ⟨i, hi, e⟩ := List.mem_map.mp hx
      rw [← e]; exact List.mem_range.mpr (h1 i (List.mem_range.mp hi))
  have := nd.length_le_of_subset hs
  simp at this
  omega
def zwt (E W : Nat → Nat) (c v : Nat) : Nat := zsu (fun i => if E i = v then W i else 0) c
/-- what an element makes of the ways of all orders -/
def zpf (n : Nat) (x : Nat × Nat × Nat × Nat) (w : Nat → Nat) (v : Nat) : Nat := zsu (fun u => if x.1 = 3 then (if u = v then w u * (x.2.2.2 - x.2.2.1) else 0) + (if zx n x.2.1 u = v then w u * x.2.2.1 else 0) else if zst n x true u = v then w u else 0) (zfac n)
def zww (n : Nat) (e : zel) (o : Nat) : Nat → Nat → Nat
  | 0, v => if v = o then 1 else 0
  | i + 1, v => zpf n (e i) (zww n e o i) v
theorem zsu_pick {M a : Nat} (g : Nat → Nat) (ha : a < M) : zsu (fun u => if u = a then g u else 0) M = g a := by
  rw [zsu_one _ ha (fun i _ hi => if_neg hi), if_pos rfl]
theorem zsu_pick2 {M a : Nat} (g : Nat → Nat) (ha : a < M) : zsu (fun u => if a = u then g u else 0) M = g a := by
  rw [zsu_one _ ha (fun i _ hi => if_neg (fun e => hi e.symm)), if_pos rfl]
/-- all ways together -/
theorem zwt_sum {E W : Nat → Nat} {c M : Nat} (h : ∀ i, i < c → E i < M) : zsu (fun v => zwt E W c v) M = zsu W c := by
  unfold zwt
  rw [zsu_swap]
  exact zsu_congr fun i hi => zsu_pick2 (fun _ => W i) (h i hi)
theorem zpf_sum {n : Nat} {x : Nat × Nat × Nat × Nat} {w : Nat → Nat} (hn : n ≤ 7) (hx : x.2.1 + 2 ≤ n) (h3 : x.1 = 3 → x.2.2.1 ≤ x.2.2.2) : zsu (zpf n x w) (zfac n) = zsu w (zfac n) * (if x.1 = 3 then x.2.2.2 else 1) := by
  have e : zsu (zpf n x w) (zfac n) = zsu (fun v => zsu (fun u => if x.1 = 3 then (if u = v then w u * (x.2.2.2 - x.2.2.1) else 0) + (if zx n x.2.1 u = v then w u * x.2.2.1 else 0) else if zst n x true u = v then w u else 0) (zfac n)) (zfac n) := rfl
  rw [e, zsu_swap]
  by_cases c : x.1 = 3
  · rw [if_pos c, ← zsu_mul]
    refine zsu_congr fun u hu => ?_
    simp only [if_pos c]
    rw [zsu_add, zsu_pick2 (fun _ => w u * (x.2.2.2 - x.2.2.1)) hu, zsu_pick2 (fun _ => w u * x.2.2.1) (zx_lt hu hx), ← Nat.mul_add]
    congr 1
    have := h3 c
    omega
  · rw [if_neg c, Nat.mul_one]
    refine zsu_congr fun u hu => ?_
    simp only [if_neg c]
    exact zsu_pick2 (fun _ => w u) (zst_lt hn hu hx)
theorem zww_sum {n m o : Nat} {e : zel} (hl : zlok n m e) (ho : o < zfac n) : ∀ i, i ≤ m → zsu (zww n e o i) (zfac n) = zways e i
  | 0, _ => zsu_pick (fun _ => 1) ho
  | i + 1, h => by
    have hx := hl.2.2.2 i (by omega)
    show zsu (zpf n (e i) (zww n e o i)) (zfac n) = if (e i).1 = 3 then zways e i * (e i).2.2.2 else zways e i
    rw [zpf_sum hl.1.2 hx.2.1 (fun c => (hx.2.2 c).1), zww_sum hl ho i (by omega)]
    split
    · rfl
    · exact Nat.mul_one _
/-- a bag's next ways, from the bag -/
theorem zwt_pf {n c v : Nat} {x : Nat × Nat × Nat × Nat} {E W w : Nat → Nat} (h : ∀ i, i < c → E i < zfac n) (hw : ∀ u, u < zfac n → w u = zwt E W c u) : zpf n x w v = zsu (fun i => if x.1 = 3 then (if E i = v then W i * (x.2.2.2 - x.2.2.1) else 0) + (if zx n x.2.1 (E i) = v then W i * x.2.2.1 else 0) else if zst n x true (E i) = v then W i else 0) c := by
  unfold zpf
  have key : ∀ f : Nat → Nat → Nat, (∀ u, f u 0 = 0) → (∀ u a b, f u (a + b) = f u a + f u b) → zsu (fun u => f u (w u)) (zfac n) = zsu (fun i => f (E i) (W i)) c := by
    intro f f0 fa
    have s1 : zsu (fun u => f u (w u)) (zfac n) = zsu (fun u => zsu (fun i => if E i = u then f (E i) (W i) else 0) c) (zfac n) := zsu_congr fun u hu => by
      rw [hw u hu]
      unfold zwt
      have : ∀ m, f u (zsu (fun i => if E i = u then W i else 0) m) = zsu (fun i => if E i = u then f (E i) (W i) else 0) m := by
        intro m
        induction m with
        | zero => exact f0 u
        | succ m ih =>
          show f u (zsu _ m + (if E m = u then W m else 0)) = zsu _ m + (if E m = u then f (E m) (W m) else 0)
          rw [fa, ih]
          by_cases c : E m = u
          · rw [if_pos c, if_pos c, c]
          · rw [if_neg c, if_neg c, f0]
      exact this c
    rw [s1, zsu_swap]
    exact zsu_congr fun i hi => zsu_pick2 (fun _ => f (E i) (W i)) (h i hi)
  by_cases c3 : x.1 = 3
  · simp only [if_pos c3]
    refine key (fun u y => (if u = v then y * (x.2.2.2 - x.2.2.1) else 0) + (if zx n x.2.1 u = v then y * x.2.2.1 else 0)) (fun u => ?_) (fun u a b => ?_)
    · simp
    · split <;> split <;> (try simp only [Nat.add_mul]) <;> omega
  · simp only [if_neg c3]
    refine key (fun u y => if zst n x true u = v then y else 0) (fun u => ?_) (fun u a b => ?_)
    · simp
    · split <;> omega
/-- counting the orders that a bag without repeats holds -/
theorem zwt_count {E W : Nat → Nat} {c M : Nat} (h1 : ∀ i, i < c → E i < M ∧ 0 < W i) (h2 : ∀ i j, i < c → j < c → E i = E j → i = j) : zsu (fun v => if 0 < zwt E W c v then 1 else 0) M = c := by
  have e : ∀ v, (if 0 < zwt E W c v then 1 else 0) = zsu (fun i => if E i = v then 1 else 0) c := by
    intro v
    by_cases ex : ∃ i, i < c ∧ E i = v
    · obtain ⟨i, hi, he⟩ := ex
      have s1 : zwt E W c v = W i := by
        unfold zwt
        rw [zsu_one _ hi (fun j hj hji => if_neg (fun z => hji (h2 j i hj hi (z.trans he.symm)))), if_pos he]
      have s2 : zsu (fun i => if E i = v then 1 else 0) c = 1 := by
        rw [zsu_one _ hi (fun j hj hji => if_neg (fun z => hji (h2 j i hj hi (z.trans he.symm)))), if_pos he]
      rw [s1, s2, if_pos (h1 i hi).2]
    · have s1 : zwt E W c v = 0 := by
        unfold zwt
        rw [zsu_congr (g := fun _ => 0) (fun i hi => if_neg (fun z => ex ⟨i, hi, z⟩)), zsu_0]
      rw [s1, if_neg (by omega), zsu_congr (g := fun _ => 0) (fun i hi => if_neg (fun z => ex ⟨i, hi, z⟩)), zsu_0]
  rw [zsu_congr (fun v _ => e v), zsu_swap, zsu_congr (g := fun _ => 1) (fun i hi => zsu_pick2 (fun _ => 1) (h1 i hi).1)]
  have : ∀ m, zsu (fun _ => 1) m = m := by
    intro m
    induction m with
    | zero => rfl
    | succ m ih => show zsu _ m + 1 = m + 1; rw [ih]
  exact this c
theorem zwt_at {E W : Nat → Nat} {c i : Nat} (hi : i < c) (h2 : ∀ i j, i < c → j < c → E i = E j → i = j) : zwt E W c (E i) = W i := by
  unfold zwt
  rw [zsu_one _ hi (fun j hj hji => if_neg (fun z => hji (h2 j i hj hi z))), if_pos rfl]
theorem zwt_no {E W : Nat → Nat} {c v : Nat} (h : ∀ i, i < c → E i ≠ v) : zwt E W c v = 0 := by
  unfold zwt
  rw [zsu_congr (g := fun _ => 0) (fun i hi => if_neg (h i hi)), zsu_0]
/-- a sum over a bag as one over all orders -/
theorem zwt_fold {E W w : Nat → Nat} {c M : Nat} (P : Nat → Prop) [DecidablePred P] (h : ∀ i, i < c → E i < M) (hw : ∀ u, u < M → w u = zwt E W c u) : zsu (fun i => if P (E i) then W i else 0) c = zsu (fun u => if P u then w u else 0) M := by
  have s1 : zsu (fun u => if P u then w u else 0) M = zsu (fun u => zsu (fun i => if E i = u then (if P (E i) then W i else 0) else 0) c) M := zsu_congr fun u hu => by
    rw [hw u hu]
    unfold zwt
    by_cases c : P u
    · rw [if_pos c]
      refine zsu_congr fun i _ => ?_
      by_cases d : E i = u
      · rw [if_pos d, if_pos d, d, if_pos c]
      · rw [if_neg d, if_neg d]
    · rw [if_neg c]
      symm
      rw [zsu_congr (g := fun _ => 0) (fun i _ => ?_), zsu_0]
      by_cases d : E i = u
      · rw [if_pos d, d, if_neg c]
      · rw [if_neg d]
  rw [s1, zsu_swap]
  exact zsu_congr fun i hi => (zsu_pick2 (fun _ => if P (E i) then W i else 0) (h i hi)).symm
