/-! THE WORLD: which cells of the machine stand for the places -/
def zcr (B : Nat) (cv : Nat → Value) (k : Nat) : Value := bif Nat.blt k 1000 then .ref (B + k) else cv k
def zcv (B : Nat) (cv : Nat → Value) (v : zAV) : Value := match v with
  | .inl x => .int (Int32.ofInt x)
  | .inr (.inl x) => .long (Int64.ofInt x)
  | .inr (.inr none) => .null
  | .inr (.inr (some k)) => zcr B cv k
def zfv (B : Nat) (cv : Nat → Value) (t : Nat) (x : Int) : Value := match t with
  | 0 => .int (Int32.ofInt x)
  | 1 => .long (Int64.ofInt x)
  | _ => if x < 0 then .null else zcr B cv x.toNat
def zrow (B : Nat) (cv : Nat → Value) (cA : Nat → ClassId) (t : Nat × Nat) (f : Nat → Int) : va_E := match t with
  | (0, n) => .inl (cA 0, n, .inl (fun k => Int32.ofInt (f k)))
  | (1, n) => .inl (cA 1, n, .inr (.inl (fun k => Int64.ofInt (f k))))
  | (2, n) => .inl (cA 2, n, .inl (fun k => Int32.ofInt (f k)))
  | (3, n) => .inl (cA 3, n, .inl (fun k => Int32.ofInt (f k)))
  | (4, n) => .inl (cA 4, n, .inl (fun k => Int32.ofInt (f k)))
  | (5, n) => .inl (cA 5, n, .inr (.inr (.inr (.inr (fun k => if f k < 0 then none else some (B + (f k).toNat))))))
  | (t, n) => .inr (t - 16, (List.range n).map (fun j => zfv B cv (zft (t - 16) j) (f j)))
def zws (B : Nat) (cv : Nat → Value) (cA : Nat → ClassId) (sh : zSH) (h : zHP) : va_W := (List.range sh.length).map (fun k => (B + k, zrow B cv cA (sh.getD k (99, 0)) (h k)))
def zokc (t j : Nat) (x : Int) : Prop := match t with
  | 0 => z32 x
  | 1 => z64 x
  | 2 => -32768 ≤ x ∧ x ≤ 32767
  | 3 => -128 ≤ x ∧ x ≤ 127
  | 4 => x = 0 ∨ x = 1
  | 5 => -1 ≤ x ∧ x < 1000
  | t => match zft (t - 16) j with
    | 0 => z32 x
    | 1 => z64 x
    | _ => -1 ≤ x
def zokt (t n : Nat) : Prop := n ≤ 60000 ∧ (16 ≤ t → t < 29 ∧ n = zNf (t - 16))
def zokh (sh : zSH) (h : zHP) : Prop := ∀ k, k < sh.length → zokt (sh.getD k (99, 0)).1 (sh.getD k (99, 0)).2 ∧ ∀ j, zokc (sh.getD k (99, 0)).1 j (h k j)
def zokv (v : zAV) : Prop := match v with
  | .inl x => z32 x
  | .inr (.inl x) => z64 x
  | .inr (.inr _) => True
def zokS (st : List zAV) : Prop := ∀ v ∈ st, zokv v
def zokL (ls : zLL) : Prop := ∀ v, some v ∈ ls → zokv v
def ztys (cA : Nat → ClassId) : List (ClassId × FieldType) := [(cA 0, .int), (cA 1, .long), (cA 2, .short), (cA 3, .byte), (cA 4, .boolean), (cA 5, .object "LadderLots$Ladder")]
def zWR (D : va_G) (B : Nat) (cv : Nat → Value) (cA : Nat → ClassId) (sh : zSH) (h : zHP) (H : Heap) : Prop :=
  H.size = B + sh.length ∧ va_P D vwCl (zws B cv cA sh h) H ∧ zokh sh h ∧ sh.length ≤ 1000
/-- what was there before: it stays -/
def zCF (B : Nat) (cv : Nat → Value) (X : List Int) (U : State) (H : Heap) : Prop :=
  (∃ t, cv 1000 = .ref t ∧ va_Z "LadderLots$Orders" "FACTORIALS" "[I" (.ref t) (fun q => B ≤ q) U H ∧ va_T .int t 8 (fun j => .int (Int32.ofInt (zFac.getD j 0))) (fun q => B ≤ q) U H) ∧
  (∃ t, cv 1001 = .ref t ∧ va_Z "LadderLots$BitRows" "PATTERNS" "[J" (.ref t) (fun q => B ≤ q) U H ∧ va_T .long t 7 (fun j => .long (Int64.ofInt (zPat.getD j 0))) (fun q => B ≤ q) U H) ∧
  (∃ t, cv 1900 = .ref t ∧ va_T .int t X.length (fun j => .int (Int32.ofInt (X.getD j 0))) (fun q => B ≤ q) U H) ∧
  va_Z "jdk/internal/util/Preconditions" "SIOOBE_FORMATTER" "Ljava/util/function/BiFunction;" (cv 1002) (fun q => B ≤ q) U H ∧
  va_Z "java/lang/String" "COMPACT_STRINGS" "Z" (.int 1) (fun q => B ≤ q) U H ∧
  (∀ j, j < 8 → ∃ t u, cv (1100 + j) = .ref t ∧ cv (1200 + j) = .ref u ∧ va_O "java/lang/String" t (fun q => B ≤ q) U H ∧ va_OF "java/lang/String" "coder" "B" (.int 0) t (fun q => B ≤ q) U H ∧ va_OF "java/lang/String" "value" "[B" (.ref u) t (fun q => B ≤ q) U H ∧
    va_T .byte u (zStr.getD j []).length (fun k => .int (Int32.ofInt ((zStr.getD j []).getD k 0))) (fun q => B ≤ q) U H ∧ vk_R "LadderLots$Tokens" (zstr.getD j (0, "")).1 (zstr.getD j (0, "")).2 t U) ∧
  (∀ k, cv k = .null ∨ ∃ a, cv k = .ref a) ∧ (∀ j, z32 (X.getD j 0)) ∧ X.length ≤ 3072 ∧ va_AO "LadderLots$Ladder" U
def zKS (D : va_G) (B : Nat) (cv : Nat → Value) (cA : Nat → ClassId) (X : List Int) (U : State) : Prop := va_K D vwCl (ztys cA) U ∧ zCF B cv X U U.heap
theorem zCF.go {B : Nat} {cv : Nat → Value} {X : List Int} {u U : State} {H H1 : Heap} (hvm : u.vm.Alike U.vm) (hr : ∀ own k tx a, vk_R own k tx a u → vk_R own k tx a U) (hq : ∀ a : Nat, a < H.size → ¬ (B ≤ a) → H1[a]? = H[a]?) (h : zCF B cv X u H) : zCF B cv X U H1 := by
  obtain ⟨⟨t0, a1, a2, a3⟩, ⟨t1, b1, b2, b3⟩, ⟨t2, c1, c2⟩, d, e, f, g, x1, x2, x3⟩ := h
  refine ⟨⟨t0, a1, (a2.moved hvm).kept hq, (a3.moved hvm).kept hq⟩, ⟨t1, b1, (b2.moved hvm).kept hq, (b3.moved hvm).kept hq⟩, ⟨t2, c1, (c2.moved hvm).kept hq⟩, (d.moved hvm).kept hq, (e.moved hvm).kept hq, fun j hj => ?_, g, x1, x2, x3.moved hvm⟩
  obtain ⟨t, u', f1, f2, f3, f4, f5, f6, f7⟩ := f j hj
  exact ⟨t, u', f1, f2, (f3.moved hvm).kept hq, (f4.moved hvm).kept hq, (f5.moved hvm).kept hq, (f6.moved hvm).kept hq, hr _ _ _ _ f7⟩
section
variable {D : va_G} {B : Nat} {cv : Nat → Value} {cA : Nat → ClassId} {sh : zSH} {h : zHP}
theorem zws_get {k : Nat} (hk : k < sh.length) : (zws B cv cA sh h)[k]? = some (B + k, zrow B cv cA (sh.getD k (99, 0)) (h k)) := by simp [zws, hk]
theorem zws_len : (zws B cv cA sh h).length = sh.length := by simp [zws]
theorem zws_lt {k : Nat} {q : Nat × va_E} (hq : (zws B cv cA sh h)[k]? = some q) : k < sh.length ∧ q.1 = B + k := by
  have hl := (List.getElem?_eq_some_iff.mp hq).1
  rw [zws_len] at hl
  rw [zws_get hl] at hq
  cases hq
  exact ⟨hl, rfl⟩
theorem zws_D : va_D (fun q => B ≤ q) (zws B cv cA sh h) := by
  refine ⟨fun i j p q hp hq e => ?_, fun k q hq => ?_⟩
  · obtain ⟨-, e1⟩ := zws_lt hp
    obtain ⟨-, e2⟩ := zws_lt hq
    omega
  · obtain ⟨-, e1⟩ := zws_lt hq
    show B ≤ q.1
    omega
theorem zws_set {k j : Nat} {x : Int} (hk : k < sh.length) {e : va_E} (he : e = zrow B cv cA (sh.getD k (99, 0)) (fun q => if q = j then x else h k q)) : (zws B cv cA sh h).set k (B + k, e) = zws B cv cA sh (zup h k j x) := by
  subst he
  apply List.ext_getElem?
  intro i
  by_cases hi : i < sh.length
  · rw [zws_get hi]
    by_cases hik : i = k
    · subst hik
      rw [List.getElem?_set_self (by rw [zws_len]; exact hi)]
      congr 2
      congr 1
      funext q
      simp [zup]
    · rw [List.getElem?_set_ne (Ne.symm hik), zws_get hi]
      congr 2
      congr 1
      funext q
      simp [zup, hik]
  · rw [List.getElem?_eq_none (by simp [zws_len]; omega), List.getElem?_eq_none (by simp [zws_len]; omega)]
theorem zshl {sh r : zSH} {i : Nat} (hi : i < sh.length) : (sh ++ r).getD i (99, 0) = sh.getD i (99, 0) := by rw [List.getD_eq_getElem?_getD, List.getD_eq_getElem?_getD, List.getElem?_append_left hi]
theorem zws_push {t n : Nat} {f : Nat → Int} {h' : zHP} (hf : h' sh.length = f) (ho : ∀ k, k < sh.length → h' k = h k) {e : va_E} (he : e = zrow B cv cA (t, n) f) : zws B cv cA sh h ++ [(B + sh.length, e)] = zws B cv cA (sh ++ [(t, n)]) h' := by
  subst he
  apply List.ext_getElem?
  intro i
  by_cases hi : i < sh.length
  · rw [List.getElem?_append_left (by rw [zws_len]; exact hi), zws_get hi, zws_get (by simp; omega), ho i hi, zshl hi]
  · by_cases h2 : i = sh.length
    · subst h2
      rw [List.getElem?_append_right (by rw [zws_len]; exact Nat.le_refl _), zws_get (by simp), zws_len, hf]
      simp
    · rw [List.getElem?_eq_none (by simp [zws_len]; omega), List.getElem?_eq_none (by simp [zws_len]; omega)]
theorem zokh_up {k j : Nat} {x : Int} (hk : zokh sh h) (hx : zokc (sh.getD k (99, 0)).1 j x) : zokh sh (zup h k j x) := by
  intro i hi
  refine ⟨(hk i hi).1, fun q => ?_⟩
  unfold zup
  by_cases a : i = k
  · subst a
    rw [if_pos rfl]
    by_cases b : q = j
    · subst b; rw [if_pos rfl]; exact hx
    · rw [if_neg b]; exact (hk i hi).2 q
  · rw [if_neg a]; exact (hk i hi).2 q
theorem zokh_push {t n : Nat} {h' : zHP} (hk : zokh sh h) (ho : ∀ k, k < sh.length → h' k = h k) (hn : zokt t n) (hf : ∀ j, zokc t j (h' sh.length j)) : zokh (sh ++ [(t, n)]) h' := by
  intro i hi
  by_cases h2 : i < sh.length
  · have e : (sh ++ [(t, n)]).getD i (99, 0) = sh.getD i (99, 0) := zshl h2
    rw [e, ho i h2]
    exact hk i h2
  · have h3 : i = sh.length := by simp at hi; omega
    subst h3
    have e : (sh ++ [(t, n)]).getD sh.length (99, 0) = (t, n) := by simp [List.getD]
    rw [e]
    exact ⟨hn, hf⟩
end
/-! locals -/
def zll (B : Nat) (cv : Nat → Value) (ls : zLL) : List (Nat × Value) := (List.range ls.length).filterMap (fun k => (ls.getD k none).map (fun v => (k, zcv B cv v)))
def zLR (B : Nat) (cv : Nat → Value) (ls : zLL) (lsc : Array Slot) : Prop := lv_has lsc ls.length (zll B cv ls)
section
variable {B : Nat} {cv : Nat → Value} {ls : zLL} {lsc : Array Slot}
theorem zgetD {k : Nat} {v : zAV} (hk : ls.getD k none = some v) : k < ls.length ∧ ls[k]? = some (some v) := by
  rw [List.getD_eq_getElem?_getD] at hk
  cases e : ls[k]? with
  | none => rw [e] at hk; cases hk
  | some w => rw [e] at hk; exact ⟨(List.getElem?_eq_some_iff.mp e).1, by simpa using hk⟩
theorem zll_mem {q : Nat × Value} : q ∈ zll B cv ls ↔ ∃ v, ls.getD q.1 none = some v ∧ q.2 = zcv B cv v := by
  constructor
  · intro h
    obtain ⟨k, -, h2⟩ := List.mem_filterMap.mp h
    cases e : ls.getD k none with
    | none => rw [e] at h2; cases h2
    | some v => rw [e] at h2; cases h2; exact ⟨v, e, rfl⟩
  · rintro ⟨v, e, e2⟩
    refine List.mem_filterMap.mpr ⟨q.1, List.mem_range.mpr (zgetD e).1, ?_⟩
    rw [e, Option.map_some, ← e2]
theorem zLR.at (h : zLR B cv ls lsc) {k : Nat} {v : zAV} (hk : ls.getD k none = some v) : lsc[k]? = some (.val (zcv B cv v)) := h.2.2 (k, zcv B cv v) (zll_mem.mpr ⟨v, hk, rfl⟩)
theorem zclr_len {i : Nat} : (zclr ls i).length = ls.length := by
  unfold zclr
  split
  · rfl
  · split
    · simp
    · rfl
theorem zclr_get {i k : Nat} {w : zAV} (hk : (zclr ls i).getD k none = some w) : ls.getD k none = some w ∧ (k + 1 = i → ∀ x, w ≠ .inr (.inl x)) := by
  unfold zclr at hk
  split at hk
  · exact ⟨hk, fun e => by omega⟩
  · rename_i j
    split at hk
    · rename_i x e
      by_cases a : k = j
      · subst a
        have := (zgetD e).1
        simp [List.getD_eq_getElem?_getD, this] at hk
      · refine ⟨?_, fun e2 => by omega⟩
        rw [List.getD_eq_getElem?_getD, List.getElem?_set_ne (Ne.symm a), ← List.getD_eq_getElem?_getD] at hk
        exact hk
    · rename_i hn
      refine ⟨hk, fun e x ex => ?_⟩
      have : k = j := by omega
      subst this
      subst ex
      exact hn x hk
theorem zset_get {ls : zLL} {i k : Nat} {w : zAV} {z : Option zAV} (hk : (ls.set i z).getD k none = some w) : (k = i ∧ z = some w) ∨ (k ≠ i ∧ ls.getD k none = some w) := by
  by_cases a : k = i
  · subst a
    refine Or.inl ⟨rfl, ?_⟩
    rw [List.getD_eq_getElem?_getD] at hk
    by_cases hl : k < ls.length
    · rw [List.getElem?_set_self hl] at hk; simpa using hk
    · rw [List.getElem?_eq_none (by simp; omega)] at hk; cases hk
  · refine Or.inr ⟨a, ?_⟩
    rw [List.getD_eq_getElem?_getD, List.getElem?_set_ne (Ne.symm a), ← List.getD_eq_getElem?_getD] at hk
    exact hk
theorem zcat1 {cvv : ∀ k, cv k = .null ∨ ∃ a, cv k = .ref a} {v : zAV} : (zcv B cv v).category = 2 ↔ ∃ x, v = .inr (.inl x) := by
  rcases v with x | x | x
  · simp [zcv, Value.category]
  · simp [zcv, Value.category]
  · cases x with
    | none => simp [zcv, Value.category]
    | some k =>
      have : (zcv B cv (.inr (.inr (some k)))).category ≠ 2 := by
        show (zcr B cv k).category ≠ 2
        unfold zcr
        cases Nat.blt k 1000 with
        | true => simp [Value.category]
        | false => rcases cvv k with e | ⟨a, e⟩ <;> simp [e, Value.category]
      constructor
      · intro z; exact absurd z this
      · rintro ⟨x, e⟩; cases e
theorem zLR.st1 (cvv : ∀ k, cv k = .null ∨ ∃ a, cv k = .ref a) {ls' : Array Slot} {i : Nat} {v : zAV} (h : lv_has ls' ls.length ((i, zcv B cv v) :: (zll B cv ls).filter (fun q => !(q.1 == i) && !(q.1 + 1 == i && q.2.category == 2)))) : zLR B cv (zst1 ls i v) ls' := by
  have hlen : (zst1 ls i v).length = ls.length := by unfold zst1; rw [List.length_set, zclr_len]
  refine ⟨by rw [hlen]; exact h.1, h.2.1, fun q hq => ?_⟩
  obtain ⟨w, e1, e2⟩ := zll_mem.mp hq
  rw [e2]
  rcases zset_get e1 with ⟨a, b⟩ | ⟨a, b⟩
  · cases b
    rw [a]
    exact h.2.2 (i, zcv B cv v) List.mem_cons_self
  · obtain ⟨b1, b2⟩ := zclr_get b
    refine h.2.2 (q.1, zcv B cv w) (List.mem_cons_of_mem _ (List.mem_filter.mpr ⟨zll_mem.mpr ⟨w, b1, rfl⟩, ?_⟩))
    simp only [Bool.and_eq_true, Bool.not_eq_true', beq_eq_false_iff_ne, ne_eq, Bool.and_eq_false_iff]
    refine ⟨a, ?_⟩
    by_cases c : q.1 + 1 = i
    · refine Or.inr ?_
      intro z
      obtain ⟨x, ex⟩ := (zcat1 (cvv := cvv)).mp z
      exact b2 c x ex
    · exact Or.inl c
theorem zLR.st2 (cvv : ∀ k, cv k = .null ∨ ∃ a, cv k = .ref a) {ls' : Array Slot} {i : Nat} {v : zAV} (h : lv_has ls' ls.length ((i, zcv B cv v) :: (zll B cv ls).filter (fun q => !(q.1 == i) && (!(q.1 == i + 1) && !(q.1 + 1 == i && q.2.category == 2))))) : zLR B cv (zst2 ls i v) ls' := by
  have hlen : (zst2 ls i v).length = ls.length := by unfold zst2; rw [List.length_set, List.length_set, zclr_len]
  refine ⟨by rw [hlen]; exact h.1, h.2.1, fun q hq => ?_⟩
  obtain ⟨w, e1, e2⟩ := zll_mem.mp hq
  rw [e2]
  rcases zset_get e1 with ⟨a, b⟩ | ⟨a', e1⟩
  · cases b
  rcases zset_get e1 with ⟨a, b⟩ | ⟨a, b⟩
  · cases b
    rw [a]
    exact h.2.2 (i, zcv B cv v) List.mem_cons_self
  · obtain ⟨b1, b2⟩ := zclr_get b
    refine h.2.2 (q.1, zcv B cv w) (List.mem_cons_of_mem _ (List.mem_filter.mpr ⟨zll_mem.mpr ⟨w, b1, rfl⟩, ?_⟩))
    simp only [Bool.and_eq_true, Bool.not_eq_true', beq_eq_false_iff_ne, ne_eq, Bool.and_eq_false_iff]
    refine ⟨a, a', ?_⟩
    by_cases c : q.1 + 1 = i
    · refine Or.inr ?_
      intro z
      obtain ⟨x, ex⟩ := (zcat1 (cvv := cvv)).mp z
      exact b2 c x ex
    · exact Or.inl c
theorem zokL_st1 {i : Nat} {v : zAV} (h : zokL ls) (hv : zokv v) : zokL (zst1 ls i v) := by
  intro w hw
  obtain ⟨k, hk⟩ := List.getElem?_of_mem hw
  have e : (zst1 ls i v).getD k none = some w := by rw [List.getD_eq_getElem?_getD, hk]; rfl
  rcases zset_get e with ⟨-, b⟩ | ⟨-, b⟩
  · cases b; exact hv
  · exact h w (List.mem_of_getElem? (zgetD (zclr_get b).1).2)
theorem zokL_st2 {i : Nat} {v : zAV} (h : zokL ls) (hv : zokv v) : zokL (zst2 ls i v) := by
  intro w hw
  obtain ⟨k, hk⟩ := List.getElem?_of_mem hw
  have e : (zst2 ls i v).getD k none = some w := by rw [List.getD_eq_getElem?_getD, hk]; rfl
  rcases zset_get e with ⟨-, b⟩ | ⟨-, e⟩
  · cases b
  rcases zset_get e with ⟨-, b⟩ | ⟨-, b⟩
  · cases b; exact hv
  · exact h w (List.mem_of_getElem? (zgetD (zclr_get b).1).2)
theorem zokL_get (h : zokL ls) {k : Nat} {v : zAV} (hk : ls.getD k none = some v) : zokv v := h v (List.mem_of_getElem? (zgetD hk).2)
end
