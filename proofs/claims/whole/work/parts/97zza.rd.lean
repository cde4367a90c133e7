/-! TEXTS: WHAT ONE COMES TO -/
def z0e (e : zTe) : Prop := e.1 ≠ 3 → e.2.2.1 = 0 ∧ e.2.2.2 = 0
def zZr : zTS → Prop
  | (_, _, P, _, B, _, I, _) => (∀ e ∈ I, z0e e) ∧ (∀ e ∈ B, z0e e) ∧ ∀ x ∈ P, ∀ e ∈ x.2, z0e e
theorem zuse_m0 {up tu : Bool} {legs : Int} {l : List zTe} (h : ∀ e ∈ l, z0e e) : ∀ e ∈ zuseL up tu legs l, z0e e := fun e he => by
  unfold zuseL at he
  obtain ⟨x, hx, ex⟩ := List.mem_map.mp he
  have hx : x ∈ l := by
    split at hx
    · exact List.mem_reverse.mp hx
    · exact hx
  have hz := h x hx
  split at ex
  · subst ex
    intro k
    have k : (if x.1 = 1 then 2 else if x.1 = 2 then 1 else x.1) ≠ 3 := k
    have : x.1 ≠ 3 := fun z => k (by rw [z]; rfl)
    exact hz this
  · subst ex; exact hz
section
variable {kd vl pc : Nat → Int} {lk : List (Int × List zTe) → Int → Option (List zTe)} {legs : Int} {i : Nat} {ft : Int × Int} {P : List (Int × List zTe)} {op : Option Nat} {B : List zTe} {st : List (Int × Nat)} {I : List zTe} {fs : Nat}
theorem zZr_st (lkm : ∀ P n c, lk P n = some c → ∃ x ∈ P, x.2 = c) (H : zTIv kd pc (i, ft, P, op, B, st, I, fs)) (G : zZr (i, ft, P, op, B, st, I, fs)) (n69 : kd i ≠ 69) : zZr (zstT lk legs kd vl pc (i, ft, P, op, B, st, I, fs)) := by
  obtain ⟨g1, g2, g3⟩ := G
  have ok := H.1
  have app : ∀ x : zTe, z0e x → ∀ e ∈ I ++ [x], z0e e := fun x hx e he => by
    rcases List.mem_append.mp he with z | z
    · exact g1 e z
    · rw [List.mem_singleton.mp z]; exact hx
  rcases zOK_dom ok with e | e | e | e | e | e | e
  · exact absurd e n69
  · rw [zst_80 e]
    exact ⟨fun e he => (by cases he), g1, g3⟩
  · rw [zst_84 e]
    exact ⟨g1, g2, g3⟩
  · cases st with
    | cons s r =>
      obtain ⟨t, m⟩ := s
      rw [zst_125 e]
      exact ⟨zrpt_m g1, g2, g3⟩
    | nil =>
      cases op with
      | none => exact absurd (zOK_125 ok e).1 (by show ¬ 1 ≤ 0 + 0; decide)
      | some j =>
        rw [zst_125p e]
        refine ⟨g2, fun e he => (by cases he), fun x hx => ?_⟩
        rcases List.mem_append.mp hx with z | z
        · exact g3 x z
        · rw [List.mem_singleton.mp z]
          exact fun e he => g1 e (List.mem_of_mem_take he)
  · rw [zst_85 e]
    refine ⟨fun e he => ?_, g2, g3⟩
    unfold zuI at he
    rcases List.mem_append.mp he with z | z
    · exact g1 e z
    · cases c : lk P (vl (i + 1)) with
      | none =>
        rw [c] at z
        exact zuse_m0 (l := []) (fun e he => by cases he) e z
      | some l =>
        rw [c] at z
        obtain ⟨x, hx, ex⟩ := lkm P _ l c
        exact zuse_m0 (l := l) (fun e he => g3 x hx e (by rw [ex]; exact he)) e z
  · rw [zst_77 e]
    exact ⟨app _ fun z => absurd rfl z, g2, g3⟩
  · obtain ⟨q, hq⟩ : ∃ q : Nat, (kd i = 82 ∧ q = 0 ∨ kd i = 71 ∧ q = 1 ∨ kd i = 66 ∧ q = 2) := by
      rcases e with e | e | e
      · exact ⟨0, Or.inl ⟨e, rfl⟩⟩
      · exact ⟨1, Or.inr (Or.inl ⟨e, rfl⟩)⟩
      · exact ⟨2, Or.inr (Or.inr ⟨e, rfl⟩)⟩
    rw [zst_p hq]
    exact ⟨app _ fun _ => ⟨rfl, rfl⟩, g2, g3⟩
theorem zrn_zr (ints : ∀ i, kd i = 105 → 0 ≤ vl i ∧ vl i < 10000) (lkm : ∀ P n c, lk P n = some c → ∃ x ∈ P, x.2 = c) : ∀ (f : Nat) (σ : zTS), zTIv kd pc σ → zZr σ → zZr (zrnT lk legs kd vl pc f σ) := by
  intro f
  induction f with
  | zero => intro σ H G; exact G
  | succ f ih =>
    intro σ H G
    by_cases c : kd σ.1 = 69
    · rw [zrn_69 c]
      exact G
    · rw [zrn_go c]
      obtain ⟨i, ft, P, op, B, st, I, fs⟩ := σ
      exact ih _ (zTIv_st ints H c) (zZr_st lkm H G c)
end
theorem zscF_0 {kd pc : Nat → Int} : ∀ (f i : Nat) (s : zSte), (zscF kd pc f i s).1 = 0 → zscF kd pc f i s = (0, -1) := by
  intro f
  induction f with
  | zero => intro i s h; rfl
  | succ f ih =>
    intro i s h
    have e : zscF kd pc (f + 1) i s = if zflN i (kd i) s = 0 then (if kd i = 69 then (0, -1) else zscF kd pc f (i + 1) ((zstpS s (kd i)).getD s)) else (zflN i (kd i) s, pc i) := rfl
    rw [e] at h ⊢
    by_cases c : zflN i (kd i) s = 0
    · rw [if_pos c] at h ⊢
      by_cases d : kd i = 69
      · rw [if_pos d]
      · rw [if_neg d] at h ⊢
        exact ih _ _ h
    · rw [if_neg c] at h
      exact absurd h c
theorem zS0_ok {tb : Nat → Nat} {T : Nat} (h : (zS0T tb T).1 = 0) : zS0T tb T = (0, -1) := zscF_0 _ _ _ h
def zRdI (tb : Nat → Nat) (T : Nat) : List zTe := (zRun zlk1 tb T).2.2.2.2.2.2.1
def zRdF (tb : Nat → Nat) (T : Nat) : Int × Int := if (zS0T tb T).1 = 0 then (zRun zlk1 tb T).2.1 else zS0T tb T
def zeL (l : List zTe) : zel := fun i => ((l.getD i ze0).1, (l.getD i ze0).2.1.toNat, (l.getD i ze0).2.2.1.toNat, (l.getD i ze0).2.2.2.toNat)
theorem zpcmT {tb : Nat → Nat} {T i : Nat} (hi : zkdT tb T i ≠ 69) : (fun i => (zpcT tb T i : Int)) i < (fun i => (zpcT tb T i : Int)) (i + 1) := zpc_mono hi
theorem zRd_same {tb : Nat → Nat} {T : Nat} (h0 : zS0T tb T = (0, -1)) : (zRun zlk1 tb T).2.1 = (zRun zlk2 tb T).2.1 ∧ ((zRun zlk1 tb T).2.1.1 = 0 → zRun zlk1 tb T = zRun zlk2 tb T) := by
  obtain ⟨V0, G0, A0, _⟩ := zS00_v h0
  exact zrn_same (kd := zkdT tb T) (vl := zvlT tb T) (pc := fun i => (zpcT tb T i : Int)) (fun i hi => zpcmT hi) (fun i hi => zvl_int hi) 400 (zS00 tb T) V0 A0
theorem zRd_F {tb : Nat → Nat} {T : Nat} (h0 : zS0T tb T = (0, -1)) : zRdF tb T = (zRun zlk1 tb T).2.1 := if_pos (by rw [h0])
/-- a text without fault -/
theorem zRd_ok {tb : Nat → Nat} {T : Nat} (h0 : zS0T tb T = (0, -1)) (hf : (zRun zlk1 tb T).2.1.1 = 0) : (zRun zlk1 tb T).2.2.2.1 = none ∧ (zRun zlk1 tb T).2.2.2.2.2.1 = [] ∧ (zRdI tb T).length ≤ 200 ∧ zc3L (zRdI tb T) ≤ 20 ∧ ∀ e ∈ zRdI tb T, zeV (zLgs tb T : Int) e ∧ z0e e := by
  obtain ⟨V0, G0, A0, _⟩ := zS00_v h0
  have ints : ∀ i, zkdT tb T i = 105 → 0 ≤ zvlT tb T i ∧ zvlT tb T i < 10000 := fun i hi => zvl_int hi
  obtain ⟨a, b, c⟩ := zrn_end (lk := zlk1) (legs := (zLgs tb T : Int)) (kd := zkdT tb T) (vl := zvlT tb T) (pc := fun i => (zpcT tb T i : Int)) (fun i hi => zpcmT hi) ints zlk1_m 400 (zS00 tb T) V0 G0 (by show 401 - 3 ≤ 400; decide)
  have z := zrn_zr (lk := zlk1) (legs := (zLgs tb T : Int)) (vl := zvlT tb T) (pc := fun i => (zpcT tb T i : Int)) ints zlk1_m 400 (zS00 tb T) V0 ⟨fun e he => (by cases he), fun e he => (by cases he), fun e he => (by cases he)⟩
  have a : zTIv (zkdT tb T) (fun i => (zpcT tb T i : Int)) (zRun zlk1 tb T) := a
  have b : zTF (zLgs tb T : Int) (fun i => (zpcT tb T i : Int)) (zRun zlk1 tb T) := b
  have c : zkdT tb T (zRun zlk1 tb T).1 = 69 := c
  have z : zZr (zRun zlk1 tb T) := z
  unfold zRdI
  generalize zRun zlk1 tb T = σ at *
  obtain ⟨i, ft, P, op, B, st, I, fs⟩ := σ
  have c : zkdT tb T i = 69 := c
  have hf : ft.1 = 0 := hf
  have d := zOK_69 a.1 c
  have o : op = none := by
    by_cases w : op = none
    · exact w
    · have : zo1 op = 1 := if_neg w
      omega
  have s0 : st = [] := List.length_eq_zero_iff.mp (by omega)
  have lg : ¬ zlgL I := fun w => (b.1 o s0 w).1 hf
  unfold zlgL at lg
  refine ⟨o, s0, ?_, ?_, fun e he => ⟨(b.2.2 hf).1 e he, z.1 e he⟩⟩
  · show I.length ≤ 200
    omega
  · show zc3L I ≤ 20
    omega
theorem zeL_mb {l : List zTe} : ∀ k, k ≤ l.length → zmb (zeL l) k = zc3L (l.take k) := by
  intro k
  induction k with
  | zero => intro _; rfl
  | succ k ih =>
    intro hk
    have e : l.take (k + 1) = l.take k ++ [l.getD k ze0] := by
      rw [List.take_succ, List.getD_eq_getElem?_getD, List.getElem?_eq_getElem (show k < l.length by omega)]
      rfl
    rw [e, zc3L_app, ← ih (by omega)]
    show zmb (zeL l) k + (if ((zeL l) k).1 = 3 then 1 else 0) = zmb (zeL l) k + ((if (l.getD k ze0).1 = 3 then 1 else 0) + 0)
    rw [Nat.add_zero]
    rfl
theorem zeL_all {l : List zTe} : zmb (zeL l) l.length = zc3L l := by rw [zeL_mb _ (Nat.le_refl _), List.take_length]
theorem zeL_ok {n : Nat} {l : List zTe} (hn : 2 ≤ n ∧ n ≤ 7) (h1 : l.length ≤ 200) (h2 : zc3L l ≤ 20) (hv : ∀ e ∈ l, zeV (n : Int) e) : zlok n l.length (zeL l) := by
  refine ⟨hn, h1, by rw [zeL_all]; exact h2, fun i hi => ?_⟩
  obtain ⟨a, b, c, d⟩ := hv _ (zget_in hi)
  refine ⟨a, ?_, fun k => ?_⟩
  · show (l.getD i ze0).2.1.toNat + 2 ≤ n
    omega
  · obtain ⟨d1, d2, d3, d4⟩ := d k
    show (l.getD i ze0).2.2.1.toNat ≤ (l.getD i ze0).2.2.2.toNat ∧ 1 ≤ (l.getD i ze0).2.2.2.toNat ∧ (l.getD i ze0).2.2.2.toNat ≤ 4
    omega
theorem zeL_enc {n : Nat} {l : List zTe} (hn : 2 ≤ n ∧ n ≤ 7) (hv : ∀ e ∈ l, zeV (n : Int) e ∧ z0e e) {i : Nat} (hi : i < l.length) : zcdE (l.getD i ze0) = zenc (zeL l i) := by
  obtain ⟨⟨a, b, c, d⟩, z⟩ := hv _ (zget_in hi)
  unfold zcdE zsumc zenc zeL
  by_cases k : (l.getD i ze0).1 = 3
  · obtain ⟨d1, d2, d3, d4⟩ := d k
    show _ = (l.getD i ze0).1 + (l.getD i ze0).2.1.toNat * 4 + (if (l.getD i ze0).1 = 3 then (l.getD i ze0).2.2.1.toNat * 32 + (l.getD i ze0).2.2.2.toNat * 256 else 0)
    rw [if_pos k]
    omega
  · obtain ⟨z1, z2⟩ := z k
    show _ = (l.getD i ze0).1 + (l.getD i ze0).2.1.toNat * 4 + (if (l.getD i ze0).1 = 3 then (l.getD i ze0).2.2.1.toNat * 32 + (l.getD i ze0).2.2.2.toNat * 256 else 0)
    have e0 : ((0 : Int) % 8).toNat = 0 := rfl
    rw [if_neg k, z1, z2, e0]
    omega
