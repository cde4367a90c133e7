/-! TEXTS: THE RUN TO ITS END; FIRST OR LAST OF A NAME IS ONE -/
theorem zlk1_app {P : List (Int × List zTe)} {e : Int × List zTe} {n : Int} : zlk1 (P ++ [e]) n = match zlk1 P n with
    | some x => some x
    | none => if e.1 = n then some e.2 else none := by
  induction P with
  | nil => rfl
  | cons a r ih =>
    show (if a.1 = n then some a.2 else zlk1 (r ++ [e]) n) = match (if a.1 = n then some a.2 else zlk1 r n) with
      | some x => some x
      | none => if e.1 = n then some e.2 else none
    by_cases c : a.1 = n
    · rw [if_pos c, if_pos c]
    · rw [if_neg c, if_neg c]; exact ih
theorem zlk2_app {P : List (Int × List zTe)} {e : Int × List zTe} {n : Int} : zlk2 (P ++ [e]) n = if e.1 = n then some e.2 else zlk2 P n := by
  induction P with
  | nil =>
    show (match (none : Option (List zTe)) with | some x => some x | none => if e.1 = n then some e.2 else none) = _
    rfl
  | cons a r ih =>
    show (match zlk2 (r ++ [e]) n with | some x => some x | none => if a.1 = n then some a.2 else none) = if e.1 = n then some e.2 else (match zlk2 r n with | some x => some x | none => if a.1 = n then some a.2 else none)
    rw [ih]
    by_cases c : e.1 = n
    · rw [if_pos c, if_pos c]
    · rw [if_neg c, if_neg c]
theorem zlk1_none {P : List (Int × List zTe)} {n : Int} (h : zhasP P n = false) : zlk1 P n = none := by
  induction P with
  | nil => rfl
  | cons a r ih =>
    have h : (decide (a.1 = n) || zhasP r n) = false := h
    rw [Bool.or_eq_false_iff] at h
    show (if a.1 = n then some a.2 else zlk1 r n) = none
    rw [if_neg (of_decide_eq_false h.1)]
    exact ih h.2
theorem zlk1_m : ∀ (P : List (Int × List zTe)) n c, zlk1 P n = some c → ∃ x ∈ P, x.2 = c
  | [], _, _, h => by cases h
  | a :: r, n, c, h => by
    have h : (if a.1 = n then some a.2 else zlk1 r n) = some c := h
    by_cases q : a.1 = n
    · rw [if_pos q] at h
      injection h with h
      exact ⟨a, List.mem_cons_self .., h⟩
    · rw [if_neg q] at h
      obtain ⟨x, hx, ex⟩ := zlk1_m r n c h
      exact ⟨x, List.mem_cons_of_mem _ hx, ex⟩
theorem zlk2_m : ∀ (P : List (Int × List zTe)) n c, zlk2 P n = some c → ∃ x ∈ P, x.2 = c
  | [], _, _, h => by cases h
  | a :: r, n, c, h => by
    have h : (match zlk2 r n with | some x => some x | none => if a.1 = n then some a.2 else none) = some c := h
    cases q : zlk2 r n with
    | some y =>
      rw [q] at h
      injection h with h
      obtain ⟨x, hx, ex⟩ := zlk2_m r n y q
      exact ⟨x, List.mem_cons_of_mem _ hx, by rw [ex]; exact h⟩
    | none =>
      rw [q] at h
      have h : (if a.1 = n then some a.2 else none) = some c := h
      by_cases w : a.1 = n
      · rw [if_pos w] at h
        injection h with h
        exact ⟨a, List.mem_cons_self .., h⟩
      · rw [if_neg w] at h
        cases h
def zAgr (vl : Nat → Int) : zTS → Prop
  | (_, _, P, op, _, _, _, _) => (∀ n, zlk1 P n = zlk2 P n) ∧ ∀ j, op = some j → zhasP P (vl j) = false
section
variable {lk : List (Int × List zTe) → Int → Option (List zTe)} {legs : Int} {kd vl pc : Nat → Int}
theorem zrn_69 {f : Nat} {σ : zTS} (h : kd σ.1 = 69) : zrnT lk legs kd vl pc f σ = σ := by
  cases f with
  | zero => rfl
  | succ f => exact if_pos h
theorem zrn_go {f : Nat} {σ : zTS} (h : kd σ.1 ≠ 69) : zrnT lk legs kd vl pc (f + 1) σ = zrnT lk legs kd vl pc f (zstT lk legs kd vl pc σ) := if_neg h
theorem zrn_fz (mono : ∀ i, kd i ≠ 69 → pc i < pc (i + 1)) (ints : ∀ i, kd i = 105 → 0 ≤ vl i ∧ vl i < 10000) : ∀ (f : Nat) (σ : zTS), zTIv kd pc σ → zFz pc σ → (zrnT lk legs kd vl pc f σ).2.1 = σ.2.1 := by
  intro f
  induction f with
  | zero => intro σ _ _; rfl
  | succ f ih =>
    intro σ H G
    by_cases c : kd σ.1 = 69
    · rw [zrn_69 c]
    · rw [zrn_go c]
      obtain ⟨i, ft, P, op, B, st, I, fs⟩ := σ
      obtain ⟨g1, g2⟩ := zFz_st (lk := lk) (legs := legs) mono ints H G c
      rw [ih _ (zTIv_st ints H c) g1]
      exact g2
theorem zst_ilt {i : Nat} {ft : Int × Int} {P : List (Int × List zTe)} {op : Option Nat} {B : List zTe} {st : List (Int × Nat)} {I : List zTe} {fs : Nat} (H : zTIv kd pc (i, ft, P, op, B, st, I, fs)) (n69 : kd i ≠ 69) : i < (zstT lk legs kd vl pc (i, ft, P, op, B, st, I, fs)).1 := by
  obtain ⟨ok, sv, PL, hop, hst, hq⟩ := H
  rcases zOK_dom ok with e | e | e | e | e | e | e
  · exact absurd e n69
  · rw [zst_80 e]; show i < i + 3; omega
  · rw [zst_84 e]; show i < i + 3; omega
  · cases st with
    | cons s r => obtain ⟨t, m⟩ := s; rw [zst_125 e]; show i < i + 1; omega
    | nil =>
      cases op with
      | none => exact absurd (zOK_125 ok e).1 (by show ¬ 1 ≤ 0 + 0; decide)
      | some j => rw [zst_125p e]; show i < i + 1; omega
  · rw [zst_85 e]
    show i < zj2 kd i + 1
    unfold zj2 zj1
    split <;> split <;> omega
  · rw [zst_77 e]; show i < i + 5; omega
  · have e' : ∃ q, kd i = 82 ∧ q = 0 ∨ kd i = 71 ∧ q = 1 ∨ kd i = 66 ∧ q = 2 := by
      rcases e with e | e | e
      · exact ⟨0, Or.inl ⟨e, rfl⟩⟩
      · exact ⟨1, Or.inr (Or.inl ⟨e, rfl⟩)⟩
      · exact ⟨2, Or.inr (Or.inr ⟨e, rfl⟩)⟩
    obtain ⟨qk, e'⟩ := e'
    rw [zst_p e']
    show i < i + 3
    omega
/-- all holds at the end, and the end is reached -/
theorem zrn_end (mono : ∀ i, kd i ≠ 69 → pc i < pc (i + 1)) (ints : ∀ i, kd i = 105 → 0 ≤ vl i ∧ vl i < 10000) (lkm : ∀ P n c, lk P n = some c → ∃ x ∈ P, x.2 = c) : ∀ (f : Nat) (σ : zTS), zTIv kd pc σ → zTF legs pc σ → 401 - σ.1 ≤ f → zTIv kd pc (zrnT lk legs kd vl pc f σ) ∧ zTF legs pc (zrnT lk legs kd vl pc f σ) ∧ kd (zrnT lk legs kd vl pc f σ).1 = 69 := by
  intro f
  induction f with
  | zero =>
    intro σ H G hf
    obtain ⟨i, ft, P, op, B, st, I, fs⟩ := σ
    have := H.1.1
    have hf : 401 - i ≤ 0 := hf
    omega
  | succ f ih =>
    intro σ H G hf
    by_cases c : kd σ.1 = 69
    · rw [zrn_69 c]
      exact ⟨H, G, c⟩
    · rw [zrn_go c]
      obtain ⟨i, ft, P, op, B, st, I, fs⟩ := σ
      have a := zst_ilt (lk := lk) (legs := legs) (vl := vl) H c
      have hf : 401 - i ≤ f + 1 := hf
      exact ih _ (zTIv_st ints H c) (zTF_st mono ints lkm H G c) (by omega)
theorem zrn_same (mono : ∀ i, kd i ≠ 69 → pc i < pc (i + 1)) (ints : ∀ i, kd i = 105 → 0 ≤ vl i ∧ vl i < 10000) : ∀ (f : Nat) (σ : zTS), zTIv kd pc σ → zAgr vl σ → (zrnT zlk1 legs kd vl pc f σ).2.1 = (zrnT zlk2 legs kd vl pc f σ).2.1 ∧ ((zrnT zlk1 legs kd vl pc f σ).2.1.1 = 0 → zrnT zlk1 legs kd vl pc f σ = zrnT zlk2 legs kd vl pc f σ) := by
  intro f
  induction f with
  | zero => intro σ _ _; exact ⟨rfl, fun _ => rfl⟩
  | succ f ih =>
    intro σ H G
    by_cases c : kd σ.1 = 69
    · rw [zrn_69 c, zrn_69 c]
      exact ⟨rfl, fun _ => rfl⟩
    · rw [zrn_go c, zrn_go c]
      obtain ⟨i, ft, P, op, B, st, I, fs⟩ := σ
      obtain ⟨G1, G2⟩ := G
      have one : zstT zlk1 legs kd vl pc (i, ft, P, op, B, st, I, fs) = zstT zlk2 legs kd vl pc (i, ft, P, op, B, st, I, fs) := by
        by_cases e : kd i = 85
        · rw [zst_85 e, zst_85 e]
          unfold zuI
          rw [G1]
        · show (if kd i = 80 then (_ : zTS) else if kd i = 84 then _ else if kd i = 125 then _ else if kd i = 85 then _ else _) = (if kd i = 80 then (_ : zTS) else if kd i = 84 then _ else if kd i = 125 then _ else if kd i = 85 then _ else _)
          rw [if_neg (show ¬ kd i = 85 from e), if_neg (show ¬ kd i = 85 from e)]
      have H2 := zTIv_st (lk := zlk1) (legs := legs) ints H c
      have next : zAgr vl (zstT zlk1 legs kd vl pc (i, ft, P, op, B, st, I, fs)) ∨ zFz pc (zstT zlk1 legs kd vl pc (i, ft, P, op, B, st, I, fs)) := by
        have ok := H.1
        rcases zOK_dom ok with e | e | e | e | e | e | e
        · exact absurd e c
        · rw [zst_80 e]
          by_cases q : zhasP P (vl (i + 1)) = true
          · rw [if_pos q]
            refine Or.inr ⟨zno_ne (by decide), fun j ej => ?_, fun z => (by cases z), fun z => (by cases z)⟩
            injection ej with ej
            rw [← ej]
            rcases @zno_tie ft 3 (pc (i + 1)) with z | z
            · exact Or.inl z
            · exact Or.inr ⟨z.1, by omega⟩
          · refine Or.inl ⟨G1, fun j ej => ?_⟩
            injection ej with ej
            rw [← ej]
            exact Bool.eq_false_iff.mpr q
        · rw [zst_84 e]; exact Or.inl ⟨G1, G2⟩
        · cases st with
          | cons s r => obtain ⟨t, m⟩ := s; rw [zst_125 e]; exact Or.inl ⟨G1, G2⟩
          | nil =>
            cases op with
            | none => exact absurd (zOK_125 ok e).1 (by show ¬ 1 ≤ 0 + 0; decide)
            | some j =>
              rw [zst_125p e]
              refine Or.inl ⟨fun n => ?_, fun j ej => (by cases ej)⟩
              have g := zlk1_none (G2 j rfl)
              rw [zlk1_app, zlk2_app]
              by_cases q : vl j = n
              · subst q
                rw [g]
                show (if vl j = vl j then some (I.take 200) else none) = if vl j = vl j then some (I.take 200) else _
                rw [if_pos rfl, if_pos rfl]
              · show _ = if vl j = n then some (I.take 200) else zlk2 P n
                rw [← G1 n]
                cases zlk1 P n with
                | some x =>
                  show some x = if vl j = n then _ else some x
                  rw [if_neg q]
                | none => rfl
        · rw [zst_85 e]; exact Or.inl ⟨G1, G2⟩
        · rw [zst_77 e]; exact Or.inl ⟨G1, G2⟩
        · have e' : ∃ q, kd i = 82 ∧ q = 0 ∨ kd i = 71 ∧ q = 1 ∨ kd i = 66 ∧ q = 2 := by
            rcases e with e | e | e
            · exact ⟨0, Or.inl ⟨e, rfl⟩⟩
            · exact ⟨1, Or.inr (Or.inl ⟨e, rfl⟩)⟩
            · exact ⟨2, Or.inr (Or.inr ⟨e, rfl⟩)⟩
          obtain ⟨qk, e'⟩ := e'
          rw [zst_p e']
          exact Or.inl ⟨G1, G2⟩
      rw [← one]
      rcases next with z | z
      · exact ih _ H2 z
      · have a1 := zrn_fz (lk := zlk1) (legs := legs) mono ints f _ H2 z
        have a2 := zrn_fz (lk := zlk2) (legs := legs) mono ints f _ H2 z
        refine ⟨a1.trans a2.symm, fun w => ?_⟩
        rw [a1] at w
        exact absurd w (by
          generalize zstT zlk1 legs kd vl pc (i, ft, P, op, B, st, I, fs) = σ at z
          obtain ⟨i, ft, P, op, B, st, I, fs⟩ := σ
          exact z.1)
end
/-! cells -/
def zcdE (e : zTe) : Nat := zsumc e.1 e.2.1 e.2.2.1 e.2.2.2
theorem zcdE_lt {e : zTe} (h : e.1 < 4) : zcdE e < 2048 := by
  unfold zcdE zsumc
  omega
theorem zcdE_k {e : zTe} (h : e.1 < 4) : zcdE e % 4 = e.1 := by
  unfold zcdE zsumc
  omega
theorem zcdE_p {e : zTe} (h : e.1 < 4) : zcdE e / 4 % 8 = (e.2.1 % 8).toNat ∧ zcdE e / 32 % 8 = (e.2.2.1 % 8).toNat ∧ zcdE e / 256 % 8 = (e.2.2.2 % 8).toNat := by
  unfold zcdE zsumc
  omega
theorem zctn_E {n : Nat} {e : zTe} (h : e.1 < 4) : zctn n (zcdE e) = zcdE (zflp (n : Int) e) := by
  obtain ⟨a, b, c⟩ := zcdE_p h
  have k := zcdE_k h
  unfold zctn
  rw [k, a, b, c]
  show _ = (if e.1 = 1 then 2 else if e.1 = 2 then 1 else e.1) + (((n : Int) - 2 - e.2.1) % 8).toNat * 4 + (e.2.2.1 % 8).toNat * 32 + (e.2.2.2 % 8).toNat * 256
  omega
