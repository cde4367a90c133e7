/-! TEXTS, THE REFERENCE: THE FORM IS GONE THROUGH -/
def zS0T (tb : Nat → Nat) (T : Nat) : Int × Int := zSCn (zkdT tb T) (fun i => (zpcT tb T i : Int)) 0 ([76, 105, 59], 0, 0)
def zPM (h0 h : zHP) (tb : Nat → Nat) (T i : Nat) (s : zSte) : Prop := zFin h ∧ zfr [108] h0 h ∧ (∀ c, c ≠ 19 → c ≠ 20 → c ≠ 21 → c ≠ 22 → c ≠ 31 → h 108 c = h0 108 c) ∧ h 108 19 = (i : Int) ∧ h 108 20 = 0 ∧ h 108 21 = -1 ∧ i ≤ 400 ∧ zS0T tb T = zSCn (zkdT tb T) (fun i => (zpcT tb T i : Int)) i s ∧ s.2.1 ≤ 4 ∧ s.2.2 ≤ 8
def zPO2 (h : zHP) (s : zSte) : Prop := h 108 31 = (s.2.1 : Int) ∧ h 108 22 = (s.2.2 : Int)
def zPB (h0 h : zHP) (tb : Nat → Nat) (T : Nat) : Prop := zFin h ∧ zfr [108] h0 h ∧ (∀ c, c ≠ 19 → c ≠ 20 → c ≠ 21 → c ≠ 22 → c ≠ 31 → h 108 c = h0 108 c) ∧ h 108 20 = (zS0T tb T).1 ∧ h 108 21 = (zS0T tb T).2 ∧ (zS0T tb T).1 ≠ 0
theorem zPM.set {h0 h : zHP} {tb : Nat → Nat} {T i : Nat} {s : zSte} {c : Nat} {x : Int} (P : zPM h0 h tb T i s) (hc : c = 22 ∨ c = 31) : zPM h0 (zup h 108 c x) tb T i s := by
  obtain ⟨a1, a2, a3, a4, a5, a6, a7⟩ := P
  have e : ∀ j, j ≠ 22 → j ≠ 31 → zup h 108 c x 108 j = h 108 j := fun j a b => zup_k (by omega)
  refine ⟨?_, a2.up (by simp), fun j a b d e1 e2 => (e j e1 e2).trans (a3 j a b d e1 e2), (e 19 (by decide) (by decide)).trans a4, (e 20 (by decide) (by decide)).trans a5, (e 21 (by decide) (by decide)).trans a6, a7⟩
  rcases hc with z | z <;> subst z <;> exact a1.up (by decide)
theorem zstp_sh {s : zSte} {k : Int} (hs : s.1 ≠ []) : zstpS s k = match zgsD k s.1 with
    | none => none
    | some r' => some (r', if k = 123 then s.2.1 + 1 else s.2.1, s.2.2) := by
  obtain ⟨d, dp, pr⟩ := s
  cases d with
  | nil => exact absurd rfl hs
  | cons c r => rfl
theorem zfl_1 {i : Nat} {k : Int} {s : zSte} (h : zstpS s k = none) : zflN i k s = 1 := by
  unfold zflN
  rw [h]
  split <;> rfl
theorem zfl_s {i : Nat} {k : Int} {s s' : zSte} (h : zstpS s k = some s') (h6 : k ≠ 63) : zflN i k s = if (k ≠ 69 ∧ 400 ≤ i) ∨ 8 < s'.2.2 ∨ 4 < s'.2.1 then 2 else 0 := by
  unfold zflN
  rw [h, if_neg h6]
section
variable {X : List Int} {h h0 : zHP} {K : Option zAV → zHP → Prop} {tb : Nat → Nat} {T L i : Nat} {s : zSte}
theorem zPM.rd (P : zPM h0 h tb T i s) (M : zTKm h0 tb T L) (hL : i ≤ L) : zMtk h i tb T (zpcT tb T i) := (M.2.2.2 i hL).fr fun c hc => by rw [P.2.1 c (by simp; omega)]
/-- wrong -/
theorem cm_219 {n : Int} (P : zPM h0 h tb T i s) (M : zTKm h0 tb T L) (hL : i ≤ L) (hn : zflN i (zkdT tb T i) s = n) (n0 : n ≠ 0) (k : ∀ h', zPB h0 h' tb T → K (some (zI 0)) h') : zC X 219 [zR 108, zI n] h K := by
  have m := P.rd M hL
  obtain ⟨a1, a2, a3, a4, a5, a6, a7, a8, -⟩ := P
  have st := zSC_go (kd := zkdT tb T) (pc := fun i => (zpcT tb T i : Int)) (s := s) a7
  rw [if_neg (by rw [hn]; exact n0), hn] at st
  rw [st] at a8
  refine sg_219_0 a1 (by omega) ⟨rfl, k _ ⟨(a1.up (by decide)).up (by decide), (a2.up (by simp)).up (by simp), fun c a b d e f => by rw [zup_k d, zup_k b]; exact a3 c a b d e f, ?_, ?_, by rw [a8]; exact n0⟩⟩
  · rw [zup_k (by decide), zup_eq, a8]
  · rw [zup_eq, a8, a4, Int.toNat_natCast]
    exact m.2.1
/-- pass -/
theorem cm_220 {s' : zSte} (P : zPM h0 h tb T i s) (M : zTKm h0 tb T L) (hL : i ≤ L) (e : zstpS s (zkdT tb T i) = some s') (k63 : zkdT tb T i ≠ 63) (k69 : zkdT tb T i ≠ 69) (d : s'.2.1 ≤ 4) (p : s'.2.2 ≤ 8) (k0 : ∀ h', zPB h0 h' tb T → K (some (zI 0)) h') (k1 : ∀ h', zPM h0 h' tb T (i + 1) s' → i + 1 ≤ L → h' 108 31 = h 108 31 → h' 108 22 = h 108 22 → K (some (zI 1)) h') : zC X 220 [zR 108] h K := by
  have P0 := P
  obtain ⟨a1, a2, a3, a4, a5, a6, a7, a8, a9⟩ := P
  have fl := zfl_s (i := i) e k63
  refine sg_220_0 (fun _ => by omega) (fun lt => ⟨rfl, ?_⟩) (fun ge => ?_)
  · have st := zSC_go (kd := zkdT tb T) (pc := fun i => (zpcT tb T i : Int)) (s := s) a7
    rw [if_neg (by omega)] at fl
    rw [if_pos fl, if_neg k69, e] at st
    have iL : i < L := by
      by_cases c : i = L
      · rw [c] at k63 k69
        rcases M.2.1 with z | z
        · exact absurd z k69
        · exact absurd z k63
      · omega
    exact k1 _ ⟨a1.up (by decide), a2.up (by simp), fun c a b d e f => by rw [zup_k a]; exact a3 c a b d e f, by rw [zup_eq]; omega, by rw [zup_k (by decide)]; exact a5, by rw [zup_k (by decide)]; exact a6, by omega, a8.trans st, d, p⟩ iL (zup_k (by decide)) (zup_k (by decide))
  · rw [if_pos (Or.inl ⟨k69, by omega⟩)] at fl
    exact cm_219 P0 M hL fl (by decide) fun h' B => sg_220_15c ⟨rfl, k0 h' B⟩ (by decide)
/-- takes -/
theorem cm_223 {c sort : Int} {r : List Int} (P : zPM h0 h tb T i s) (O : zPO2 h s) (M : zTKm h0 tb T L) (hL : i ≤ L) (hs : s.1 ≠ []) (hz : zgsD (zkdT tb T i) s.1 = if zkdT tb T i = c then some r else none) (hc : (c = 105 ∧ sort = 1) ∨ (c = 110 ∧ sort = 0)) (k0 : ∀ h', zPB h0 h' tb T → K (some (zI 0)) h') (k1 : ∀ h', zPM h0 h' tb T (i + 1) (r, s.2.1, s.2.2) → zPO2 h' (r, s.2.1, s.2.2) → i + 1 ≤ L → K (some (zI 1)) h') : zC X 223 [zR 108, zI sort] h K := by
  have m := P.rd M hL
  have so : h 120 ((h 108 19).toNat) = zsoT (zkdT tb T i) := by rw [P.2.2.2.1, Int.toNat_natCast]; exact m.1
  have e1 := @zso_1 (zkdT tb T i)
  have e0 := @zso_0 (zkdT tb T i)
  have sh := zstp_sh (k := zkdT tb T i) hs
  rw [hz] at sh
  have i4 := P.2.2.2.2.2.2.1
  by_cases q : zkdT tb T i = c
  · rw [if_pos q, if_neg (by omega)] at sh
    refine sg_223_0 P.1 (by have := P.2.2.2.1; omega) (fun z => absurd (by omega) z) (fun _ => ?_)
    exact cm_220 P M hL sh (by omega) (by omega) P.2.2.2.2.2.2.2.2.1 P.2.2.2.2.2.2.2.2.2 (fun h' B => sg_223_17c ⟨rfl, k0 h' B⟩ (by decide)) fun h' P' L' o1 o2 => sg_223_17c ⟨rfl, k1 h' P' ⟨o1.trans O.1, o2.trans O.2⟩ L'⟩ (by decide)
  · rw [if_neg q] at sh
    refine sg_223_0 P.1 (by have := P.2.2.2.1; omega) (fun _ => ?_) (fun z => by omega)
    exact cm_219 P M hL (zfl_1 sh) (by decide) fun h' B => sg_223_25c ⟨rfl, k0 h' B⟩ (by decide)
theorem zPM.sgn {c : Int} (P : zPM h0 h tb T i s) (M : zTKm h0 tb T L) (hL : i ≤ L) (hc : c = 59 ∨ c = 123 ∨ c = 125) : (h 120 (h 108 19).toNat = 2 ∧ h 122 (h 108 19).toNat = c) ↔ zkdT tb T i = c := by
  have m := P.rd M hL
  have ei : (h 108 19).toNat = i := by have := P.2.2.2.1; omega
  have e2 := @zso_2 (zkdT tb T i)
  have m1 : h 120 i = zsoT (zkdT tb T i) := m.1
  have m2 : zsoT (zkdT tb T i) = 2 → h 122 i = zkdT tb T i := m.2.2.2.1
  rw [ei]
  constructor
  · rintro ⟨z1, z2⟩
    rw [m1] at z1
    rw [← m2 z1]
    exact z2
  · intro z
    have z1 : zsoT (zkdT tb T i) = 2 := e2.mpr (by omega)
    exact ⟨m1.trans z1, (m2 z1).trans z⟩
theorem zPM.wrd {w q : Int} (P : zPM h0 h tb T i s) (M : zTKm h0 tb T L) (hL : i ≤ L) (hw : zwxT q = w) (hq : zsoT q = 3) (hu : ∀ k, zwxT k = w → zsoT k = 3 → k = q) : (h 120 (h 108 19).toNat = 3 ∧ h 122 (h 108 19).toNat = w) ↔ zkdT tb T i = q := by
  have m := P.rd M hL
  have ei : (h 108 19).toNat = i := by have := P.2.2.2.1; omega
  have m1 : h 120 i = zsoT (zkdT tb T i) := m.1
  have m2 : zsoT (zkdT tb T i) = 3 → h 122 i = zwxT (zkdT tb T i) := m.2.2.2.2.1
  rw [ei]
  constructor
  · rintro ⟨z1, z2⟩
    rw [m1] at z1
    rw [m2 z1] at z2
    exact hu _ z2 z1
  · intro z
    have z1 : zsoT (zkdT tb T i) = 3 := by rw [z]; exact hq
    exact ⟨m1.trans z1, (m2 z1).trans (by rw [z]; exact hw)⟩
theorem zwx_u {k w q : Int} (h : zwxT k = w) (hq : (w = 0 ∧ q = 76) ∨ (w = 7 ∧ q = 117) ∨ (w = 8 ∧ q = 116)) : k = q := by
  unfold zwxT at h
  repeat' split at h
  all_goals omega
/-- takesSign -/
theorem cm_224 {r : List Int} (P : zPM h0 h tb T i s) (O : zPO2 h s) (M : zTKm h0 tb T L) (hL : i ≤ L) (hs : s.1 ≠ []) (hz : zgsD (zkdT tb T i) s.1 = if zkdT tb T i = 59 then some r else none) (k0 : ∀ h', zPB h0 h' tb T → K (some (zI 0)) h') (k1 : ∀ h', zPM h0 h' tb T (i + 1) (r, s.2.1, s.2.2) → zPO2 h' (r, s.2.1, s.2.2) → i + 1 ≤ L → K (some (zI 1)) h') : zC X 224 [zR 108, zI 59] h K := by
  have sg := P.sgn M hL (c := 59) (by decide)
  have sh := zstp_sh (k := zkdT tb T i) hs
  rw [hz] at sh
  have i4 := P.2.2.2.2.2.2.1
  by_cases q : zkdT tb T i = 59
  · rw [if_pos q, if_neg (by omega)] at sh
    refine sg_224_0 P.1 (by have := P.2.2.2.1; omega) (fun z => absurd (sg.mpr q) z) (fun _ => ?_)
    exact cm_220 P M hL sh (by omega) (by omega) P.2.2.2.2.2.2.2.2.1 P.2.2.2.2.2.2.2.2.2 (fun h' B => sg_224_12c ⟨rfl, k0 h' B⟩ (by decide)) fun h' P' L' o1 o2 => sg_224_12c ⟨rfl, k1 h' P' ⟨o1.trans O.1, o2.trans O.2⟩ L'⟩ (by decide)
  · rw [if_neg q] at sh
    refine sg_224_0 P.1 (by have := P.2.2.2.1; omega) (fun _ => ?_) (fun z => absurd (sg.mp z) q)
    exact cm_219 P M hL (zfl_1 sh) (by decide) fun h' B => sg_224_20c ⟨rfl, k0 h' B⟩ (by decide)
/-- opens -/
theorem cm_225 (P : zPM h0 h tb T i s) (O : zPO2 h s) (M : zTKm h0 tb T L) (hL : i ≤ L) (hs : s.1 = [123]) (k0 : ∀ h', zPB h0 h' tb T → K (some (zI 0)) h') (k1 : ∀ h', zPM h0 h' tb T (i + 1) ([], s.2.1 + 1, s.2.2) → zPO2 h' ([], s.2.1 + 1, s.2.2) → i + 1 ≤ L → K (some (zI 1)) h') : zC X 225 [zR 108] h K := by
  have sg := P.sgn M hL (c := 123) (by decide)
  have sh := zstp_sh (s := s) (k := zkdT tb T i) (by rw [hs]; simp)
  have ez : zgsD (zkdT tb T i) s.1 = if zkdT tb T i = 123 then some [] else none := by
    rw [hs]
    show (if zkdT tb T i = 123 then some [] else if (123 : Int) = 117 ∨ (123 : Int) = 116 then none else none) = _
    by_cases c : zkdT tb T i = 123
    · rw [if_pos c, if_pos c]
    · rw [if_neg c, if_neg c, if_neg (by decide)]
  rw [ez] at sh
  have i4 := P.2.2.2.2.2.2.1
  have d4 := P.2.2.2.2.2.2.2.2.1
  have o1 := O.1
  by_cases q : zkdT tb T i = 123
  · rw [if_pos q, if_pos q] at sh
    by_cases full : s.2.1 = 4
    · refine sg_225_0 P.1 (by have := P.2.2.2.1; omega) (fun _ z => by omega) (fun _ _ => ?_) (fun z => absurd (sg.mpr q) z)
      have fl := zfl_s (i := i) sh (by omega)
      rw [if_pos (Or.inr (Or.inr (by show 4 < s.2.1 + 1; omega)))] at fl
      exact cm_219 P M hL fl (by decide) fun h' B => sg_225_28c ⟨rfl, k0 h' B⟩ (by decide)
    · refine sg_225_0 P.1 (by have := P.2.2.2.1; omega) (fun _ _ => ?_) (fun _ z => by omega) (fun z => absurd (sg.mpr q) z)
      refine cm_220 P M hL sh (by omega) (by omega) (by show s.2.1 + 1 ≤ 4; omega) P.2.2.2.2.2.2.2.2.2 (fun h' B => sg_225_33c (fun z => absurd rfl z) (fun z => absurd rfl z) (fun _ => ⟨rfl, k0 h' B⟩)) fun h' P' L' p1 p2 => sg_225_33c (fun _ => by omega) (fun _ => ⟨rfl, ?_⟩) (fun z => absurd z (by decide))
      refine k1 _ (P'.set (by decide)) ⟨?_, ?_⟩ L'
      · rw [zup_eq]
        show _ = ((s.2.1 + 1 : Nat) : Int)
        omega
      · rw [zup_k (by decide), p2]
        exact O.2
  · rw [if_neg q] at sh
    refine sg_225_0 P.1 (by have := P.2.2.2.1; omega) (fun z => absurd (sg.mp z) q) (fun z => absurd (sg.mp z) q) (fun _ => ?_)
    exact cm_219 P M hL (zfl_1 sh) (by decide) fun h' B => sg_225_14c ⟨rfl, k0 h' B⟩ (by decide)
end
