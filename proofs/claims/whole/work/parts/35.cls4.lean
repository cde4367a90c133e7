/-! THE CLASS: calls that only look -/
def zplb (e : zel) : Nat → Bool
  | 0 => true
  | i + 1 => zplb e i && Nat.beq (e i).1 0
theorem zplb_iff (e : zel) : ∀ m, zplb e m = true ↔ zplain e m
  | 0 => ⟨fun _ i hi => by omega, fun _ => rfl⟩
  | m + 1 => by
    show (zplb e m && Nat.beq (e m).1 0) = true ↔ _
    rw [Bool.and_eq_true, zplb_iff e m]
    constructor
    · rintro ⟨a, b⟩ i hi
      by_cases c : i = m
      · rw [c]; exact Nat.eq_of_beq_eq_true b
      · exact a i (by omega)
    · intro a
      refine ⟨fun i hi => a i (by omega), ?_⟩
      rw [a m (by omega)]; rfl
def zs166 (x : Nat × Nat × zel) (w : Int) : Int := if w = 0 then (x.1 : Int) else if w = 1 then (x.2.1 : Int) else if w = 2 then (zmb x.2.2 x.2.1 : Int) else if w = 3 then (zdeep x.2.2 x.2.1 : Int) else if w = 4 then (if zplb x.2.2 x.2.1 = true then 1 else 0) else -1
def zs167 (x : Nat × Nat × zel) (i : Nat) (w : Int) : Int := if w = 0 then ((x.2.2 i).2.1 : Int) else if w = 1 then ((x.2.2 i).1 : Int) else if w = 2 then (if (x.2.2 i).1 = 3 then ((x.2.2 i).2.2.1 : Int) else -1) else if w = 3 then (if (x.2.2 i).1 = 3 then ((x.2.2 i).2.2.2 : Int) else -1) else if w = 4 then (zlyr x.2.2 i : Int) else -1
theorem zst_r {n o : Nat} {x : Nat × Nat × Nat × Nat} (h1 : ¬ x.1 = 1) (h2 : ¬ x.1 = 2) : zst n x true o = zx n x.2.1 o := by
  unfold zst
  rw [if_neg h1, if_neg h2, if_pos rfl]
  split <;> rfl
theorem zst_g {n o : Nat} {x : Nat × Nat × Nat × Nat} {b : Bool} (h1 : x.1 = 1) : zst n x b o = min o (zx n x.2.1 o) := by
  unfold zst
  rw [if_neg (by omega), if_pos h1]
theorem zst_b {n o : Nat} {x : Nat × Nat × Nat × Nat} {b : Bool} (h1 : x.1 = 2) : zst n x b o = max o (zx n x.2.1 o) := by
  unfold zst
  rw [if_neg (by omega), if_neg (by omega), if_pos h1]
theorem zst_n {n o : Nat} {x : Nat × Nat × Nat × Nat} {b : Bool} (h1 : ¬ x.1 = 3) (h4 : x.1 < 4) : zst n x b o = zst n x true o := by
  unfold zst
  by_cases c0 : x.1 = 0
  · rw [if_pos c0, if_pos c0]
  · rw [if_neg c0, if_neg c0]
    by_cases c1 : x.1 = 1
    · rw [if_pos c1, if_pos c1]
    · rw [if_neg c1, if_neg c1, if_pos (by omega), if_pos (by omega)]
theorem zst_f {n o : Nat} {x : Nat × Nat × Nat × Nat} (h1 : x.1 = 3) : zst n x false o = o := by
  unfold zst
  rw [if_neg (by omega), if_neg (by omega), if_neg (by omega), if_neg (by decide)]
section
variable {X : List Int} {h : zHP} {K : Option zAV → zHP → Prop} {N s : Nat} {A : Nat → Nat × Nat × zel}
/-- behind -/
theorem cx_87 {n o : Nat} (F : zFin h) (T : zOT h) (hn : 2 ≤ n) (hr : (n : Int) ≤ h 1 1) {x : Nat × Nat × Nat × Nat} (hl : x.2.1 + 2 ≤ n) (ho : o < zfac n) (q : K (some (zI (zst n x true o : Int))) h) : zC X 87 [zR 1, zI n, zI o, zI x.1, zI x.2.1] h K := by
  refine sq_87_0 (cx_86 F T hn hr hl ho ?_)
  apply sq_87_8c <;> intros
  · rw [zst_r (by omega) (by omega)] at q; exact ⟨rfl, q⟩
  · rw [zst_b (by omega)] at q
    rw [show max (o : Int) (zsj (n - 2 - x.2.1) o : Int) = ((max o (zx n x.2.1 o) : Nat) : Int) by unfold zx; omega]
    exact ⟨rfl, q⟩
  · rw [zst_g (by omega)] at q
    rw [show min (o : Int) (zsj (n - 2 - x.2.1) o : Int) = ((min o (zx n x.2.1 o) : Nat) : Int) by unfold zx; omega]
    exact ⟨rfl, q⟩
/-- end -/
theorem cx_89 {w n m o th : Nat} {e : zel} (F : zFin h) (T : zOT h) (hp : zLad w) (L : zLC h w n m e) (hl : zlok n m e) (hr : (n : Int) ≤ h 1 1) (ho : o < zfac n) (hth : th < 2147483648) (q : K (some (zI (zru n e th 9999 m o : Int))) h) : zC X 89 [zR 1, zR w, zI o, zI th] h K := by
  have hm := hl.2.1
  have e3 := L.2.1
  have loop : ∀ (q i : Nat) (x y z : Int), m - i = q → i ≤ m → x = (i : Int) → y = (zru n e th 9999 i o : Int) → z = ((th / 2 ^ zmb e i : Nat) : Int) → zAt X 89 9 0 0 [some (zR 1), some (zR w), none, none, some (zI y), some (zI z), some (zI x), none, none] [] zSHc h (fun v sh' h' => sh' = zSHc ∧ K v h') := by
    intro qq
    induction qq with
    | zero =>
      intro i x y z hq hi hx hy hz
      have ei : i = m := by omega
      subst ei
      apply sq_89_9 F hp <;> intros <;> (try omega)
      subst hy
      exact ⟨rfl, q⟩
    | succ qq ih =>
      intro i x y z hq hi hx hy hz
      have hi' : i < m := by omega
      have hk := L.kd hl hi'
      have hg := L.lg hl hi'
      rw [← hx] at hk hg
      have ho' := zru_lt hl (th := th) (sk := 9999) ho i hi
      obtain ⟨hk4, hl2, hmay⟩ := hl.2.2.2 i hi'
      have es : zru n e th 9999 (i + 1) o = zst n (e i) (th.testBit (zmb e i)) (zru n e th 9999 i o) := if_neg (by omega)
      have et : zmb e (i + 1) = zmb e i + (if (e i).1 = 3 then 1 else 0) := rfl
      have hz0 : th / 2 ^ zmb e i < 2147483648 := Nat.lt_of_le_of_lt (Nat.div_le_self _ _) hth
      have hx1 : x + 1 = ((i + 1 : Nat) : Int) := by omega
      have hb : -2147483648 ≤ x + 1 ∧ x + 1 < 2147483648 := by omega
      have hc : ¬ h w 3 ≤ x := by omega
      by_cases c3 : (e i).1 = 3
      · rw [if_pos c3] at et
        have ez : zishr z 1 = ((th / 2 ^ zmb e (i + 1) : Nat) : Int) := by
          rw [hz, show (1 : Int) = ((1 : Nat) : Int) from rfl, zishr_n (by omega) hz0, et, Nat.div_div_eq_div_mul, Nat.pow_one, ← Nat.pow_succ]
        have ea : ziand z 1 = ((th / 2 ^ zmb e i % 2 : Nat) : Int) := by rw [hz, ziand_1 hz0]
        have eb : th.testBit (zmb e i) = decide (th / 2 ^ zmb e i % 2 = 1) := by
          rw [Nat.testBit_eq_decide_div_mod_eq]
        apply sq_89_9 F hp
        · intro a; exact absurd a hc
        · intro _ a; omega
        · intros; exact hb
        · intro _ _ a
          rw [ez]
          refine ih (i + 1) _ _ _ (by omega) (by omega) hx1 ?_ rfl
          rw [es, eb, decide_eq_false (by omega), zst_f c3, hy]
        · intro _ _ a
          rw [hk, hg, L.1, hy, ez]
          refine cx_87 F T hl.1.1 hr hl2 ho' (sq_89_79c hb (ih (i + 1) _ _ _ (by omega) (by omega) hx1 ?_ rfl))
          rw [es, eb, decide_eq_true (by omega)]
      · rw [if_neg c3] at et
        apply sq_89_9 F hp
        · intro a; exact absurd a hc
        · intro _ a
          rw [hk, hg, L.1, hy]
          refine cx_87 F T hl.1.1 hr hl2 ho' (sq_89_79c hb (ih (i + 1) _ _ _ (by omega) (by omega) hx1 ?_ (by rw [hz, et, Nat.add_zero])))
          rw [es, zst_n (b := th.testBit (zmb e i)) c3 hk4]
        · intro _ a; omega
        · intro _ a; omega
        · intro _ a; omega
  exact sq_89_0 (loop m 0 0 _ _ (by omega) (by omega) rfl rfl (by show (th : Int) = ((th / 2 ^ 0 : Nat) : Int); rw [Nat.pow_zero, Nat.div_one]))
/-- ladder -/
theorem cx_166 {t w : Int} (F : zFin h) (S : zCS h N s A) (k0 : ¬ (0 ≤ t ∧ t < (N : Int)) → K (some (zI (-1))) h) (k1 : ∀ u : Nat, u < N → t = (u : Int) → ∀ h', zFin h' → zfr [6 + 3 * u + 2] h h' → K (some (zI (zs166 (A u) w))) h') : zC X 166 [zR 0, zI t, zI w] h K := by
  have S' := S
  obtain ⟨s1, s2, s3, s4, s5, s6⟩ := S
  refine sg_166_0 (cx_202 F S' (fun c => sg_166_5cz ⟨rfl, k0 c⟩) (fun u hu htu => ?_))
  obtain ⟨hl, L, -, -, -⟩ := s5 u hu
  have hpu := zLadT (t := u) (by omega)
  have k1 := k1 u hu htu
  apply sg_166_5c <;> intros
  · omega
  · refine sg_166_81 ⟨rfl, ?_⟩
    have := k1 h F zfr.rfl
    unfold zs166 at this
    rw [if_neg (by omega), if_neg (by omega), if_neg (by omega), if_neg (by omega), if_neg (by omega)] at this
    exact this
  · refine sg_166_48 hpu ⟨rfl, ?_⟩
    have := k1 h F zfr.rfl
    unfold zs166 at this
    rw [if_pos (by omega)] at this
    rw [L.1]
    exact this
  · refine sg_166_53 hpu ⟨rfl, ?_⟩
    have := k1 h F zfr.rfl
    unfold zs166 at this
    rw [if_neg (by omega), if_pos (by omega)] at this
    rw [L.2.1]
    exact this
  · refine sg_166_58 hpu ⟨rfl, ?_⟩
    have := k1 h F zfr.rfl
    unfold zs166 at this
    rw [if_neg (by omega), if_neg (by omega), if_pos (by omega)] at this
    rw [L.2.2.1]
    exact this
  · refine sg_166_63 hpu (cx_35 F hpu L hl fun h' F' fr => sg_166_67c ⟨rfl, ?_⟩)
    have := k1 h' F' fr
    unfold zs166 at this
    rw [if_neg (by omega), if_neg (by omega), if_neg (by omega), if_pos (by omega)] at this
    exact this
  · have := k1 h F zfr.rfl
    unfold zs166 at this
    rw [if_neg (by omega), if_neg (by omega), if_neg (by omega), if_neg (by omega), if_pos (by omega)] at this
    refine sg_166_68 hpu (cx_32 F hpu L hl (fun c => ?_) (fun c => ?_))
    · rw [if_pos ((zplb_iff _ _).mpr c)] at this
      exact sg_166_72c (fun a => absurd a (by decide)) (fun _ => ⟨rfl, this⟩)
    · rw [if_neg (fun z => c ((zplb_iff _ _).mp z))] at this
      exact sg_166_72c (fun _ => ⟨rfl, this⟩) (fun a => absurd rfl a)
/-- element -/
theorem cx_167 {t i w : Int} (F : zFin h) (S : zCS h N s A) (k0 : (∀ u j : Nat, u < N → t = (u : Int) → i = (j : Int) → j < (A u).2.1 → False) → K (some (zI (-1))) h) (k1 : ∀ u j : Nat, u < N → t = (u : Int) → i = (j : Int) → j < (A u).2.1 → ∀ h', zFin h' → zfr [6 + 3 * u + 2] h h' → K (some (zI (zs167 (A u) j w))) h') : zC X 167 [zR 0, zI t, zI i, zI w] h K := by
  have S' := S
  obtain ⟨s1, s2, s3, s4, s5, s6⟩ := S
  refine sg_167_0 (cx_202 F S' (fun c => sg_167_5cz ⟨rfl, k0 fun u j hu a b c => by omega⟩) (fun u hu htu => ?_))
  obtain ⟨hl, L, -, -, -⟩ := s5 u hu
  have hpu := zLadT (t := u) (by omega)
  have hm := hl.2.1
  have e3 := L.2.1
  have no : ¬ (0 ≤ i ∧ i < (A u).2.1) → K (some (zI (-1))) h := fun c => k0 fun u' j hu' a b d => by
    have : u' = u := by omega
    subst this
    omega
  by_cases ci : 0 ≤ i ∧ i < (A u).2.1
  · have ei : i = ((i.toNat : Nat) : Int) := by omega
    have hj : i.toNat < (A u).2.1 := by omega
    have k1 := k1 u i.toNat hu htu ei hj
    have a1 := L.kd hl hj
    have a2 := L.lg hl hj
    have a3 := L.wa hl hj
    have a4 := L.wb hl hj
    rw [← ei] at a1 a2 a3 a4
    have kk := k1 h F zfr.rfl
    have kd4 := (hl.2.2.2 _ hj).1
    clear k0 no s4 s5 s6
    by_cases c3 : ((A u).2.2 i.toNat).1 = 3
    · rw [if_pos c3] at a3 a4
      apply sg_167_5c F hpu <;> intros <;> (try omega)
      · unfold zs167 at kk
        rw [if_neg (by omega), if_neg (by omega), if_neg (by omega), if_neg (by omega), if_neg (by omega)] at kk
        exact sg_167_129 ⟨rfl, kk⟩
      · unfold zs167 at kk
        rw [if_pos (by omega)] at kk
        refine sg_167_76 F hpu ⟨rfl, ?_⟩
        rw [a2]; exact kk
      · unfold zs167 at kk
        rw [if_neg (by omega), if_pos (by omega)] at kk
        refine sg_167_83 F hpu ⟨rfl, ?_⟩
        rw [a1]; exact kk
      · unfold zs167 at kk
        rw [if_neg (by omega), if_neg (by omega), if_pos (by omega), if_pos c3] at kk
        refine sg_167_90 F hpu (fun a => absurd a (by decide)) (fun _ => ⟨rfl, ?_⟩)
        rw [a3]; exact kk
      · unfold zs167 at kk
        rw [if_neg (by omega), if_neg (by omega), if_neg (by omega), if_pos (by omega), if_pos c3] at kk
        refine sg_167_106 F hpu (fun a => absurd a (by decide)) (fun _ => ⟨rfl, ?_⟩)
        rw [a4]; exact kk
      · refine sg_167_122 hpu (cx_34 F hpu L hl (last := i.toNat + 1) (by omega) (by omega) fun h' v F' fr q1 q2 => sg_167_128c ⟨rfl, ?_⟩)
        have kk := k1 h' F' fr
        unfold zs167 at kk
        rw [if_neg (by omega), if_neg (by omega), if_neg (by omega), if_neg (by omega), if_pos (by omega)] at kk
        rw [q2 i.toNat rfl]
        exact kk
    · apply sg_167_5c F hpu <;> intros <;> (try omega)
      · unfold zs167 at kk
        rw [if_neg (by omega), if_neg (by omega), if_neg (by omega), if_neg (by omega), if_neg (by omega)] at kk
        exact sg_167_129 ⟨rfl, kk⟩
      · unfold zs167 at kk
        rw [if_pos (by omega)] at kk
        refine sg_167_76 F hpu ⟨rfl, ?_⟩
        rw [a2]; exact kk
      · unfold zs167 at kk
        rw [if_neg (by omega), if_pos (by omega)] at kk
        refine sg_167_83 F hpu ⟨rfl, ?_⟩
        rw [a1]; exact kk
      · unfold zs167 at kk
        rw [if_neg (by omega), if_neg (by omega), if_pos (by omega), if_neg c3] at kk
        exact sg_167_90 F hpu (fun _ => ⟨rfl, kk⟩) (fun a => absurd rfl a)
      · unfold zs167 at kk
        rw [if_neg (by omega), if_neg (by omega), if_neg (by omega), if_pos (by omega), if_neg c3] at kk
        exact sg_167_106 F hpu (fun _ => ⟨rfl, kk⟩) (fun a => absurd rfl a)
      · refine sg_167_122 hpu (cx_34 F hpu L hl (last := i.toNat + 1) (by omega) (by omega) fun h' v F' fr q1 q2 => sg_167_128c ⟨rfl, ?_⟩)
        have kk := k1 h' F' fr
        unfold zs167 at kk
        rw [if_neg (by omega), if_neg (by omega), if_neg (by omega), if_neg (by omega), if_pos (by omega)] at kk
        rw [q2 i.toNat rfl]
        exact kk
  · apply sg_167_5c F hpu <;> intros <;> (try omega)
    exact ⟨rfl, no ci⟩
end
