/-! THE REFERENCE: BIT ROWS ONE BY ONE -/
theorem zdig {r k : Nat} (hr : r < 128) (hk : k < 31) : ziand (zishr (r : Int) (k : Int)) 1 = if r.testBit k then 1 else 0 := by
  rw [zishr_n (by omega) (by omega)]
  have h2 : r / 2 ^ k ≤ r := Nat.div_le_self _ _
  rw [ziand_1 (by omega), Nat.testBit_eq_decide_div_mod_eq]
  have lt := Nat.mod_lt (r / 2 ^ k) (show 0 < 2 by decide)
  by_cases c : r / 2 ^ k % 2 = 1
  · rw [decide_eq_true c, if_pos rfl, c]; rfl
  · rw [decide_eq_false c, if_neg (by decide), show r / 2 ^ k % 2 = 0 by omega]; rfl
def zbp (r kd k : Nat) : Nat := if (r.testBit k != r.testBit (k + 1)) && (Nat.beq kd 0 || (Nat.beq kd 1 && r.testBit k) || (Nat.beq kd 2 && r.testBit (k + 1))) then r ^^^ 2 ^ k ^^^ 2 ^ (k + 1) else r
theorem zbp_all : ∀ r, r < 128 → ∀ k, k < 6 → ∀ kd, kd < 3 → zbp r kd k = zrb 7 (zbs (kd, k, 0, 0) r.testBit) := by decide +kernel
theorem zbs_2 {x : Nat × Nat × Nat × Nat} {f : Nat → Bool} : zbs x f = zbs (x.1, x.2.1, 0, 0) f := rfl
theorem zbp_bit {r j : Nat} {x : Nat × Nat × Nat × Nat} (hr : r < 128) (hx : x.2.1 < 6) (h3 : x.1 < 3) (hj : j < 7) : (zbp r x.1 x.2.1).testBit j = zbs x r.testBit j := by
  rw [zbp_all r hr _ hx _ h3, zrb_bit, decide_eq_true hj, Bool.true_and]
  rfl
theorem zbp_lt {r : Nat} {x : Nat × Nat × Nat × Nat} (hr : r < 128) (hx : x.2.1 < 6) (h3 : x.1 < 3) : zbp r x.1 x.2.1 < 128 := by
  rw [zbp_all r hr _ hx _ h3]
  exact zrb_lt 7
theorem zpow2 {k : Nat} (hk : k < 31) : zishl 1 (k : Int) = ((2 ^ k : Nat) : Int) := by
  have hp : 2 ^ k ≤ 2 ^ 30 := Nat.pow_le_pow_right (by decide) (by omega)
  have := zishl_n (x := 1) (k := k) (by omega) (by omega)
  rw [Nat.one_mul] at this
  exact this
theorem zsdb_congr {f g : Nat → Bool} : ∀ {k : Nat}, (∀ j, j ≤ k → f j = g j) → zsdb f k = zsdb g k := by
  intro k
  induction k with
  | zero => intro _; rfl
  | succ k ih =>
    intro h
    show (zsdb f k && (!f k || f (k + 1))) = (zsdb g k && (!g k || g (k + 1)))
    rw [ih (fun j hj => h j (by omega)), h k (by omega), h (k + 1) (by omega)]
section
variable {X : List Int} {h : zHP} {K : Option zAV → zHP → Prop} {N : Nat} {A : Nat → Nat × Nat × zel}
/-- bitsPassed -/
theorem cm_313 {r : Nat} {x : Nat × Nat × Nat × Nat} {a b c : Int} (hr : r < 128) (hx : x.2.1 < 6) (h3 : x.1 < 3) (ha : a = (r : Int)) (hb : b = (x.1 : Int)) (hc : c = (x.2.1 : Int)) (k : K (some (zI (zbp r x.1 x.2.1 : Int))) h) : zC X 313 [zI a, zI b, zI c] h K := by
  have d0 : ziand (zishr a c) 1 = if r.testBit x.2.1 then 1 else 0 := by rw [ha, hc]; exact zdig hr (by omega)
  have d1 : ziand (zishr a (c + 1)) 1 = if r.testBit (x.2.1 + 1) then 1 else 0 := by rw [ha, hc, show ((x.2.1 : Int) + 1) = ((x.2.1 + 1 : Nat) : Int) by omega]; exact zdig hr (by omega)
  have p1 : 2 ^ x.2.1 ≤ 2 ^ 6 := Nat.pow_le_pow_right (by decide) (by omega)
  have p2 : 2 ^ (x.2.1 + 1) ≤ 2 ^ 6 := Nat.pow_le_pow_right (by decide) (by omega)
  have ex : zixor (zixor a (zishl 1 c)) (zishl 1 (c + 1)) = ((r ^^^ 2 ^ x.2.1 ^^^ 2 ^ (x.2.1 + 1) : Nat) : Int) := by
    rw [ha, hc, show ((x.2.1 : Int) + 1) = ((x.2.1 + 1 : Nat) : Int) by omega, zpow2 (by omega), zpow2 (by omega), zixor_n (by omega) (by omega)]
    have l1 : r ^^^ 2 ^ x.2.1 < 2 ^ 7 := Nat.xor_lt_two_pow (n := 7) hr (by omega)
    rw [zixor_n (by omega) (by omega)]
  have yes : ((r.testBit x.2.1 != r.testBit (x.2.1 + 1)) && (Nat.beq x.1 0 || (Nat.beq x.1 1 && r.testBit x.2.1) || (Nat.beq x.1 2 && r.testBit (x.2.1 + 1)))) = true → zSHc = zSHc ∧ K (some (zI (zixor (zixor a (zishl 1 c)) (zishl 1 (c + 1))))) h := fun z => by
    unfold zbp at k
    rw [if_pos z, ← ex] at k
    exact ⟨rfl, k⟩
  have no : ((r.testBit x.2.1 != r.testBit (x.2.1 + 1)) && (Nat.beq x.1 0 || (Nat.beq x.1 1 && r.testBit x.2.1) || (Nat.beq x.1 2 && r.testBit (x.2.1 + 1)))) = false → zSHc = zSHc ∧ K (some (zI a)) h := fun z => by
    unfold zbp at k
    rw [if_neg (by rw [z]; decide), ← ha] at k
    exact ⟨rfl, k⟩
  have kd : x.1 = 0 ∨ x.1 = 1 ∨ x.1 = 2 := by omega
  cases c0 : r.testBit x.2.1 with
  | true =>
    cases c1 : r.testBit (x.2.1 + 1) with
    | true =>
      rw [c0, if_pos rfl] at d0
      rw [c1, if_pos rfl] at d1
      have no := no (by rw [c0, c1]; rfl)
      clear yes k ex
      apply sg_313_0 <;> intros <;> (try omega)
      all_goals exact no
    | false =>
      rw [c0, if_pos rfl] at d0
      rw [c1, if_neg (by decide)] at d1
      rcases kd with q | q | q
      · have yes := yes (by rw [c0, c1, q]; rfl)
        clear no k ex
        apply sg_313_0 <;> intros <;> (try omega)
        all_goals exact yes
      · have yes := yes (by rw [c0, c1, q]; rfl)
        clear no k ex
        apply sg_313_0 <;> intros <;> (try omega)
        all_goals exact yes
      · have no := no (by rw [c0, c1, q]; rfl)
        clear yes k ex
        apply sg_313_0 <;> intros <;> (try omega)
        all_goals exact no
  | false =>
    cases c1 : r.testBit (x.2.1 + 1) with
    | true =>
      rw [c0, if_neg (by decide)] at d0
      rw [c1, if_pos rfl] at d1
      rcases kd with q | q | q
      · have yes := yes (by rw [c0, c1, q]; rfl)
        clear no k ex
        apply sg_313_0 <;> intros <;> (try omega)
        all_goals exact yes
      · have no := no (by rw [c0, c1, q]; rfl)
        clear yes k ex
        apply sg_313_0 <;> intros <;> (try omega)
        all_goals exact no
      · have yes := yes (by rw [c0, c1, q]; rfl)
        clear no k ex
        apply sg_313_0 <;> intros <;> (try omega)
        all_goals exact yes
    | false =>
      rw [c0, if_neg (by decide)] at d0
      rw [c1, if_neg (by decide)] at d1
      have no := no (by rw [c0, c1]; rfl)
      clear yes k ex
      apply sg_313_0 <;> intros <;> (try omega)
      all_goals exact no
/-- bitsEnd -/
theorem cm_314 {u r : Nat} {t y : Int} (F : zFin h) (M : zMS h N A) (hu : u < N) (ht : t = (u : Int)) (hmb : zmb (A u).2.2 (A u).2.1 = 0) (hr : r < 128) (hy : y = (r : Int)) (k : ∀ w : Nat, w < 128 → (∀ j, j < 7 → w.testBit j = zbrw (A u).2.2 9999 (A u).2.1 r.testBit j) → K (some (zI (w : Int))) h) : zC X 314 [zR 108, zI t, zI y] h K := by
  have hN := M.2.1
  obtain ⟨n1, n2⟩ := M.n hu ht
  have hl := (M.2.2 u hu).1
  have hn := hl.1
  have hm := hl.2.1
  have hll := zmb0_k hl hmb
  have loop : ∀ (p i w : Nat) (x3 x4 : Int), (A u).2.1 - i = p → i ≤ (A u).2.1 → x4 = (i : Int) → x3 = (w : Int) → w < 128 → (∀ j, j < 7 → w.testBit j = zbrw (A u).2.2 9999 i r.testBit j) → zAt X 314 5 0 0 [some (zR 108), some (zI t), none, some (zI x3), some (zI x4)] [] zSHc h (fun v sh' h' => sh' = zSHc ∧ K v h') := by
    intro p
    induction p with
    | zero =>
      intro i w x3 x4 hp hi h4 h3 hw B
      have ei : i = (A u).2.1 := by omega
      rw [ei] at B
      exact sg_314_5 F (by omega) (fun _ => ⟨rfl, by rw [h3]; exact k w hw B⟩) (fun a => by omega) (fun a => by omega) (fun a => by omega) (fun a => by omega)
    | succ p ih =>
      intro i w x3 x4 hp hi h4 h3 hw B
      have hi' : i < (A u).2.1 := by omega
      obtain ⟨r1, r2, -⟩ := M.rd hu ht hi' h4
      obtain ⟨q1, q2⟩ := hll i hi'
      refine sg_314_5 F (by omega) (fun a => by omega) (fun _ => by omega) (fun _ => by omega) (fun _ => by omega) (fun _ => ?_)
      refine cm_313 (x := (A u).2.2 i) hw (by omega) q2 h3 r1 r2 (sg_314_46c (by omega) ?_)
      refine ih (i + 1) _ _ _ (by omega) (by omega) (by omega) rfl (zbp_lt hw (by omega) q2) fun j hj => ?_
      rw [zbp_bit hw (by omega) q2 hj, zbrw_s, if_neg (by omega)]
      exact zbs_congr (show ((A u).2.2 i).2.1 + 2 ≤ 7 by omega) B j hj
  exact sg_314_0 (loop _ 0 r _ 0 rfl (by omega) rfl hy hr fun j _ => rfl)
/-- isSorted -/
theorem cm_315 {n w : Nat} {a b : Int} (hn : 2 ≤ n ∧ n ≤ 7) (hw : w < 128) (ha : a = (n : Int)) (hb : b = (w : Int)) (k : K (some (zI (if zsdb w.testBit (n - 1) then 1 else 0))) h) : zC X 315 [zI a, zI b] h K := by
  have loop : ∀ (p i : Nat) (x2 : Int), n - 1 - i = p → i ≤ n - 1 → x2 = (i : Int) → zsdb w.testBit i = true → zAt X 315 2 0 0 [some (zI a), some (zI b), some (zI x2)] [] zSHc h (fun v sh' h' => sh' = zSHc ∧ K v h') := by
    intro p
    induction p with
    | zero =>
      intro i x2 hp hi h2 B
      have ei : i = n - 1 := by omega
      rw [← ei, B, if_pos rfl] at k
      exact sg_315_2 (by omega) (fun _ => ⟨rfl, k⟩) (fun c => by omega) (fun c => by omega) (fun c => by omega)
    | succ p ih =>
      intro i x2 hp hi h2 B
      have d0 : ziand (zishr b x2) 1 = if w.testBit i then 1 else 0 := by rw [hb, h2]; exact zdig hw (by omega)
      have d1 : ziand (zishr b (x2 + 1)) 1 = if w.testBit (i + 1) then 1 else 0 := by rw [hb, h2, show ((i : Int) + 1) = ((i + 1 : Nat) : Int) by omega]; exact zdig hw (by omega)
      have es : zsdb w.testBit (i + 1) = (zsdb w.testBit i && (!w.testBit i || w.testBit (i + 1))) := rfl
      refine sg_315_2 (by omega) (fun c => by omega) (fun _ c => ?_) (fun _ c c2 => ?_) (fun _ c c2 => ⟨rfl, ?_⟩)
      · refine ih (i + 1) _ (by omega) (by omega) (by omega) ?_
        rw [d0] at c
        cases e : w.testBit i with
        | true => rw [e] at c; exact absurd rfl c
        | false => rw [es, B, e]; rfl
      · refine ih (i + 1) _ (by omega) (by omega) (by omega) ?_
        rw [d1] at c2
        cases e : w.testBit (i + 1) with
        | true => rw [es, B, e, Bool.or_true]; rfl
        | false => rw [e] at c2; exact absurd rfl c2
      · have f : zsdb w.testBit (n - 1) = false := by
          cases z : zsdb w.testBit (n - 1) with
          | false => rfl
          | true =>
            have t0 : w.testBit i = true := by
              rw [d0] at c
              cases e : w.testBit i with
              | true => rfl
              | false => rw [e] at c; exact absurd c (by decide)
            have := zsdb_iff.mp z i (by omega) t0
            rw [d1, this] at c2
            exact absurd c2 (by decide)
        rw [f] at k
        exact k
  exact sg_315_0 (loop _ 0 0 rfl (by omega) rfl rfl)
/-- fails -/
theorem cm_316 {t : Int} (F : zFin h) (M : zMS h N A) (k0 : ¬ (0 ≤ t ∧ t < (N : Int)) → K (some (zI (-1))) h) (k2 : ∀ u : Nat, u < N → t = (u : Int) → ¬ zmb (A u).2.2 (A u).2.1 = 0 → K (some (zI (-2))) h) (k1 : ∀ u : Nat, u < N → t = (u : Int) → zmb (A u).2.2 (A u).2.1 = 0 → K (some (zI (zfls (A u).1 (A u).2.2 9999 (A u).2.1 : Int))) h) : zC X 316 [zR 108, zI t] h K := by
  have hN := M.2.1
  have h0 := M.1
  refine sg_316_0 (fun c => ?_) (fun c => ⟨rfl, k0 (by omega)⟩)
  obtain ⟨u, hu⟩ : ∃ u : Nat, t = (u : Int) := ⟨t.toNat, by omega⟩
  have hu' : u < N := by omega
  obtain ⟨n1, n2⟩ := M.n hu' hu
  have hl := (M.2.2 u hu').1
  have hn := hl.1
  have h128 : 2 ^ (A u).1 ≤ 2 ^ 7 := Nat.pow_le_pow_right (by decide) hn.2
  refine cm_244 F M hu' hu (sg_316_15c (fun a => ?_) (fun a => ⟨rfl, k2 u hu' hu (by omega)⟩))
  have mb0 : zmb (A u).2.2 (A u).2.1 = 0 := by omega
  have kk := k1 u hu' hu mb0
  have e2 : zishl 1 (h 109 t.toNat) = ((2 ^ (A u).1 : Nat) : Int) := by rw [n1]; exact zpow2 (by omega)
  have bd : ∀ r, zsu (fun r => if zsdb (zbrw (A u).2.2 9999 (A u).2.1 r.testBit) ((A u).1 - 1) then 0 else 1) r ≤ r * 1 := fun r => zsu_bd r fun i _ => by show (if _ then 0 else 1) ≤ 1; split <;> omega
  have loop : ∀ (p r : Nat) (x2 x3 : Int), 2 ^ (A u).1 - r = p → r ≤ 2 ^ (A u).1 → x3 = (r : Int) → x2 = (zsu (fun r => if zsdb (zbrw (A u).2.2 9999 (A u).2.1 r.testBit) ((A u).1 - 1) then 0 else 1) r : Nat) → zAt X 316 25 0 0 [some (zR 108), some (zI t), some (zI x2), some (zI x3)] [] zSHc h (fun v sh' h' => sh' = zSHc ∧ K v h') := by
    intro p
    induction p with
    | zero =>
      intro r x2 x3 hp hr h3 h2
      have er : r = 2 ^ (A u).1 := by omega
      rw [er] at h2
      exact sg_316_25 F (by omega) (fun _ => ⟨rfl, by rw [h2]; exact kk⟩) (fun z => by omega)
    | succ p ih =>
      intro r x2 x3 hp hr h3 h2
      have hr' : r < 2 ^ (A u).1 := by omega
      have es : zsu (fun r => if zsdb (zbrw (A u).2.2 9999 (A u).2.1 r.testBit) ((A u).1 - 1) then 0 else 1) (r + 1) = zsu (fun r => if zsdb (zbrw (A u).2.2 9999 (A u).2.1 r.testBit) ((A u).1 - 1) then 0 else 1) r + (if zsdb (zbrw (A u).2.2 9999 (A u).2.1 r.testBit) ((A u).1 - 1) then 0 else 1) := rfl
      have b := bd r
      refine sg_316_25 F (by omega) (fun z => by omega) (fun _ => ?_)
      refine cm_314 F M hu' hu mb0 (r := r) (by omega) h3 fun w hw B => sg_316_50c ?_
      rw [n1]
      refine cm_315 hn hw rfl rfl ?_
      rw [zsdb_congr (f := w.testBit) (g := zbrw (A u).2.2 9999 (A u).2.1 r.testBit) (fun j hj => B j (by omega))]
      cases c : zsdb (zbrw (A u).2.2 9999 (A u).2.1 r.testBit) ((A u).1 - 1) with
      | true =>
        rw [c, if_pos rfl] at es
        exact sg_316_53c (fun z => absurd z (by decide)) (fun z => absurd z (by decide)) (fun z => absurd z (by decide)) (fun _ => by omega) (fun _ => by omega) (fun _ => ih (r + 1) _ _ (by omega) (by omega) (by omega) (by rw [es]; omega))
      | false =>
        rw [c, if_neg (by decide)] at es
        exact sg_316_53c (fun _ => by omega) (fun _ => by omega) (fun _ => ih (r + 1) _ _ (by omega) (by omega) (by omega) (by rw [es]; omega)) (fun z => absurd rfl z) (fun z => absurd rfl z) (fun z => absurd rfl z)
  exact loop _ 0 0 0 rfl (Nat.zero_le _) rfl rfl
/-- firstFail -/
theorem cm_317 {t : Int} (F : zFin h) (M : zMS h N A) (k0 : ¬ (0 ≤ t ∧ t < (N : Int)) → K (some (zI (-1))) h) (k2 : ∀ u : Nat, u < N → t = (u : Int) → ¬ zmb (A u).2.2 (A u).2.1 = 0 → K (some (zI (-2))) h) (k3 : ∀ u : Nat, u < N → t = (u : Int) → zmb (A u).2.2 (A u).2.1 = 0 → (∀ r, r < 2 ^ (A u).1 → zsdb (zbrw (A u).2.2 9999 (A u).2.1 r.testBit) ((A u).1 - 1) = true) → K (some (zI (-3))) h) (k1 : ∀ u q : Nat, u < N → t = (u : Int) → zmb (A u).2.2 (A u).2.1 = 0 → q < 2 ^ (A u).1 → zsdb (zbrw (A u).2.2 9999 (A u).2.1 q.testBit) ((A u).1 - 1) = false → (∀ r, r < q → zsdb (zbrw (A u).2.2 9999 (A u).2.1 r.testBit) ((A u).1 - 1) = true) → K (some (zI (q : Int))) h) : zC X 317 [zR 108, zI t] h K := by
  have hN := M.2.1
  have h0 := M.1
  refine sg_317_0 (fun c => ?_) (fun c => ⟨rfl, k0 (by omega)⟩)
  obtain ⟨u, hu⟩ : ∃ u : Nat, t = (u : Int) := ⟨t.toNat, by omega⟩
  have hu' : u < N := by omega
  obtain ⟨n1, n2⟩ := M.n hu' hu
  have hl := (M.2.2 u hu').1
  have hn := hl.1
  have h128 : 2 ^ (A u).1 ≤ 2 ^ 7 := Nat.pow_le_pow_right (by decide) hn.2
  refine cm_244 F M hu' hu (sg_317_15c (fun a => ?_) (fun a => ⟨rfl, k2 u hu' hu (by omega)⟩))
  have mb0 : zmb (A u).2.2 (A u).2.1 = 0 := by omega
  have e2 : zishl 1 (h 109 t.toNat) = ((2 ^ (A u).1 : Nat) : Int) := by rw [n1]; exact zpow2 (by omega)
  have loop : ∀ (p r : Nat) (x3 : Int), 2 ^ (A u).1 - r = p → r ≤ 2 ^ (A u).1 → x3 = (r : Int) → (∀ q, q < r → zsdb (zbrw (A u).2.2 9999 (A u).2.1 q.testBit) ((A u).1 - 1) = true) → zAt X 317 23 0 0 [some (zR 108), some (zI t), some (zI x3)] [] zSHc h (fun v sh' h' => sh' = zSHc ∧ K v h') := by
    intro p
    induction p with
    | zero =>
      intro r x3 hp hr h3 B
      have kk := k3 u hu' hu mb0 fun q hq => B q (by omega)
      exact sg_317_23 F (by omega) (fun _ => ⟨rfl, kk⟩) (fun z => by omega)
    | succ p ih =>
      intro r x3 hp hr h3 B
      have hr' : r < 2 ^ (A u).1 := by omega
      refine sg_317_23 F (by omega) (fun z => by omega) (fun _ => ?_)
      refine cm_314 F M hu' hu mb0 (r := r) (by omega) h3 fun w hw B2 => sg_317_47c ?_
      rw [n1]
      refine cm_315 hn hw rfl rfl ?_
      rw [zsdb_congr (f := w.testBit) (g := zbrw (A u).2.2 9999 (A u).2.1 r.testBit) (fun j hj => B2 j (by omega))]
      cases c : zsdb (zbrw (A u).2.2 9999 (A u).2.1 r.testBit) ((A u).1 - 1) with
      | true =>
        refine sg_317_50c (fun _ => by omega) (fun _ => ih (r + 1) _ (by omega) (by omega) (by omega) fun q hq => ?_) (fun z => absurd z (by decide))
        by_cases d : q = r
        · rw [d]; exact c
        · exact B q (by omega)
      | false =>
        exact sg_317_50c (fun z => absurd rfl z) (fun z => absurd rfl z) (fun _ => ⟨rfl, by rw [h3]; exact k1 u r hu' hu mb0 hr' c B⟩)
  exact loop _ 0 0 rfl (Nat.zero_le _) rfl (fun q hq => by omega)
end
