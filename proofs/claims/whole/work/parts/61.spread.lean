/-! THE REFERENCE'S WAYS -/
def zct (n : Nat) (x : Nat × Nat × Nat × Nat) (w : Nat → Nat) (v u : Nat) : Nat := if x.1 = 3 then (if u = v then w u * (x.2.2.2 - x.2.2.1) else 0) + (if zx n x.2.1 u = v then w u * x.2.2.1 else 0) else if zst n x true u = v then w u else 0
theorem zpf_ct {n : Nat} {x : Nat × Nat × Nat × Nat} {w : Nat → Nat} {v : Nat} : zpf n x w v = zsu (zct n x w v) (zfac n) := rfl
theorem zct_0 {n : Nat} {x : Nat × Nat × Nat × Nat} {w : Nat → Nat} {v u : Nat} (h : w u = 0) : zct n x w v u = 0 := by
  unfold zct
  rw [h, Nat.zero_mul, Nat.zero_mul]
  split
  · split <;> split <;> rfl
  · split <;> rfl
theorem zww_le {n m o : Nat} {e : zel} (hl : zlok n m e) (ho : o < zfac n) {i v : Nat} (hi : i ≤ m) (hv : v < zfac n) : zww n e o i v ≤ 1099511627776 := by
  have h1 := zww_sum hl ho i hi
  have h2 := (zways_le hl i hi).1
  have h3 := zmb_mono e hi
  have h4 := hl.2.2.1
  have h5 : 4 ^ zmb e i ≤ 4 ^ 20 := Nat.pow_le_pow_right (by decide) (by omega)
  have h6 : 4 ^ 20 = 1099511627776 := by decide
  have h7 := zsu_ge (f := zww n e o i) hv
  omega
def zLz (h h' : zHP) : Prop := zFin h' ∧ zfr [108, 136, 137, 138, 139, 140, 141, 142, 148, 149] h h' ∧ (∀ i, i ≠ 38 → i ≠ 39 → h' 108 i = h 108 i) ∧ zML h'
section
variable {X : List Int} {h : zHP} {K : Option zAV → zHP → Prop} {N : Nat} {A : Nat → Nat × Nat × zel}
theorem zLy.lz {h' : zHP} (y : zLy h h') : zLz h h' := ⟨y.1, y.2.1.mono (by simp), y.2.2.1, y.2.2.2⟩
theorem zLz.w {h' h2 : zHP} (y : zLz h h') (F : zFin h2) (fr : zfr [148, 149] h' h2) : zLz h h2 := ⟨F, y.2.1.trans (fr.mono (by simp)), fun i a b => by rw [fr 108 (by decide)]; exact y.2.2.1 i a b, y.2.2.2.keep (by rw [fr 108 (by decide)]) (by rw [fr 108 (by decide)]) fun c a b => fr c (by simp; omega)⟩
theorem zLz.rf (F : zFin h) (L : zML h) : zLz h h := ⟨F, zfr.rfl, fun _ _ _ => rfl, L⟩
theorem zMS.lz {h' : zHP} (M : zMS h N A) (y : zLz h h') : zMS h' N A := M.fr (y.2.2.1 0 (by decide) (by decide)) fun c a b => by
  have : c = 109 ∨ c = 110 ∨ c = 111 ∨ c = 112 ∨ c = 113 ∨ c = 114 := by omega
  rcases this with e | e | e | e | e | e <;> subst e <;> exact y.2.1 _ (by decide)
theorem zMO.z {n : Nat} {h2 : zHP} (M : zMO h n) (fr : zfr [148, 149] h h2) : zMO h2 n := by
  obtain ⟨m1, m2, m3, m4, m5⟩ := M
  refine ⟨by rw [fr 108 (by decide)]; exact m1, fun u hu i hi => ?_, ?_, ?_, ?_⟩
  · rw [fr 136 (by decide)]; exact m2 u hu i hi
  · rw [fr 137 (by decide), fr 138 (by decide)]; exact m3
  · rw [fr 139 (by decide)]; exact m4
  · rw [fr 140 (by decide)]; exact m5
theorem zMS.z {h2 : zHP} (M : zMS h N A) (fr : zfr [148, 149] h h2) : zMS h2 N A := M.fr (by rw [fr 108 (by decide)]) fun c a b => fr c (by simp; omega)
/-- spread: past one element -/
theorem cm_288b {u i : Nat} {w : Nat → Nat} {t x3 x4 : Int} (F : zFin h) (M : zMS h N A) (MO : zMO h (A u).1) (hu : u < N) (ht : t = (u : Int)) (hi : i < (A u).2.1) (h3 : x3 = (i : Int)) (h4 : x4 = 200 * t + x3) (hw : ∀ v, v < zfac (A u).1 → w v ≤ 1099511627776 ∧ zpf (A u).1 ((A u).2.2 i) w v ≤ 1099511627776) (W : ∀ v, v < zfac (A u).1 → h 148 v = (w v : Int)) (k : ∀ h', zFin h' → zfr [148, 149] h h' → (∀ v, v < zfac (A u).1 → h' 148 v = (zpf (A u).1 ((A u).2.2 i) w v : Int)) → zAt X 288 44 0 0 [some (zR 108), some (zI t), none, some (zI (x3 + 1)), none, none] [] zSHc h' (fun v sh' h' => sh' = zSHc ∧ K v h')) : zAt X 288 66 0 0 [some (zR 108), some (zI t), none, some (zI x3), some (zI x4), some (zI 0)] [] zSHc h (fun v sh' h' => sh' = zSHc ∧ K v h') := by
  have hN := M.2.1
  have hl := (M.2.2 u hu).1
  have hm := hl.2.1
  have h5 := zfac7 hl.1.2
  obtain ⟨hk4, hl2, hmay⟩ := hl.2.2.2 i hi
  have hL : 0 ≤ x4 ∧ x4 < 1200 := by omega
  have e39 : ∀ h1, zfr [148, 149] h h1 → h1 108 39 = (zfac (A u).1 : Int) := fun h1 fr => by rw [fr 108 (by decide)]; exact MO.1
  generalize hn : (A u).1 = n at *
  generalize hx : (A u).2.2 i = x at *
  -- back
  have back : ∀ (q v : Nat) (h1 : zHP) (y : Int), zfac n - v = q → v ≤ zfac n → y = (v : Int) → zFin h1 → zfr [148, 149] h h1 → (∀ j, j < v → h1 148 j = (zpf n x w j : Int)) → (∀ j, j < zfac n → h1 149 j = (zpf n x w j : Int)) → zAt X 288 236 0 0 [some (zR 108), some (zI t), none, some (zI x3), none, some (zI y)] [] zSHc h1 (fun v sh' h' => sh' = zSHc ∧ K v h') := by
    intro q
    induction q with
    | zero =>
      intro v h1 y hq hv hy F1 fr B1 B2
      have e := e39 h1 fr
      exact sg_288_236 F1 (fun _ => by omega) (fun _ => k h1 F1 fr fun j hj => B1 j (by omega)) (fun a => by omega) (fun a => by omega) (fun a => by omega)
    | succ q ih =>
      intro v h1 y hq hv hy F1 fr B1 B2
      have e := e39 h1 fr
      refine sg_288_236 F1 (fun a => by omega) (fun a => by omega) (fun _ => by omega) (fun _ => by omega) (fun _ => ?_)
      have ey : y.toNat = v := by omega
      rw [ey, B2 v (by omega)]
      refine ih (v + 1) _ _ (by omega) (by omega) (by omega) (F1.upA zfa_148) (fr.up (by simp)) (fun j hj => ?_) (fun j hj => by rw [zup_c (by decide)]; exact B2 j hj)
      by_cases c : j = v
      · rw [c, zup_eq]
      · rw [zup_k c]; exact B1 j (by omega)
  -- forth
  have forth : ∀ (q v : Nat) (h1 : zHP) (y : Int), zfac n - v = q → v ≤ zfac n → y = (v : Int) → zFin h1 → zfr [149] h h1 → (∀ j, j < zfac n → h1 149 j = (zsu (zct n x w j) v : Int)) → zAt X 288 92 0 0 [some (zR 108), some (zI t), none, some (zI x3), some (zI x4), some (zI y)] [] zSHc h1 (fun v sh' h' => sh' = zSHc ∧ K v h') := by
    intro q
    induction q with
    | zero =>
      intro v h1 y hq hv hy F1 fr B
      have e := e39 h1 (fr.mono (by simp))
      have ev : v = zfac n := by omega
      refine sg_288_92 F1 (fun _ => back _ 0 h1 0 rfl (by omega) rfl F1 (fr.mono (by simp)) (fun j hj => by omega) (fun j hj => by rw [B j hj, ev, zpf_ct])) (fun a => by omega) (fun a => by omega) (fun a => by omega) (fun a => by omega) (fun a => by omega) (fun a => by omega) (fun a => by omega) (fun a => by omega) (fun a => by omega)
    | succ q ih =>
      intro v h1 y hq hv hy F1 fr B
      have hv' : v < zfac n := by omega
      have e := e39 h1 (fr.mono (by simp))
      have ey : y.toNat = v := by omega
      have M1 := M.z (fr.mono (by simp) : zfr [148, 149] h h1)
      have MO1 := MO.z (fr.mono (by simp) : zfr [148, 149] h h1)
      obtain ⟨r1, r2, r3⟩ := M1.rd hu ht hi h3
      rw [← h4, hx] at r1 r2 r3
      have w1 : h1 148 v = (w v : Int) := by rw [fr 148 (by decide)]; exact W v hv'
      have hwv := (hw v hv').1
      have es : ∀ j, zsu (zct n x w j) (v + 1) = zsu (zct n x w j) v + zct n x w j v := fun j => rfl
      have le : ∀ j, j < zfac n → zsu (zct n x w j) (v + 1) ≤ 1099511627776 := fun j hj => by
        have a1 := (hw j hj).2
        rw [zpf_ct] at a1
        have a2 := zsu_up (f := zct n x w j) (show v + 1 ≤ zfac n by omega)
        omega
      by_cases c0 : w v = 0
      · have nx := ih (v + 1) h1 (y + 1) (by omega) (by omega) (by omega) F1 fr fun j hj => by rw [B j hj, es, zct_0 c0, Nat.add_zero]
        have z0 : h1 148 y.toNat = 0 := by rw [ey, w1, c0]; rfl
        exact sg_288_92 F1 (fun a => by omega) (fun _ => by omega) (fun _ a => absurd z0 a) (fun _ a => absurd z0 a) (fun _ a => absurd z0 a) (fun _ a => absurd z0 a) (fun _ a => absurd z0 a) (fun _ a => absurd z0 a) (fun _ _ => by omega) (fun _ _ => nx)
      have z0 : ¬ h1 148 y.toNat = 0 := by rw [ey, w1]; omega
      by_cases c3 : x.1 = 3
      · have hm3 := hmay c3
        obtain ⟨r4, r5⟩ := r3 c3
        have hp := zx_lt hv' hl2
        have ct : ∀ j, zct n x w j v = (if v = j then w v * (x.2.2.2 - x.2.2.1) else 0) + (if zx n x.2.1 v = j then w v * x.2.2.1 else 0) := fun j => if_pos c3
        have pm : h1 148 y.toNat * (h1 114 x4.toNat - h1 113 x4.toNat) = ((w v * (x.2.2.2 - x.2.2.1) : Nat) : Int) := by
          rw [ey, w1, r4, r5, show ((x.2.2.2 : Nat) : Int) - (x.2.2.1 : Nat) = ((x.2.2.2 - x.2.2.1 : Nat) : Int) by omega, Int.natCast_mul]
        have b1 : zsu (zct n x w v) v + w v * (x.2.2.2 - x.2.2.1) ≤ 1099511627776 := by
          have a1 := le v hv'
          rw [es, ct, if_pos rfl] at a1
          omega
        refine sg_288_92 F1 (fun a => by omega) (fun _ => by omega) (fun _ _ => hL) (fun _ _ a => absurd (by omega) a) (fun _ _ _ => by omega) (fun _ _ _ => by rw [pm]; omega) (fun _ _ _ => by rw [pm, ey, B v hv']; omega) (fun _ _ _ => ?_) (fun _ a => absurd a z0) (fun _ a => absurd a z0)
        rw [pm, ey, B v hv']
        have f9 : zfr [149] h (zup h1 149 v ((zsu (zct n x w v) v : Int) + ((w v * (x.2.2.2 - x.2.2.1) : Nat) : Int))) := fr.up (by simp)
        have B9 : ∀ j, j < zfac n → zup h1 149 v ((zsu (zct n x w v) v : Int) + ((w v * (x.2.2.2 - x.2.2.1) : Nat) : Int)) 149 j = ((zsu (zct n x w j) v + (if v = j then w v * (x.2.2.2 - x.2.2.1) else 0) : Nat) : Int) := fun j hj => by
          by_cases c : j = v
          · rw [c, zup_eq, if_pos rfl]; omega
          · rw [zup_k c, if_neg (fun z => c z.symm), B j hj, Nat.add_zero]
        have F9 : zFin (zup h1 149 v ((zsu (zct n x w v) v : Int) + ((w v * (x.2.2.2 - x.2.2.1) : Nat) : Int))) := F1.upA zfa_149
        have s9 : ∀ c, c ≠ 149 → zup h1 149 v ((zsu (zct n x w v) v : Int) + ((w v * (x.2.2.2 - x.2.2.1) : Nat) : Int)) c = h1 c := fun c hc => funext fun j => zup_c hc
        generalize zup h1 149 v ((zsu (zct n x w v) v : Int) + ((w v * (x.2.2.2 - x.2.2.1) : Nat) : Int)) = G at *
        have MOG := MO.z (f9.mono (by simp) : zfr [148, 149] h G)
        refine cm_266 (x := x) (b := true) F9 MOG hl.1.2 hv' hl2 hk4 hy r1 r2 (fun _ => ⟨fun z => absurd z (by decide), fun z => absurd z (by decide)⟩) ?_
        have et : zst n x true v = zx n x.2.1 v := by
          unfold zst; rw [if_neg (by omega), if_neg (by omega), if_neg (by omega)]; rfl
        rw [et]
        have g1 : G 111 x4.toNat = 3 := by rw [s9 111 (by decide)]; omega
        have pm2 : G 148 y.toNat * G 113 x4.toNat = ((w v * x.2.2.1 : Nat) : Int) := by
          rw [s9 148 (by decide), s9 113 (by decide), ey, w1, r4, Int.natCast_mul]
        have b2 : (zsu (zct n x w (zx n x.2.1 v)) v + (if v = zx n x.2.1 v then w v * (x.2.2.2 - x.2.2.1) else 0)) + w v * x.2.2.1 ≤ 1099511627776 := by
          have a1 := le (zx n x.2.1 v) hp
          rw [es, ct, if_pos (rfl : zx n x.2.1 v = zx n x.2.1 v)] at a1
          omega
        have Bp := B9 _ hp
        refine sg_288_186c F9 (by omega) hL (fun a => absurd g1 a) (fun a => absurd g1 a) (fun a => absurd g1 a) (fun a => absurd g1 a) (fun _ => by omega) (fun _ => by rw [pm2]; omega) (fun _ => by rw [pm2, Int.toNat_natCast, Bp]; omega) (fun _ => by omega) (fun _ => ?_)
        rw [pm2, Int.toNat_natCast, Bp]
        refine ih (v + 1) _ _ (by omega) (by omega) (by omega) (F9.upA zfa_149) (f9.up (by simp)) fun j hj => ?_
        rw [es, ct]
        by_cases c : j = zx n x.2.1 v
        · rw [← c] at *
          rw [zup_eq, if_pos (rfl : j = j)]; omega
        · rw [zup_k c, B9 j hj, if_neg (fun z : zx n x.2.1 v = j => c z.symm)]; omega
      · have hp := zst_lt (b := true) hl.1.2 hv' hl2 (x := x)
        have ct : ∀ j, zct n x w j v = if zst n x true v = j then w v else 0 := fun j => if_neg c3
        have r11 : ¬ h1 111 x4.toNat = 3 := by omega
        refine sg_288_92 F1 (fun a => by omega) (fun _ => by omega) (fun _ _ => hL) (fun _ _ _ => ?_) (fun _ _ a => absurd a r11) (fun _ _ a => absurd a r11) (fun _ _ a => absurd a r11) (fun _ _ a => absurd a r11) (fun _ a => absurd a z0) (fun _ a => absurd a z0)
        refine cm_266 (x := x) (b := true) F1 MO1 hl.1.2 hv' hl2 hk4 hy r1 r2 (fun _ => ⟨fun z => absurd z (by decide), fun z => absurd z (by decide)⟩) ?_
        have Bp := B _ hp
        have b2 : zsu (zct n x w (zst n x true v)) v + w v ≤ 1099511627776 := by
          have a1 := le _ hp
          rw [es, ct, if_pos rfl] at a1
          exact a1
        refine sg_288_186c F1 (by omega) hL (fun _ => by omega) (fun _ => by rw [ey, w1, Int.toNat_natCast, Bp]; omega) (fun _ => by omega) (fun _ => ?_) (fun a => absurd a r11) (fun a => absurd a r11) (fun a => absurd a r11) (fun a => absurd a r11) (fun a => absurd a r11)
        rw [ey, w1, Int.toNat_natCast, Bp]
        refine ih (v + 1) _ _ (by omega) (by omega) (by omega) (F1.upA zfa_149) (fr.up (by simp)) fun j hj => ?_
        rw [es, ct]
        by_cases c : j = zst n x true v
        · rw [← c] at *
          rw [zup_eq, if_pos (rfl : j = j)]; omega
        · rw [zup_k c, B j hj, if_neg (fun z : zst n x true v = j => c z.symm)]; omega
  -- none yet
  have zero : ∀ (q v : Nat) (h1 : zHP) (y : Int), zfac n - v = q → v ≤ zfac n → y = (v : Int) → zFin h1 → zfr [149] h h1 → (∀ j, j < v → h1 149 j = 0) → zAt X 288 66 0 0 [some (zR 108), some (zI t), none, some (zI x3), some (zI x4), some (zI y)] [] zSHc h1 (fun v sh' h' => sh' = zSHc ∧ K v h') := by
    intro q
    induction q with
    | zero =>
      intro v h1 y hq hv hy F1 fr B
      have e := e39 h1 (fr.mono (by simp))
      exact sg_288_66 F1 (fun _ => forth _ 0 h1 0 rfl (by omega) rfl F1 fr fun j hj => by rw [B j (by omega)]; rfl) (fun a => by omega) (fun a => by omega) (fun a => by omega)
    | succ q ih =>
      intro v h1 y hq hv hy F1 fr B
      have e := e39 h1 (fr.mono (by simp))
      refine sg_288_66 F1 (fun a => by omega) (fun _ => by omega) (fun _ => by omega) (fun _ => ?_)
      refine ih (v + 1) _ _ (by omega) (by omega) (by omega) (F1.upA zfa_149) (fr.up (by simp)) fun j hj => ?_
      by_cases c : j = v
      · rw [c, show y.toNat = v by omega, zup_eq]
      · rw [zup_k (by omega)]; exact B j (by omega)
  exact zero _ 0 h 0 rfl (by omega) rfl F zfr.rfl fun j hj => by omega
end
