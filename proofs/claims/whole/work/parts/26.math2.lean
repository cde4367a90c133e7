/-! EXCHANGES AS ROWS, PLACES, THE INVERSE -/
theorem zswp_perm : ∀ (k : Nat) (l : List Nat), (zswp k l).Perm l
  | 0, [] => List.Perm.refl _
  | 0, [_] => List.Perm.refl _
  | 0, a :: b :: r => List.Perm.swap a b r
  | _ + 1, [] => List.Perm.refl _
  | k + 1, a :: r => List.Perm.cons a (zswp_perm k r)
theorem zswp_len (k : Nat) (l : List Nat) : (zswp k l).length = l.length := (zswp_perm k l).length_eq
theorem zswp_map (d : Nat) : ∀ (k : Nat) (l : List Nat), zswp k (zmpd d l) = zmpd d (zswp k l)
  | 0, [] => rfl
  | 0, [_] => rfl
  | 0, _ :: _ :: _ => rfl
  | _ + 1, [] => rfl
  | k + 1, a :: r => by
    show _ :: zswp k (zmpd d r) = _ :: zmpd d (zswp k r)
    rw [zswp_map d k r]
theorem zswp_get (d : Nat) : ∀ (k : Nat) (l : List Nat) (i : Nat), k + 1 < l.length → (zswp k l).getD i d = l.getD (if i = k then k + 1 else if i = k + 1 then k else i) d
  | 0, a :: b :: r, 0, _ => rfl
  | 0, a :: b :: r, 1, _ => rfl
  | 0, a :: b :: r, i + 2, _ => rfl
  | 0, [], _, h => by simp at h
  | 0, [_], _, h => by simp at h
  | k + 1, [], _, h => by simp at h
  | k + 1, a :: r, 0, _ => by
    rw [if_neg (by omega), if_neg (by omega)]; rfl
  | k + 1, a :: r, i + 1, h => by
    have h2 : k + 1 < r.length := Nat.lt_of_succ_lt_succ h
    have e : (zswp (k + 1) (a :: r)).getD (i + 1) d = (zswp k r).getD i d := rfl
    rw [e, zswp_get d k r i h2]
    by_cases h1 : i = k
    · rw [if_pos h1, if_pos (by omega)]; rfl
    · by_cases h3 : i = k + 1
      · rw [if_neg h1, if_pos h3, if_neg (by omega), if_pos (by omega)]; rfl
      · rw [if_neg h1, if_neg h3, if_neg (by omega), if_neg (by omega)]; rfl
/-- what is on leg i; the leg of v -/
def zr (n o i : Nat) : Nat := (zrw n o).getD i 0
def zp (n o v : Nat) : Nat := (zrw n o).idxOf v
def zin (n o : Nat) : Nat := zlnum ((List.range n).map (fun v => zp n o v))
theorem zD_low {n o j : Nat} (hj : j < n) : zD j (o % zfac n) = zD j o := by
  unfold zD
  have hdv : zfac (j + 1) ∣ zfac n := by
    have : ∀ a b : Nat, zfac a ∣ zfac (a + b) := fun a b => by
      induction b with
      | zero => exact Nat.dvd_refl _
      | succ b ih => exact Nat.dvd_trans ih (Nat.dvd_mul_left _ _)
    have := this (j + 1) (n - (j + 1))
    rw [show j + 1 + (n - (j + 1)) = n by omega] at this
    exact this
  obtain ⟨q, hq⟩ := hdv
  have e1 : zfac (j + 1) = (j + 1) * zfac j := rfl
  rw [hq, e1, Nat.mul_comm (j + 1), Nat.mul_assoc, Nat.mod_mul_right_div_self, Nat.mod_mul_right_mod]
theorem zD_top {n o : Nat} (ho : o < zfac (n + 1)) : zD n o = o / zfac n := Nat.mod_eq_of_lt (by have := zdiv_le ho; omega)
/-- the table's exchange is that of the row -/
theorem zx_num : ∀ {n k o : Nat}, k + 2 ≤ n → o < zfac n → zlnum (zswp k (zrw n o)) = zx n k o ∧ (zD (n - 2 - k) o < zD (n - 1 - k) o ↔ zr n o (k + 1) < zr n o k)
  | 0, _, _, h, _ => by omega
  | 1, _, _, h, _ => by omega
  | m + 2, 0, o, _, ho => by
    have hm1 := Nat.mod_lt o (zfac_pos (m + 1))
    have hp := zrw_pm ho
    have ed0 : o / zfac (m + 1) = zD (m + 1) o := (zD_top ho).symm
    have ed1 : o % zfac (m + 1) / zfac m = zD m o := by rw [← zD_low (show m < m + 1 by omega), zD_top hm1]
    have e0 := Nat.div_add_mod o (zfac (m + 1))
    have e1 := Nat.div_add_mod (o % zfac (m + 1)) (zfac m)
    have hz : zlnum (zrw m (o % zfac (m + 1) % zfac m)) = o % zfac (m + 1) % zfac m := zlnum_row (Nat.mod_lt _ (zfac_pos m))
    rw [ed0] at e0
    rw [ed1] at e1
    have hrow : zrw (m + 2) o = zD (m + 1) o :: zmpd (zD (m + 1) o) (zD m o :: zmpd (zD m o) (zrw m (o % zfac (m + 1) % zfac m))) := by
      show o / zfac (m + 1) :: zmpd (o / zfac (m + 1)) (o % zfac (m + 1) / zfac m :: zmpd (o % zfac (m + 1) / zfac m) (zrw m (o % zfac (m + 1) % zfac m))) = _
      rw [ed0, ed1]
    unfold zr
    rw [hrow] at hp ⊢
    generalize hR : zmpd (zD (m + 1) o) (zmpd (zD m o) (zrw m (o % zfac (m + 1) % zfac m))) = R
    have hRn : zlnum R = o % zfac (m + 1) % zfac m := by rw [← hR, zlnum_map, zlnum_map, hz]
    have hRl : R.length = m := by rw [← hR, zmpd_len, zmpd_len, zrw_len]
    have hmp : zmpd (zD (m + 1) o) (zD m o :: zmpd (zD m o) (zrw m (o % zfac (m + 1) % zfac m))) = (if zD (m + 1) o ≤ zD m o then zD m o + 1 else zD m o) :: R := by rw [← hR]; rfl
    rw [hmp] at hp ⊢
    generalize hy : (if zD (m + 1) o ≤ zD m o then zD m o + 1 else zD m o) = y at hp ⊢
    have hp2 : zpm (m + 2) (y :: zD (m + 1) o :: R) := hp.of (List.Perm.swap _ _ _)
    have c1 := hp2.cls1
    have c2 := hp.cls1
    have c3 : zcls (zD (m + 1) o) (y :: R) = zcls (zD (m + 1) o) R + (if y < zD (m + 1) o then 1 else 0) := by
      unfold zcls; rw [List.countP_cons]; simp
    refine ⟨?_, ?_⟩
    · show zcls y (zD (m + 1) o :: R) * zfac (R.length + 1) + (zcls (zD (m + 1) o) R * zfac R.length + zlnum R) = zx (m + 2) 0 o
      have ezx : zx (m + 2) 0 o = zsj m o := rfl
      rw [c1, hRl, hRn, ezx]
      rw [c3] at c2
      by_cases c : zD (m + 1) o ≤ zD m o
      · have g := zsj_le c
        rw [if_pos c] at hy
        rw [if_neg (by omega)] at c2
        apply Int.ofNat.inj
        show ((y * zfac (m + 1) + (zcls (zD (m + 1) o) R * zfac m + o % zfac (m + 1) % zfac m) : Nat) : Int) = ((zsj m o : Nat) : Int)
        have c2' : zcls (zD (m + 1) o) R = zD (m + 1) o := by omega
        rw [g, c2', ← hy]
        generalize zD (m + 1) o = a at *
        generalize zD m o = b at *
        have e0' : (o : Int) = (zfac (m + 1) : Int) * a + ((o % zfac (m + 1) : Nat) : Int) := by rw [← Int.natCast_mul]; omega
        have e1' : ((o % zfac (m + 1) : Nat) : Int) = (zfac m : Int) * b + ((o % zfac (m + 1) % zfac m : Nat) : Int) := by rw [← Int.natCast_mul]; omega
        rw [e0', e1']
        push_cast
        grind
      · have g := zsj_gt (show zD m o < zD (m + 1) o by omega)
        rw [if_neg c] at hy
        rw [if_pos (by omega)] at c2
        apply Int.ofNat.inj
        show ((y * zfac (m + 1) + (zcls (zD (m + 1) o) R * zfac m + o % zfac (m + 1) % zfac m) : Nat) : Int) = ((zsj m o : Nat) : Int)
        have c2' : (zcls (zD (m + 1) o) R : Int) = (zD (m + 1) o : Int) - 1 := by omega
        rw [g]
        push_cast
        rw [c2', ← hy]
        generalize zD (m + 1) o = a at *
        generalize zD m o = b at *
        have e0' : (o : Int) = (zfac (m + 1) : Int) * a + ((o % zfac (m + 1) : Nat) : Int) := by rw [← Int.natCast_mul]; omega
        have e1' : ((o % zfac (m + 1) : Nat) : Int) = (zfac m : Int) * b + ((o % zfac (m + 1) % zfac m : Nat) : Int) := by rw [← Int.natCast_mul]; omega
        rw [e0', e1']
        push_cast
        grind
    · show zD m o < zD (m + 1) o ↔ y < zD (m + 1) o
      split at hy <;> omega
  | n + 1, k + 1, o, hk, ho => by
    have hm := Nat.mod_lt o (zfac_pos n)
    obtain ⟨i1, i2⟩ := zx_num (show k + 2 ≤ n by omega) hm
    have hp := zrw_pm ho
    have hd := zD_top ho
    have e0 := Nat.div_add_mod o (zfac n)
    have l1 : zD (n - 2 - k) (o % zfac n) = zD (n - 2 - k) o := zD_low (by omega)
    have l2 : zD (n - 1 - k) (o % zfac n) = zD (n - 1 - k) o := zD_low (by omega)
    have hrow : zrw (n + 1) o = o / zfac n :: zmpd (o / zfac n) (zrw n (o % zfac n)) := rfl
    have hs : zswp (k + 1) (zrw (n + 1) o) = o / zfac n :: zmpd (o / zfac n) (zswp k (zrw n (o % zfac n))) := by
      rw [hrow]
      show _ :: zswp k (zmpd _ _) = _
      rw [zswp_map]
    have c := (hp.of (zswp_perm (k + 1) _))
    rw [hs] at c
    have c1 := c.cls1
    have en : n + 1 - 2 - (k + 1) = n - 2 - k := by omega
    have en1 : n + 1 - 1 - (k + 1) = n - 1 - k := by omega
    have en2 : n - 2 - k + 1 = n - 1 - k := by omega
    refine ⟨?_, ?_⟩
    · rw [hs]
      show zcls _ _ * zfac (zmpd _ _).length + zlnum (zmpd _ _) = zsj (n + 1 - 2 - (k + 1)) o
      rw [c1, zmpd_len, zswp_len, zrw_len, zlnum_map, i1, en]
      show o / zfac n * zfac n + zsj (n - 2 - k) (o % zfac n) = _
      apply Int.ofNat.inj
      show ((o / zfac n * zfac n + zsj (n - 2 - k) (o % zfac n) : Nat) : Int) = ((zsj (n - 2 - k) o : Nat) : Int)
      rw [Nat.mul_comm] at e0
      by_cases cc : zD (n - 2 - k + 1) o ≤ zD (n - 2 - k) o
      · have cc' : zD (n - 2 - k + 1) (o % zfac n) ≤ zD (n - 2 - k) (o % zfac n) := by rw [l1, en2, l2, ← en2]; exact cc
        have g1 := zsj_le cc
        have g2 := zsj_le cc'
        rw [l1, en2, l2] at g2
        rw [en2] at g1
        rw [g1]
        push_cast at g2 ⊢
        rw [g2]
        have e0' : (o : Int) = ((o / zfac n : Nat) : Int) * (zfac n : Int) + ((o % zfac n : Nat) : Int) := by rw [← Int.natCast_mul]; omega
        push_cast at e0'
        omega
      · have cc1 : zD (n - 2 - k) o < zD (n - 2 - k + 1) o := by omega
        have cc' : zD (n - 2 - k) (o % zfac n) < zD (n - 2 - k + 1) (o % zfac n) := by rw [l1, en2, l2, ← en2]; exact cc1
        have g1 := zsj_gt cc1
        have g2 := zsj_gt cc'
        rw [l1, en2, l2] at g2
        rw [en2] at g1
        rw [g1]
        push_cast at g2 ⊢
        rw [g2]
        have e0' : (o : Int) = ((o / zfac n : Nat) : Int) * (zfac n : Int) + ((o % zfac n : Nat) : Int) := by rw [← Int.natCast_mul]; omega
        push_cast at e0'
        omega
    · rw [en, en1, ← l1, ← l2, i2]
      unfold zr
      rw [hrow]
      have gd : ∀ i, i < n → (o / zfac n :: zmpd (o / zfac n) (zrw n (o % zfac n))).getD (i + 1) 0 = (if o / zfac n ≤ (zrw n (o % zfac n)).getD i 0 then (zrw n (o % zfac n)).getD i 0 + 1 else (zrw n (o % zfac n)).getD i 0) := fun i hi => by
        show (zmpd _ _).getD i 0 = _
        unfold zmpd
        have hl : i < (zrw n (o % zfac n)).length := by rw [zrw_len]; exact hi
        rw [List.getD_eq_getElem?_getD, List.getElem?_map, List.getD_eq_getElem?_getD, List.getElem?_eq_getElem hl]
        rfl
      rw [gd (k + 1) (by omega), gd k (by omega)]
      split <;> split <;> omega
