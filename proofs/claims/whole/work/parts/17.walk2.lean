/-! THE JDK'S METHODS -/
section
theorem zne0 {a : Nat} (h : Nat.blt 0 a = true) : zicmp Jvm.ClassFile.Cond.ne (a : Int) 0 := fun e => by
  have := Nat.blt_eq.mp h
  have e : (a : Int) = 0 := e
  omega
variable {X : List Int} {sh : zSH} {h : zHP} {K : Option zAV → zHP → Prop}
theorem zj8 {j : Nat} (hj : j < 8) : j = 0 ∨ j = 1 ∨ j = 2 ∨ j = 3 ∨ j = 4 ∨ j = 5 ∨ j = 6 ∨ j = 7 := by omega
theorem zp_coder {j : Nat} (hj : j < 8) (k : K (some (zI 0)) h) : zKs X 334 [zR (1100 + j)] sh h K := by
  rcases zj8 hj with e | e | e | e | e | e | e | e <;> subst e <;>
    exact zAt.go (zAt.go ⟨fun z => absurd (show (1 : Int) = 0 from z) (by decide), fun _ => zAt.go (zAt.go ⟨rfl, zAt.go (zAt.go ⟨⟨show (-128 : Int) ≤ 0 by decide, show (0 : Int) ≤ 127 by decide⟩, rfl, k⟩)⟩)⟩)
theorem zp_latin {j : Nat} (hj : j < 8) (k : K (some (zI 1)) h) : zKs X 335 [zR (1100 + j)] sh h K := by
  rcases zj8 hj with e | e | e | e | e | e | e | e <;> subst e <;>
    exact zAt.go (zAt.go ⟨fun z => absurd (show (1 : Int) = 0 from z) (by decide), fun _ => zAt.go (zAt.go ⟨rfl, zAt.go ⟨fun z => absurd (rfl : (0 : Int) = 0) z, fun _ => zAt.go (zAt.go (zAt.go ⟨Or.inr rfl, rfl, k⟩))⟩⟩)⟩)
theorem zp_length {j : Nat} (hj : j < 8) (k : K (some (zI ((zStr.getD j []).length : Int))) h) : zKs X 331 [zR (1100 + j)] sh h K := by
  rcases zj8 hj with e | e | e | e | e | e | e | e <;> subst e <;>
    exact zAt.go (zAt.go ⟨rfl, Or.inl ⟨_, rfl, zAt.go ⟨Nat.le_of_ble_eq_true rfl, zAt.go (zAt.go (zcall1 (r1 := 334) rfl rfl ⟨Nat.le_of_ble_eq_true rfl, Nat.le_of_ble_eq_true rfl, Nat.le_of_ble_eq_true rfl⟩ rfl rfl rfl rfl (zp_coder (by decide) (zAt.go (zAt.go ⟨trivial, rfl, k⟩)))))⟩⟩⟩)
theorem zp_isEmpty {j : Nat} (hj : j < 8) (k : K (some (zI (if (zStr.getD j []).length = 0 then 1 else 0))) h) : zKs X 332 [zR (1100 + j)] sh h K := by
  rcases zj8 hj with e | e | e | e | e | e | e | e <;> subst e
  · exact zAt.go (zAt.go ⟨rfl, Or.inl ⟨_, rfl, zAt.go ⟨Nat.le_of_ble_eq_true rfl, zAt.go ⟨fun z => absurd (rfl : (0 : Int) = 0) z, fun _ => zAt.go (zAt.go (zAt.go ⟨Or.inr rfl, rfl, k⟩))⟩⟩⟩⟩)
  all_goals exact zAt.go (zAt.go ⟨rfl, Or.inl ⟨_, rfl, zAt.go ⟨Nat.le_of_ble_eq_true rfl, zAt.go ⟨fun _ => zAt.go (zAt.go ⟨Or.inl rfl, rfl, k⟩), fun z => absurd (zne0 rfl) z⟩⟩⟩⟩)
theorem zp_pchk {k n : Int} (h0 : 0 ≤ k) (h1 : k < n) (q : K (some (zI k)) h) : zKs X 340 [zI k, zI n, zR 1002] sh h K :=
  zAt.go (zAt.go ⟨fun z => absurd z (Int.not_lt.mpr h0), fun _ => zAt.go (zAt.go (zAt.go ⟨fun _ => zAt.go (zAt.go ⟨trivial, rfl, q⟩), fun z => absurd h1 z⟩))⟩)
theorem zp_chk {k n : Int} (h0 : 0 ≤ k) (h1 : k < n) (q : K none h) : zKs X 336 [zI k, zI n] sh h K :=
  zAt.go (zAt.go (zAt.go (zAt.go (zcall1 (r1 := 340) rfl rfl ⟨Nat.le_of_ble_eq_true rfl, Nat.le_of_ble_eq_true rfl, Nat.le_of_ble_eq_true rfl⟩ trivial rfl rfl rfl (zp_pchk h0 h1 (zAt.go (zAt.go ⟨rfl, q⟩)))))))
theorem zStr_7 {j : Nat} (hj : j < 8) : ∀ x ∈ zStr.getD j [], 0 ≤ x ∧ x < 128 := by
  have h : ∀ l ∈ zStr, ∀ x ∈ l, 0 ≤ x ∧ x < 128 := by decide +kernel
  intro x hx
  rw [List.getD_eq_getElem?_getD] at hx
  cases e : zStr[j]? with
  | none => rw [e] at hx; cases hx
  | some l => rw [e] at hx; exact h l (List.mem_of_getElem? e) x hx
theorem z255 {x : Int} (h : 0 ≤ x ∧ x < 128) : (Int32.ofInt x &&& Int32.ofInt 255).toInt % 65536 = x := by
  have key : ∀ n : Nat, n < 128 → (Int32.ofInt (n : Int) &&& Int32.ofInt 255).toInt % 65536 = (n : Int) := by decide +kernel
  have := key x.toNat (by omega)
  rw [Int.toNat_of_nonneg h.1] at this
  exact this
theorem zp_l1 {j : Nat} {k : Int} (hj : j < 8) (h0 : 0 ≤ k) (h1 : k < ((zStr.getD j []).length : Int)) (q : K (some (zI ((zStr.getD j []).getD k.toNat 0))) h) : zKs X 337 [zR (1200 + j), zI k] sh h K := by
  have e7 : 0 ≤ (zStr.getD j []).getD k.toNat 0 ∧ (zStr.getD j []).getD k.toNat 0 < 128 := zgetD_ok (P := fun x => 0 ≤ x ∧ x < 128) (zStr_7 hj) ⟨by decide, by decide⟩ _
  have e8 := z255 e7
  rcases zj8 hj with e | e | e | e | e | e | e | e <;> subst e <;>
    exact zAt.go (zAt.go (zAt.go ⟨Nat.le_of_ble_eq_true rfl, zAt.go (zcall1 (r1 := 336) rfl rfl ⟨Nat.le_of_ble_eq_true rfl, Nat.le_of_ble_eq_true rfl, Nat.le_of_ble_eq_true rfl⟩ trivial rfl rfl rfl (zp_chk h0 h1 (zAt.go (zAt.go (zAt.go ⟨Or.inl rfl, h0, h1, zAt.go (zAt.go (zAt.go (zcI e8 (zAt.go ⟨⟨e7.1, by have := e7.2; omega⟩, rfl, q⟩))))⟩)))))⟩))
theorem zp_charAt {j : Nat} {k : Int} (hj : j < 8) (h0 : 0 ≤ k) (h1 : k < ((zStr.getD j []).length : Int)) (q : K (some (zI ((zStr.getD j []).getD k.toNat 0))) h) : zKs X 333 [zR (1100 + j), zI k] sh h K := by
  have e7 : 0 ≤ (zStr.getD j []).getD k.toNat 0 ∧ (zStr.getD j []).getD k.toNat 0 < 128 := zgetD_ok (P := fun x => 0 ≤ x ∧ x < 128) (zStr_7 hj) ⟨by decide, by decide⟩ _
  rcases zj8 hj with e | e | e | e | e | e | e | e <;> subst e <;>
    exact zAt.go (zAt.go (zcall1 (r1 := 335) rfl rfl ⟨Nat.le_of_ble_eq_true rfl, Nat.le_of_ble_eq_true rfl, Nat.le_of_ble_eq_true rfl⟩ rfl rfl rfl rfl (zp_latin (by decide) (zAt.go ⟨fun z => absurd (show (1 : Int) = 0 from z) (by decide), fun _ => zAt.go (zAt.go ⟨rfl, Or.inl ⟨_, rfl, zAt.go (zAt.go (zcall1 (r1 := 337) rfl rfl ⟨Nat.le_of_ble_eq_true rfl, Nat.le_of_ble_eq_true rfl, Nat.le_of_ble_eq_true rfl⟩ trivial rfl rfl rfl (zp_l1 (by decide) h0 h1 (zAt.go ⟨⟨e7.1, by have := e7.2; omega⟩, rfl, q⟩))))⟩⟩)⟩))))
/-- a row filled up to n -/
def zfill (h : zHP) (a n : Nat) (v : Int) : zHP := fun b j => if b = a then (if j < n then v else h b j) else h b j
theorem zfill_0 {a : Nat} {v : Int} : zfill h a 0 v = h := by
  funext b j
  unfold zfill
  by_cases e : b = a <;> simp [e]
theorem zfill_s {a n : Nat} {v : Int} : zup (zfill h a n v) a n v = zfill h a (n + 1) v := by
  funext b j
  unfold zup zfill
  by_cases e : b = a
  · simp only [if_pos e]
    by_cases e2 : j = n
    · rw [if_pos e2, if_pos (by omega)]
    · rw [if_neg e2]
      by_cases e3 : j < n
      · rw [if_pos e3, if_pos (by omega)]
      · rw [if_neg e3, if_neg (by omega)]
  · simp only [if_neg e]
theorem zp_fillI {a n : Nat} {v : Int} (ha : a < 1000) (hs : zsh X sh a = (0, n)) (hn : n ≤ 60000) (q : K none (zfill h a n v)) : zKs X 339 [zR a, zI v] sh h K := by
  have loop : ∀ (m i : Nat), n - i = m → i ≤ n → zAt X 339 5 0 0 [some (zR a), some (zI v), some (zI (i : Int)), some (zI (n : Int))] [] sh (zfill h a i v) (fun v sh' h' => sh' = sh ∧ K v h') := by
    intro m
    induction m with
    | zero =>
      intro i hm hi
      have e : i = n := by omega
      subst e
      exact zAt.go (zAt.go (zAt.go ⟨fun _ => zAt.go ⟨rfl, q⟩, fun z => absurd (Int.le_refl _) z⟩))
    | succ m ih =>
      intro i hm hi
      refine zAt.go (zAt.go (zAt.go ⟨fun z => absurd z (by show ¬ (n : Int) ≤ (i : Int); omega), fun _ => zAt.go (zAt.go (zAt.go (zAt.go ⟨ha, by rw [hs], by show 0 ≤ (i : Int); omega, by rw [hs]; show (i : Int) < (n : Int); omega, ?_⟩)))⟩))
      rw [Int.toNat_natCast, zfill_s]
      exact zAt.go ⟨Nat.le_of_ble_eq_true rfl, zcN (F := fun w => [some (zR a), some (zI v), some (zI w), some (zI (n : Int))]) (zw_id (by omega) (by omega)) (zAt.go (ih (i + 1) (by omega) (by omega)))⟩
  refine zAt.go (zAt.go ⟨Nat.le_of_ble_eq_true rfl, zAt.go (zAt.go ⟨by rw [hs]; exact Nat.le_of_ble_eq_true rfl, zAt.go ⟨Nat.le_of_ble_eq_true rfl, ?_⟩⟩)⟩)
  rw [hs]
  have := loop n 0 (by omega) (by omega)
  rw [zfill_0] at this
  exact this
theorem zp_fillL {a n : Nat} {v : Int} (ha : a < 1000) (hs : zsh X sh a = (1, n)) (hn : n ≤ 60000) (q : K none (zfill h a n v)) : zKs X 338 [zR a, zL v] sh h K := by
  have loop : ∀ (m i : Nat), n - i = m → i ≤ n → zAt X 338 6 0 0 [some (zR a), some (zL v), none, some (zI (i : Int)), some (zI (n : Int))] [] sh (zfill h a i v) (fun v sh' h' => sh' = sh ∧ K v h') := by
    intro m
    induction m with
    | zero =>
      intro i hm hi
      have e : i = n := by omega
      subst e
      exact zAt.go (zAt.go (zAt.go ⟨fun _ => zAt.go ⟨rfl, q⟩, fun z => absurd (Int.le_refl _) z⟩))
    | succ m ih =>
      intro i hm hi
      refine zAt.go (zAt.go (zAt.go ⟨fun z => absurd z (by show ¬ (n : Int) ≤ (i : Int); omega), fun _ => zAt.go (zAt.go (zAt.go (zAt.go ⟨ha, by rw [hs], by show 0 ≤ (i : Int); omega, by rw [hs]; show (i : Int) < (n : Int); omega, ?_⟩)))⟩))
      rw [Int.toNat_natCast, zfill_s]
      exact zAt.go ⟨Nat.le_of_ble_eq_true rfl, zcN (F := fun w => [some (zR a), some (zL v), none, some (zI w), some (zI (n : Int))]) (zw_id (by omega) (by omega)) (zAt.go (ih (i + 1) (by omega) (by omega)))⟩
  refine zAt.go (zAt.go ⟨Nat.le_of_ble_eq_true rfl, zAt.go (zAt.go ⟨by rw [hs]; exact Nat.le_of_ble_eq_true rfl, zAt.go ⟨Nat.le_of_ble_eq_true rfl, ?_⟩⟩)⟩)
  rw [hs]
  have := loop n 0 (by omega) (by omega)
  rw [zfill_0] at this
  exact this
end
