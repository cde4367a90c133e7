/-! THE LAW, FROM ITS START -/
abbrev zH0 (h : zHP) : zHP := hi_108 (zborn (hi_0 (zborn h 11 0)) 12 108)
def zF0b (h : zHP) : Bool := zfinL.all fun e => decide (zH0 h e.1 e.2.1 = e.2.2)
set_option maxRecDepth 100000 in
theorem zH0_b {h : zHP} : zF0b h = true := rfl
theorem zH0_fin {h : zHP} : zFin (zH0 h) := fun e he => of_decide_eq_true (List.all_eq_true.mp zH0_b e he)
def zW0b (h : zHP) : Bool := (List.range 10).all fun j => decide (zH0 h 70 j = (zwcL.getD j 0 : Nat) ∧ zH0 h 71 j = zwkL.getD j 0)
set_option maxRecDepth 100000 in
theorem zW0_b {h : zHP} : zW0b h = true := rfl
theorem zH0_w {h : zHP} : zWd (zH0 h) := fun j hj => of_decide_eq_true (List.all_eq_true.mp zW0_b j (List.mem_range.mpr hj))
def zR0b (h : zHP) : Bool := (List.range 8).all fun j => decide (zH0 h 79 j = ((80 + 3 * j : Nat) : Int))
set_option maxRecDepth 100000 in
theorem zR0_b {h : zHP} : zR0b h = true := rfl
theorem zH0_r {h : zHP} : ∀ p, p < 8 → zH0 h 79 p = ((80 + 3 * p : Nat) : Int) := fun j hj => of_decide_eq_true (List.all_eq_true.mp zR0_b j (List.mem_range.mpr hj))
def zT0b (h : zHP) : Bool := (List.range 6).all fun j => decide (zH0 h 5 j = ((6 + 3 * j : Nat) : Int))
set_option maxRecDepth 100000 in
theorem zT0_b {h : zHP} : zT0b h = true := rfl
theorem zH0_t {h : zHP} : ∀ p, p < 6 → zH0 h 5 p = ((6 + 3 * p : Nat) : Int) := fun j hj => of_decide_eq_true (List.all_eq_true.mp zT0_b j (List.mem_range.mpr hj))
def zC0L : List (Nat × Nat × Int) := [(1, 1, 0), (3, 2, 0), (0, 12, 0), (0, 13, 0), (24, 8, 0), (34, 1, 35), (34, 2, 36), (34, 3, 37), (34, 4, 38), (34, 9, 0), (41, 1, 42), (41, 2, 43), (41, 3, 44), (41, 4, 45), (41, 9, 0), (28, 6, 0), (40, 10, 0), (40, 9, 0), (68, 6, 0), (108, 0, 0), (108, 38, 0), (108, 7, 0), (108, 12, 0), (0, 14, -1), (108, 21, -1)]
def zC0b (h : zHP) : Bool := zC0L.all fun e => decide (zH0 h e.1 e.2.1 = e.2.2)
set_option maxRecDepth 100000 in
theorem zC0_b {h : zHP} : zC0b h = true := rfl
theorem zH0_c {h : zHP} {n a k : Nat} {v : Int} (e : zC0L[n]? = some (a, k, v)) : zH0 h a k = v := of_decide_eq_true (List.all_eq_true.mp zC0_b (a, k, v) (List.mem_of_getElem? e))
def zA0 : Nat → Nat × Nat × zel := fun _ => (0, 0, fun _ => (0, 0, 0, 0))
def zg0 : Nat → Int × Int × Int × Int := fun _ => (0, 0, 0, 0)
theorem zH0_inv {h : zHP} : zInv 0 (zH0 h) := by
  have F := zH0_fin (h := h)
  have w := zH0_w (h := h)
  have r := zH0_r (h := h)
  have t := zH0_t (h := h)
  have c0 : zH0 h 1 1 = 0 := zH0_c (n := 0) rfl
  have c1 : zH0 h 3 2 = 0 := zH0_c (n := 1) rfl
  have c2 : zH0 h 0 12 = 0 := zH0_c (n := 2) rfl
  have c3 : zH0 h 0 13 = 0 := zH0_c (n := 3) rfl
  have c4 : zH0 h 24 8 = 0 := zH0_c (n := 4) rfl
  have d1 : zH0 h 34 1 = 35 := zH0_c (n := 5) rfl
  have d2 : zH0 h 34 2 = 36 := zH0_c (n := 6) rfl
  have d3 : zH0 h 34 3 = 37 := zH0_c (n := 7) rfl
  have d4 : zH0 h 34 4 = 38 := zH0_c (n := 8) rfl
  have d9 : zH0 h 34 9 = 0 := zH0_c (n := 9) rfl
  have f1 : zH0 h 41 1 = 42 := zH0_c (n := 10) rfl
  have f2 : zH0 h 41 2 = 43 := zH0_c (n := 11) rfl
  have f3 : zH0 h 41 3 = 44 := zH0_c (n := 12) rfl
  have f4 : zH0 h 41 4 = 45 := zH0_c (n := 13) rfl
  have f9 : zH0 h 41 9 = 0 := zH0_c (n := 14) rfl
  have c5 : zH0 h 28 6 = 0 := zH0_c (n := 15) rfl
  have c6 : zH0 h 40 10 = 0 := zH0_c (n := 16) rfl
  have c7 : zH0 h 40 9 = 0 := zH0_c (n := 17) rfl
  have c8 : zH0 h 68 6 = 0 := zH0_c (n := 18) rfl
  have m0 : zH0 h 108 0 = 0 := zH0_c (n := 19) rfl
  have m1 : zH0 h 108 38 = 0 := zH0_c (n := 20) rfl
  have m2 : zH0 h 108 7 = 0 := zH0_c (n := 21) rfl
  have m3 : zH0 h 108 12 = 0 := zH0_c (n := 22) rfl
  have p0 : zH0 h 0 14 = -1 := zH0_c (n := 23) rfl
  have p1 : zH0 h 108 21 = -1 := zH0_c (n := 24) rfl
  generalize zH0 h = H at *
  refine ⟨0, 0, zA0, 0, zg0, 0, fun _ => 0, ⟨F, ⟨⟨0, c0, Or.inl rfl, by decide, fun j o a b => by omega⟩, ⟨0, c1, by decide, fun o ho => absurd ho (Nat.not_lt_zero _)⟩, ⟨c2, by decide, c3, t, fun u hu => absurd hu (Nat.not_lt_zero _), fun u v hu => absurd hu (Nat.not_lt_zero _)⟩, Or.inl c4, ⟨⟨35, 36, 37, 38, ⟨Or.inl ⟨rfl, rfl⟩, Or.inl ⟨rfl, rfl⟩⟩, d1, d2, d3, d4⟩, by rw [d9]; exact Int.le_refl _, fun u hu => absurd hu (Nat.not_lt_zero _)⟩, ⟨⟨42, 43, 44, 45, ⟨Or.inl ⟨rfl, rfl⟩, Or.inl ⟨rfl, rfl⟩⟩, f1, f2, f3, f4⟩, by rw [f9]; exact Int.le_refl _, fun u hu => absurd hu (Nat.not_lt_zero _)⟩, ⟨by rw [c5]; exact Int.le_refl _, fun u hu => absurd hu (Nat.not_lt_zero _)⟩, ⟨by rw [c6]; exact Int.le_refl _, fun u hu => absurd hu (Nat.not_lt_zero _)⟩, ⟨c7, by decide, fun i hi => absurd hi (Nat.not_lt_zero _)⟩, ⟨c8, by decide, fun i hi => absurd hi (Nat.not_lt_zero _)⟩, w, r⟩, ⟨⟨m0, by decide, fun u hu => absurd hu (Nat.not_lt_zero _)⟩, Or.inl m1, ⟨m2, by decide, fun i hi => absurd hi (Nat.not_lt_zero _)⟩, ⟨m3, by decide, fun i hi => absurd hi (Nat.not_lt_zero _)⟩⟩, p0.trans p1.symm⟩, ⟨fun i hi => absurd hi (Nat.not_lt_zero _), fun i hi => absurd hi (Nat.not_lt_zero _), fun i hi => absurd hi (Nat.not_lt_zero _)⟩, Nat.le_refl _⟩
theorem zmain : ∀ X : List Int, X.length ≤ 3072 → (∀ j, z32 (X.getD j 0)) → zAt X 342 0 600000 7302250 [some (zR 1900), none, none, none] [] [] (fun _ _ => 0) (fun v _ _ => v = some (zI 1)) := by
  intro X hL hX
  refine sl_0 ?_
  have go := zlaw_loop (X := X) (I := zInv) (Q := fun v _ _ => v = some (zI 1)) hX hL (fun k h J => by
    obtain ⟨N, s, A, G, g, T, tb, I, W, hs⟩ := J
    exact ⟨N, s, A, G, g, T, tb, I, W, by omega⟩) (fun k hk => zop_158 k) (fun k hk => zop_159 k) (fun k hk => zop_160 k hk) (fun k hk => zop_161 k) (fun k hk => zop_162 k) (fun k hk => zop_163 k hk) (fun k hk => zop_164 k hk) (fun k hk => zop_165 k hk) (fun k hk => zop_166 k) (fun k hk => zop_167 k) (fun k hk => zop_168 k) (fun k hk => zop_169 k) (fun k hk => zop_170 k) (fun k hk => zop_171 k) (fun k hk => zop_172 k) (fun k hk => zop_173 k) (fun k hk => zop_174 k) (fun k hk => zop_175 k) (fun k hk => zop_176 k) (fun k hk => zop_177 k) (fun k hk => zop_178 k) (fun k hk => zop_179 k) (fun k hk => zop_180 k) (fun k hk => zop_181 k) (fun k hk => zop_182 k) (fun k hk => zop_183 k) (fun k hk => zop_184 k) (fun k hk => zop_185 k) (fun k hk => zop_186 k) (fun k hk => zop_187 k) (fun k hk => zop_188 k) (fun k hk => zop_189 k) (fun k hk => zop_190 k) (fun k hk => zop_191 k) (fun k hk => zop_192 k) (fun k hk => zop_193 k) (fun k hk => zop_194 k) (fun k hk => zop_195 k) (fun k hk => zop_196 k) (fun k hk => zop_197 k) (fun k hk => zop_198 k) (fun k hk => zop_199 k) (fun k hk => zop_200 k) (fun k hk => zop_201 k) (fun _ => rfl) _ 0 0 (zH0 fun _ _ => 0) (Nat.le_refl _) rfl zH0_inv
  exact go
