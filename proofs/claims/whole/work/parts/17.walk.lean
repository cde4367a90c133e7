/-! HOW METHODS ARE WALKED OVER PLACES: the cells that stand behind the two makers, and words for calls -/
/-- the cells behind both makers: kind, length -/
def zSHc : zSH := [(27, 15), (22, 2), (2, 30240), (18, 3), (1, 5040), (5, 6), (17, 6), (0, 200), (0, 9), (17, 6), (0, 200), (0, 9), (17, 6), (0, 200), (0, 9), (17, 6), (0, 200), (0, 9), (17, 6), (0, 200), (0, 9), (17, 6), (0, 200), (0, 9), (26, 10), (1, 800), (0, 800), (0, 800), (23, 7), (4, 200), (0, 8), (0, 64), (0, 1608), (0, 120), (21, 11), (0, 5040), (1, 5040), (0, 5040), (1, 5040), (0, 5040), (19, 12), (21, 11), (0, 5040), (1, 5040), (0, 5040), (1, 5040), (0, 5040), (0, 40), (0, 40), (0, 40), (0, 40), (0, 7), (0, 7), (1, 49), (16, 6), (1, 7), (1, 7), (0, 128), (16, 6), (1, 7), (1, 7), (0, 128), (20, 8), (0, 600), (0, 5), (0, 120), (0, 120), (0, 120), (25, 17), (3, 2000), (1, 10), (0, 10), (0, 400), (1, 400), (0, 400), (24, 16), (17, 6), (0, 200), (0, 9), (5, 8), (17, 6), (0, 200), (0, 9), (17, 6), (0, 200), (0, 9), (17, 6), (0, 200), (0, 9), (17, 6), (0, 200), (0, 9), (17, 6), (0, 200), (0, 9), (17, 6), (0, 200), (0, 9), (17, 6), (0, 200), (0, 9), (17, 6), (0, 200), (0, 9), (1, 8), (0, 4), (0, 4), (0, 4), (28, 60), (0, 6), (0, 6), (0, 1200), (0, 1200), (0, 1200), (0, 1200), (0, 40), (0, 40), (0, 40), (0, 40), (0, 2000), (0, 2001), (0, 2001), (0, 2001), (1, 2001), (1, 8), (4, 8), (0, 8), (0, 9), (0, 1809), (0, 1809), (0, 1809), (0, 1809), (0, 5), (0, 5), (0, 200), (0, 7), (0, 35280), (0, 30240), (0, 30240), (0, 5040), (1, 5040), (0, 7), (0, 21), (0, 200), (0, 49), (0, 16800), (4, 16800), (0, 800), (1, 5040), (1, 5040), (0, 1407), (0, 120), (0, 120), (0, 11), (0, 12)]
/-- fields of cells that are told once -/
def zfinL : List (Nat × Nat × Int) := [(1, 0, 2), (3, 0, 1), (3, 1, 4), (6, 0, 7), (6, 1, 8), (9, 0, 10), (9, 1, 11), (12, 0, 13), (12, 1, 14), (15, 0, 16), (15, 1, 17), (18, 0, 19), (18, 1, 20), (21, 0, 22), (21, 1, 23), (24, 0, 1), (24, 1, 3), (24, 2, 25), (24, 3, 26), (24, 4, 27), (28, 0, 1), (28, 1, 29), (28, 2, 30), (28, 3, 31), (28, 4, 32), (28, 5, 33), (34, 0, 1), (34, 5, 39), (40, 0, 1), (41, 0, 1), (41, 5, 46), (40, 1, 41), (40, 2, 47), (40, 3, 48), (40, 4, 49), (40, 5, 50), (40, 6, 51), (40, 7, 52), (40, 8, 53), (54, 0, 55), (54, 1, 56), (54, 2, 57), (58, 0, 59), (58, 1, 60), (58, 2, 61), (62, 0, 63), (62, 1, 64), (62, 2, 65), (62, 3, 66), (62, 4, 67), (68, 0, 69), (68, 1, 70), (68, 2, 71), (68, 3, 72), (68, 4, 73), (68, 5, 74), (76, 0, 77), (76, 1, 78), (75, 0, 76), (75, 1, 79), (80, 0, 81), (80, 1, 82), (83, 0, 84), (83, 1, 85), (86, 0, 87), (86, 1, 88), (89, 0, 90), (89, 1, 91), (92, 0, 93), (92, 1, 94), (95, 0, 96), (95, 1, 97), (98, 0, 99), (98, 1, 100), (101, 0, 102), (101, 1, 103), (75, 2, 104), (75, 3, 105), (75, 4, 106), (75, 5, 107), (0, 0, 5), (0, 1, 1), (0, 2, 3), (0, 3, 24), (0, 4, 28), (0, 5, 34), (0, 6, 40), (0, 7, 54), (0, 8, 58), (0, 9, 62), (0, 10, 68), (0, 11, 75), (108, 1, 109), (108, 2, 110), (108, 3, 111), (108, 4, 112), (108, 5, 113), (108, 6, 114), (108, 8, 115), (108, 9, 116), (108, 10, 117), (108, 11, 118), (108, 13, 119), (108, 15, 120), (108, 16, 121), (108, 17, 122), (108, 18, 123), (108, 23, 124), (108, 24, 125), (108, 25, 126), (108, 26, 127), (108, 27, 128), (108, 28, 129), (108, 29, 130), (108, 30, 131), (108, 32, 132), (108, 33, 133), (108, 36, 134), (108, 37, 135), (108, 40, 136), (108, 41, 137), (108, 42, 138), (108, 43, 139), (108, 44, 140), (108, 45, 141), (108, 46, 142), (108, 47, 143), (108, 49, 144), (108, 50, 145), (108, 51, 146), (108, 52, 147), (108, 53, 148), (108, 54, 149), (108, 55, 150), (108, 56, 151), (108, 57, 152), (108, 58, 153), (108, 59, 154)]
def zFin (h : zHP) : Prop := ∀ e ∈ zfinL, h e.1 e.2.1 = e.2.2
def zfinN (a k : Nat) : Bool := zfinL.all fun e => !(Nat.beq e.1 a && Nat.beq e.2.1 k)
def zfinA (a : Nat) : Bool := zfinL.all fun e => !(Nat.beq e.1 a)
/-- a row that is no object -/
def zarr (a : Nat) : Prop := zfinA a = true
theorem zFin.g {h : zHP} (F : zFin h) {n a k : Nat} {v : Int} (e : zfinL[n]? = some (a, k, v)) : h a k = v := F (a, k, v) (List.mem_of_getElem? e)
theorem zFin.upG {h : zHP} {a k : Nat} {x : Int} (F : zFin h) (hn : ∀ e ∈ zfinL, ¬ (e.1 = a ∧ e.2.1 = k)) : zFin (zup h a k x) := by
  intro e he
  unfold zup
  by_cases h1 : e.1 = a
  · rw [if_pos h1, if_neg (fun z => hn e he ⟨h1, z⟩)]
    exact F e he
  · rw [if_neg h1]
    exact F e he
theorem zFin.up {h : zHP} {a k : Nat} {x : Int} (F : zFin h) (hn : zfinN a k = true) : zFin (zup h a k x) := F.upG fun e he z => by
  have h1 := List.all_eq_true.mp hn e he
  rw [z.1, z.2, Nat.beq_refl, Nat.beq_refl] at h1
  cases h1
theorem zFin.upA {h : zHP} {a k : Nat} {x : Int} (F : zFin h) (hn : zfinA a = true) : zFin (zup h a k x) := F.upG fun e he z => by
  have h1 := List.all_eq_true.mp hn e he
  rw [z.1, Nat.beq_refl] at h1
  cases h1
theorem zFin.upV {h : zHP} {a k : Nat} {x : Int} (F : zFin h) (hn : zarr a) : zFin (zup h a k x) := F.upA hn
def zLad (o : Nat) : Prop := o = 6 ∨ o = 9 ∨ o = 12 ∨ o = 15 ∨ o = 18 ∨ o = 21 ∨ o = 76 ∨ o = 80 ∨ o = 83 ∨ o = 86 ∨ o = 89 ∨ o = 92 ∨ o = 95 ∨ o = 98 ∨ o = 101
section
variable {X : List Int} {h : zHP} {o : Nat}
theorem zLad.s0 (hp : zLad o) : (zsh X zSHc o).1 = 17 := by
  rcases hp with e | e | e | e | e | e | e | e | e | e | e | e | e | e | e <;> subst e <;> rfl
theorem zLad.l0 (hp : zLad o) : o < 1000 := by
  rcases hp with e | e | e | e | e | e | e | e | e | e | e | e | e | e | e <;> subst e <;> decide
theorem zLad.s1 (hp : zLad o) : zsh X zSHc (o + 1) = (0, 200) := by
  rcases hp with e | e | e | e | e | e | e | e | e | e | e | e | e | e | e <;> subst e <;> rfl
theorem zLad.l1 (hp : zLad o) : o + 1 < 1000 := by
  rcases hp with e | e | e | e | e | e | e | e | e | e | e | e | e | e | e <;> subst e <;> decide
theorem zLad.a1 (hp : zLad o) : zarr (o + 1) := by
  rcases hp with e | e | e | e | e | e | e | e | e | e | e | e | e | e | e <;> subst e <;> (show zfinA _ = true; decide +kernel)
theorem zLad.s2 (hp : zLad o) : zsh X zSHc (o + 2) = (0, 9) := by
  rcases hp with e | e | e | e | e | e | e | e | e | e | e | e | e | e | e <;> subst e <;> rfl
theorem zLad.l2 (hp : zLad o) : o + 2 < 1000 := by
  rcases hp with e | e | e | e | e | e | e | e | e | e | e | e | e | e | e <;> subst e <;> decide
theorem zLad.a2 (hp : zLad o) : zarr (o + 2) := by
  rcases hp with e | e | e | e | e | e | e | e | e | e | e | e | e | e | e <;> subst e <;> (show zfinA _ = true; decide +kernel)
theorem zLad.f0 (F : zFin h) (hp : zLad o) : zrd X h o 0 = ((o + 1 : Nat) : Int) := by
  rcases hp with e | e | e | e | e | e | e | e | e | e | e | e | e | e | e <;> subst e
  · exact F.g (n := 3) rfl
  · exact F.g (n := 5) rfl
  · exact F.g (n := 7) rfl
  · exact F.g (n := 9) rfl
  · exact F.g (n := 11) rfl
  · exact F.g (n := 13) rfl
  · exact F.g (n := 56) rfl
  · exact F.g (n := 60) rfl
  · exact F.g (n := 62) rfl
  · exact F.g (n := 64) rfl
  · exact F.g (n := 66) rfl
  · exact F.g (n := 68) rfl
  · exact F.g (n := 70) rfl
  · exact F.g (n := 72) rfl
  · exact F.g (n := 74) rfl
theorem zLad.f1 (F : zFin h) (hp : zLad o) : zrd X h o 1 = ((o + 2 : Nat) : Int) := by
  rcases hp with e | e | e | e | e | e | e | e | e | e | e | e | e | e | e <;> subst e
  · exact F.g (n := 4) rfl
  · exact F.g (n := 6) rfl
  · exact F.g (n := 8) rfl
  · exact F.g (n := 10) rfl
  · exact F.g (n := 12) rfl
  · exact F.g (n := 14) rfl
  · exact F.g (n := 57) rfl
  · exact F.g (n := 61) rfl
  · exact F.g (n := 63) rfl
  · exact F.g (n := 65) rfl
  · exact F.g (n := 67) rfl
  · exact F.g (n := 69) rfl
  · exact F.g (n := 71) rfl
  · exact F.g (n := 73) rfl
  · exact F.g (n := 75) rfl
theorem zLad.up {k : Nat} {x : Int} (F : zFin h) (hp : zLad o) (hk : (Nat.beq k 2 || Nat.beq k 3 || Nat.beq k 4 || Nat.beq k 5) = true) : zFin (zup h o k x) := by
  simp only [Bool.or_eq_true] at hk
  rcases hp with e | e | e | e | e | e | e | e | e | e | e | e | e | e | e <;> subst e
  all_goals refine F.up ?_
  all_goals (rcases hk with ((hk | hk) | hk) | hk <;> (have := Nat.eq_of_beq_eq_true hk; subst this; rfl))
end
def zOdd (o : Nat) : Prop := o = 34 ∨ o = 41
section
variable {X : List Int} {h : zHP} {o : Nat}
theorem zOdd.s0 (hp : zOdd o) : (zsh X zSHc o).1 = 21 := by
  rcases hp with e | e <;> subst e <;> rfl
theorem zOdd.l0 (hp : zOdd o) : o < 1000 := by
  rcases hp with e | e <;> subst e <;> decide
theorem zOdd.s1 (hp : zOdd o) : zsh X zSHc (o + 1) = (0, 5040) := by
  rcases hp with e | e <;> subst e <;> rfl
theorem zOdd.l1 (hp : zOdd o) : o + 1 < 1000 := by
  rcases hp with e | e <;> subst e <;> decide
theorem zOdd.a1 (hp : zOdd o) : zarr (o + 1) := by
  rcases hp with e | e <;> subst e <;> (show zfinA _ = true; decide +kernel)
theorem zOdd.s2 (hp : zOdd o) : zsh X zSHc (o + 2) = (1, 5040) := by
  rcases hp with e | e <;> subst e <;> rfl
theorem zOdd.l2 (hp : zOdd o) : o + 2 < 1000 := by
  rcases hp with e | e <;> subst e <;> decide
theorem zOdd.a2 (hp : zOdd o) : zarr (o + 2) := by
  rcases hp with e | e <;> subst e <;> (show zfinA _ = true; decide +kernel)
theorem zOdd.s3 (hp : zOdd o) : zsh X zSHc (o + 3) = (0, 5040) := by
  rcases hp with e | e <;> subst e <;> rfl
theorem zOdd.l3 (hp : zOdd o) : o + 3 < 1000 := by
  rcases hp with e | e <;> subst e <;> decide
theorem zOdd.a3 (hp : zOdd o) : zarr (o + 3) := by
  rcases hp with e | e <;> subst e <;> (show zfinA _ = true; decide +kernel)
theorem zOdd.s4 (hp : zOdd o) : zsh X zSHc (o + 4) = (1, 5040) := by
  rcases hp with e | e <;> subst e <;> rfl
theorem zOdd.l4 (hp : zOdd o) : o + 4 < 1000 := by
  rcases hp with e | e <;> subst e <;> decide
theorem zOdd.a4 (hp : zOdd o) : zarr (o + 4) := by
  rcases hp with e | e <;> subst e <;> (show zfinA _ = true; decide +kernel)
theorem zOdd.s5 (hp : zOdd o) : zsh X zSHc (o + 5) = (0, 5040) := by
  rcases hp with e | e <;> subst e <;> rfl
theorem zOdd.l5 (hp : zOdd o) : o + 5 < 1000 := by
  rcases hp with e | e <;> subst e <;> decide
theorem zOdd.a5 (hp : zOdd o) : zarr (o + 5) := by
  rcases hp with e | e <;> subst e <;> (show zfinA _ = true; decide +kernel)
theorem zOdd.f0 (F : zFin h) (hp : zOdd o) : zrd X h o 0 = ((1 : Nat) : Int) := by
  rcases hp with e | e <;> subst e
  · exact F.g (n := 26) rfl
  · exact F.g (n := 29) rfl
theorem zOdd.f5 (F : zFin h) (hp : zOdd o) : zrd X h o 5 = ((o + 5 : Nat) : Int) := by
  rcases hp with e | e <;> subst e
  · exact F.g (n := 27) rfl
  · exact F.g (n := 30) rfl
theorem zOdd.up {k : Nat} {x : Int} (F : zFin h) (hp : zOdd o) (hk : (Nat.beq k 1 || Nat.beq k 2 || Nat.beq k 3 || Nat.beq k 4 || Nat.beq k 6 || Nat.beq k 7 || Nat.beq k 8 || Nat.beq k 9 || Nat.beq k 10) = true) : zFin (zup h o k x) := by
  simp only [Bool.or_eq_true] at hk
  rcases hp with e | e <;> subst e
  all_goals refine F.up ?_
  all_goals (rcases hk with (((((((hk | hk) | hk) | hk) | hk) | hk) | hk) | hk) | hk <;> (have := Nat.eq_of_beq_eq_true hk; subst this; rfl))
end
def zBit (o : Nat) : Prop := o = 54 ∨ o = 58
section
variable {X : List Int} {h : zHP} {o : Nat}
theorem zBit.s0 (hp : zBit o) : (zsh X zSHc o).1 = 16 := by
  rcases hp with e | e <;> subst e <;> rfl
theorem zBit.l0 (hp : zBit o) : o < 1000 := by
  rcases hp with e | e <;> subst e <;> decide
theorem zBit.s1 (hp : zBit o) : zsh X zSHc (o + 1) = (1, 7) := by
  rcases hp with e | e <;> subst e <;> rfl
theorem zBit.l1 (hp : zBit o) : o + 1 < 1000 := by
  rcases hp with e | e <;> subst e <;> decide
theorem zBit.a1 (hp : zBit o) : zarr (o + 1) := by
  rcases hp with e | e <;> subst e <;> (show zfinA _ = true; decide +kernel)
theorem zBit.s2 (hp : zBit o) : zsh X zSHc (o + 2) = (1, 7) := by
  rcases hp with e | e <;> subst e <;> rfl
theorem zBit.l2 (hp : zBit o) : o + 2 < 1000 := by
  rcases hp with e | e <;> subst e <;> decide
theorem zBit.a2 (hp : zBit o) : zarr (o + 2) := by
  rcases hp with e | e <;> subst e <;> (show zfinA _ = true; decide +kernel)
theorem zBit.s3 (hp : zBit o) : zsh X zSHc (o + 3) = (0, 128) := by
  rcases hp with e | e <;> subst e <;> rfl
theorem zBit.l3 (hp : zBit o) : o + 3 < 1000 := by
  rcases hp with e | e <;> subst e <;> decide
theorem zBit.a3 (hp : zBit o) : zarr (o + 3) := by
  rcases hp with e | e <;> subst e <;> (show zfinA _ = true; decide +kernel)
theorem zBit.f0 (F : zFin h) (hp : zBit o) : zrd X h o 0 = ((o + 1 : Nat) : Int) := by
  rcases hp with e | e <;> subst e
  · exact F.g (n := 39) rfl
  · exact F.g (n := 42) rfl
theorem zBit.f1 (F : zFin h) (hp : zBit o) : zrd X h o 1 = ((o + 2 : Nat) : Int) := by
  rcases hp with e | e <;> subst e
  · exact F.g (n := 40) rfl
  · exact F.g (n := 43) rfl
theorem zBit.f2 (F : zFin h) (hp : zBit o) : zrd X h o 2 = ((o + 3 : Nat) : Int) := by
  rcases hp with e | e <;> subst e
  · exact F.g (n := 41) rfl
  · exact F.g (n := 44) rfl
theorem zBit.up {k : Nat} {x : Int} (F : zFin h) (hp : zBit o) (hk : (Nat.beq k 3 || Nat.beq k 4 || Nat.beq k 5) = true) : zFin (zup h o k x) := by
  simp only [Bool.or_eq_true] at hk
  rcases hp with e | e <;> subst e
  all_goals refine F.up ?_
  all_goals (rcases hk with (hk | hk) | hk <;> (have := Nat.eq_of_beq_eq_true hk; subst this; rfl))
end
section
variable {X : List Int} {i pc c s : Nat} {ls : zLL} {st r : List zAV} {sh : zSH} {h : zHP} {Q : zPO}
theorem zcI {v w : Int} (e : v = w) (k : zAt X i pc c s ls (zI w :: r) sh h Q) : zAt X i pc c s ls (zI v :: r) sh h Q := e ▸ k
theorem zcL {v w : Int} (e : v = w) (k : zAt X i pc c s ls (zL w :: r) sh h Q) : zAt X i pc c s ls (zL v :: r) sh h Q := e ▸ k
theorem zcN {v w : Int} {F : Int → zLL} (e : v = w) (k : zAt X i pc c s (F w) st sh h Q) : zAt X i pc c s (F v) st sh h Q := e ▸ k
theorem zlen_lt {a t : Nat} {n : Nat} {k : Int} (e : zsh X sh a = (t, n)) (hk : k < (n : Int)) : k < ((zsh X sh a).2 : Int) := by rw [e]; exact hk
theorem zlen_eq {a t : Nat} {n : Nat} (e : zsh X sh a = (t, n)) : ((zsh X sh a).2 : Int) = (n : Int) := by rw [e]
theorem ztag_le {a t : Nat} {n : Nat} (e : zsh X sh a = (t, n)) (ht : t ≤ 5) : (zsh X sh a).1 ≤ 5 := by rw [e]; exact ht
/-- a call, and what is asked of it -/
def zKs (X : List Int) (j : Nat) (a : List zAV) (sh : zSH) (h : zHP) (K : Option zAV → zHP → Prop) : Prop := zAt X j 0 0 0 (zent (zinfo j).1 a) [] sh h (fun v sh' h' => sh' = sh ∧ K v h')
abbrev zC (X : List Int) (j : Nat) (a : List zAV) (h : zHP) (K : Option zAV → zHP → Prop) : Prop := zKs X j a zSHc h K
theorem zAt.mono {Q2 : zPO} (q : zAt X i pc c s ls st sh h Q) (hQ : ∀ v sh' h', Q v sh' h' → Q2 v sh' h') : zAt X i pc c s ls st sh h Q2 := by
  refine zAt.ind q (fun i pc c s ls st sh h Q => ∀ Q2 : zPO, (∀ v sh' h', Q v sh' h' → Q2 v sh' h') → zAt X i pc c s ls st sh h Q2) ?_ Q2 hQ
  intro i pc c s ls st sh h Q q Q2 hQ
  exact zAt.go (zStep_post q hQ)
theorem zKs.mono {j : Nat} {a : List zAV} {K K2 : Option zAV → zHP → Prop} (q : zKs X j a sh h K) (hK : ∀ v h', K v h' → K2 v h') : zKs X j a sh h K2 := zAt.mono q fun _ _ _ z => ⟨z.1, hK _ _ z.2⟩
theorem zcall1 {r1 r2 : Nat} {a : List zAV} {ok : Prop} (hr : Nat.blt r1 342 = true) (ha : (st.take r2).reverse = a) (hl : r2 ≤ st.length ∧ zcat (st.drop r2) ≤ 8 ∧ (zentl (st.take r2).reverse).length ≤ (zinfo r1).1) (hok : ok) (hc : (zinfo r1).2.2.1 = 0) (hs : (zinfo r1).2.2.2 = 0) (hd : st.drop r2 = r)
    (q : zKs X r1 a sh h (fun v h' => zAt X i (pc + 3) c s ls (zpush v r) sh h' Q)) : zCallG (zAt X) i pc c s ls st sh h Q r1 r2 ok := by
  unfold zCallG
  rw [hr, cond_true]
  unfold zCall
  refine ⟨hl, hok, by rw [hc]; exact Nat.zero_le _, by rw [hs]; exact Nat.zero_le _, ?_⟩
  rw [ha, hd, hc, hs]
  exact ⟨_, q, fun v sh' h' z => by obtain ⟨e, z⟩ := z; subst e; exact z⟩
theorem zcall3 {r1 r2 c2 s2 : Nat} {a : List zAV} {ok : Prop} {V : Option zAV} {sh2 : zSH} {h2 : zHP} (hr : Nat.blt r1 342 = true) (ha : (st.take r2).reverse = a) (hl : r2 ≤ st.length ∧ zcat (st.drop r2) ≤ 8 ∧ (zentl (st.take r2).reverse).length ≤ (zinfo r1).1) (hok : ok) (hc : (zinfo r1).2.2.1 ≤ c) (hs : (zinfo r1).2.2.2 ≤ s) (hd : st.drop r2 = r) (hc2 : c - (zinfo r1).2.2.1 = c2) (hs2 : s - (zinfo r1).2.2.2 = s2)
    (q : zAt X r1 0 (zinfo r1).2.2.1 (zinfo r1).2.2.2 (zent (zinfo r1).1 a) [] sh h (fun v sh' h' => v = V ∧ sh' = sh2 ∧ h' = h2)) (k : zAt X i (pc + 3) c2 s2 ls (zpush V r) sh2 h2 Q) : zCallG (zAt X) i pc c s ls st sh h Q r1 r2 ok := by
  unfold zCallG
  rw [hr, cond_true]
  unfold zCall
  refine ⟨hl, hok, hc, hs, ?_⟩
  rw [ha, hd, hc2, hs2]
  exact ⟨_, q, fun v sh' h' z => by obtain ⟨e1, e2, e3⟩ := z; subst e1; subst e2; subst e3; exact k⟩
theorem znew_go {q r1 r2 c2 s2 n : Nat} {sh2 : zSH} (e : sh.length = q) (e2 : sh ++ [(16 + r1, r2)] = sh2) (hl : q < 1000) (hc : 1 ≤ c) (hs : r2 ≤ s) (hc2 : c - 1 = c2) (hs2 : s - r2 = s2) (k : zAt X i (pc + n) c2 s2 ls (zR q :: st) sh2 (zborn h r1 q) Q) : zNew (zAt X) i pc c s ls st sh h Q n r1 r2 := by
  subst e; subst e2; subst hc2; subst hs2
  exact ⟨hl, hc, hs, k⟩
theorem znewa_go {q t c2 s2 n m : Nat} {x : Int} {sh2 : zSH} (e : sh.length = q) (e2 : sh ++ [(t, m)] = sh2) (hl : q < 1000) (ht : t ≤ 5) (hm : m ≤ 60000) (hc : 1 ≤ c) (hs : m ≤ s) (hc2 : c - 1 = c2) (hs2 : s - m = s2) (k : zAt X i (pc + n) c2 s2 ls (zR q :: st) sh2 (znul h q x) Q) : zNewA (zAt X) i pc c s ls (zI (m : Int) :: st) sh h Q n t x := by
  subst e; subst e2; subst hc2; subst hs2
  exact ⟨hl, ht, by omega, by omega, hc, by rw [Int.toNat_natCast]; exact hs, by rw [Int.toNat_natCast]; exact k⟩
theorem zb0 {P : Prop} [Decidable P] : ((if P then (1 : Int) else 0) = 0) ↔ ¬ P := by by_cases h : P <;> simp [h]
theorem zb1 {P : Prop} [Decidable P] : (¬ (if P then (1 : Int) else 0) = 0) ↔ P := by by_cases h : P <;> simp [h]
theorem zb01 {P : Prop} [Decidable P] : (if P then (1 : Int) else 0) = 0 ∨ (if P then (1 : Int) else 0) = 1 := by by_cases h : P <;> simp [h]
theorem zcmp_eq {x y : Int} : ((if y < x then (1 : Int) else if x = y then 0 else -1) = 0) ↔ x = y := by split <;> (try split) <;> omega
theorem zcmp_ne {x y : Int} : (¬ (if y < x then (1 : Int) else if x = y then 0 else -1) = 0) ↔ ¬ x = y := by split <;> (try split) <;> omega
theorem zcmp_lt {x y : Int} : ((if y < x then (1 : Int) else if x = y then 0 else -1) < 0) ↔ x < y := by split <;> (try split) <;> omega
theorem zcmp_ge {x y : Int} : (0 ≤ (if y < x then (1 : Int) else if x = y then 0 else -1)) ↔ y ≤ x := by split <;> (try split) <;> omega
theorem zcmp_gt {x y : Int} : (0 < (if y < x then (1 : Int) else if x = y then 0 else -1)) ↔ y < x := by split <;> (try split) <;> omega
theorem zcmp_le {x y : Int} : ((if y < x then (1 : Int) else if x = y then 0 else -1) ≤ 0) ↔ x ≤ y := by split <;> (try split) <;> omega
def zabs (x : Int) : Int := if 0 ≤ x then x else -x
theorem zabs_id {x : Int} (o : -2147483648 < x ∧ x < 2147483648) : (if 0 ≤ x then x else zw (0 - x)) = zabs x := by
  unfold zabs
  split
  · rfl
  · rw [zw_id (by omega) (by omega)]; omega
theorem zmax_id {x y : Int} : (if x < y then y else x) = max x y := by omega
theorem zmin_id {x y : Int} : (if y < x then y else x) = min x y := by omega
theorem zlmax_id {x y : Int} : (if y < x then x else y) = max x y := by omega
theorem zlmin_id {x y : Int} : (if y < x then y else x) = min x y := by omega
theorem zdiv_id {x y : Int} (o : (0 ≤ x ∧ x < 2147483648) ∧ 0 < y) : zw (Int.tdiv x y) = x / y := by
  rw [Int.tdiv_eq_ediv_of_nonneg o.1.1]
  have h1 := Int.ediv_le_self y o.1.1
  have h2 := Int.ediv_nonneg o.1.1 (Int.le_of_lt o.2)
  exact zw_id (by omega) (by omega)
theorem zrem_id {x y : Int} (o : (0 ≤ x ∧ x < 2147483648) ∧ 0 < y) : Int.tmod x y = x % y := Int.tmod_eq_emod_of_nonneg o.1.1
def ziand (x y : Int) : Int := (Int32.ofInt x &&& Int32.ofInt y).toInt
def zior (x y : Int) : Int := (Int32.ofInt x ||| Int32.ofInt y).toInt
def zixor (x y : Int) : Int := (Int32.ofInt x ^^^ Int32.ofInt y).toInt
def zishl (x y : Int) : Int := (Int32.ofInt x <<< (Int32.ofInt y &&& 31)).toInt
def zishr (x y : Int) : Int := (Int32.ofInt x >>> (Int32.ofInt y &&& 31)).toInt
def ziushr (x y : Int) : Int := ((Int32.ofInt x).toUInt32 >>> ((Int32.ofInt y).toUInt32 &&& Int32.toUInt32 31)).toInt32.toInt
def zland (x y : Int) : Int := (Int64.ofInt x &&& Int64.ofInt y).toInt
def zlor (x y : Int) : Int := (Int64.ofInt x ||| Int64.ofInt y).toInt
def zlxor (x y : Int) : Int := (Int64.ofInt x ^^^ Int64.ofInt y).toInt
def zlshl (x y : Int) : Int := (Int64.ofInt x <<< ((Int32.ofInt y).toInt64 &&& 63)).toInt
def zlushr (x y : Int) : Int := ((Int64.ofInt x).toUInt64 >>> ((Int32.ofInt y).toInt64.toUInt64 &&& Int64.toUInt64 63)).toInt64.toInt
/-- fewer locals are told -/
def zle : zLL → zLL → Prop
  | [], [] => True
  | none :: l, _ :: l' => zle l l'
  | some v :: l, w :: l' => w = some v ∧ zle l l'
  | _, _ => False
theorem zle_iff : ∀ {l l' : zLL}, zle l l' ↔ l.length = l'.length ∧ ∀ k v, l.getD k none = some v → l'.getD k none = some v
  | [], [] => by simp [zle]
  | [], _ :: _ => by simp [zle]
  | none :: l, [] => by simp [zle]
  | some v :: l, [] => by simp [zle]
  | none :: l, w :: l' => by
    rw [zle, zle_iff]
    constructor
    · rintro ⟨h1, h2⟩
      refine ⟨by simp [h1], fun k v hk => ?_⟩
      cases k with
      | zero => cases hk
      | succ k => exact h2 k v hk
    · rintro ⟨h1, h2⟩
      exact ⟨by simpa using h1, fun k v hk => h2 (k + 1) v hk⟩
  | some x :: l, w :: l' => by
    rw [zle, zle_iff]
    constructor
    · rintro ⟨h0, h1, h2⟩
      subst h0
      refine ⟨by simp [h1], fun k v hk => ?_⟩
      cases k with
      | zero => exact hk
      | succ k => exact h2 k v hk
    · rintro ⟨h1, h2⟩
      have := h2 0 x rfl
      exact ⟨this, by simpa using h1, fun k v hk => h2 (k + 1) v hk⟩
theorem zle_set {l l' : zLL} (e : zle l l') (k : Nat) (v : zAV) : zle (zst1 l k v) (zst1 l' k v) := by
  rw [zle_iff] at e ⊢
  obtain ⟨h1, h2⟩ := e
  refine ⟨by unfold zst1; rw [List.length_set, List.length_set, zclr_len, zclr_len, h1], fun j w hj => ?_⟩
  rcases zset_get hj with ⟨a, b⟩ | ⟨a, b⟩
  · subst a
    cases b
    have hl := (zgetD hj).1
    unfold zst1 at hl ⊢
    rw [List.length_set, zclr_len] at hl
    rw [List.getD_eq_getElem?_getD, List.getElem?_set_self (by rw [zclr_len, ← h1]; exact hl)]
    rfl
  · obtain ⟨b1, b2⟩ := zclr_get b
    have g := h2 j w b1
    unfold zst1
    rw [List.getD_eq_getElem?_getD, List.getElem?_set_ne (Ne.symm a), ← List.getD_eq_getElem?_getD]
    unfold zclr
    split
    · exact g
    · rename_i m
      split
      · rename_i x hx
        by_cases hm : j = m
        · subst hm
          rw [g] at hx
          cases hx
          exact absurd rfl (b2 rfl x)
        · rw [List.getD_eq_getElem?_getD, List.getElem?_set_ne (Ne.symm hm), ← List.getD_eq_getElem?_getD]
          exact g
      · exact g
theorem zle_none {l l' : zLL} (e : zle l l') (k : Nat) : zle (l.set k none) (l'.set k none) := by
  rw [zle_iff] at e ⊢
  obtain ⟨h1, h2⟩ := e
  refine ⟨by rw [List.length_set, List.length_set, h1], fun j w hj => ?_⟩
  rcases zset_get hj with ⟨a, b⟩ | ⟨a, b⟩
  · cases b
  · rw [List.getD_eq_getElem?_getD, List.getElem?_set_ne (Ne.symm a), ← List.getD_eq_getElem?_getD]
    exact h2 j w b
theorem zAt.le {ls2 : zLL} (e : zle ls ls2) (q : zAt X i pc c s ls st sh h Q) : zAt X i pc c s ls2 st sh h Q := by
  refine zAt.ind q (fun i pc c s ls st sh h Q => ∀ ls2 : zLL, zle ls ls2 → zAt X i pc c s ls2 st sh h Q) ?_ ls2 e
  intro i pc c s ls st sh h Q q ls2 e
  refine zAt.go (zStep_map (fun _ _ _ _ _ _ _ z => z ls2 e) (zle_iff.mp e).2 (zle_iff.mp e).1 (fun k v _ _ _ _ _ _ _ z => z _ (zle_set e k v)) (fun k v _ _ _ _ _ _ _ z => z _ (zle_none (zle_set e k v) (k + 1))) (fun _ _ _ _ l _ _ _ R z => z l (zle_iff.mpr ⟨rfl, fun _ _ z => z⟩)) (fun _ _ _ z => z) q)
end
