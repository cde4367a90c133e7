/-! THE CLASS: THE GRAPH OF WORDS IS LAID; A WORD IS FOUND -/
def zGG (h : zHP) (n o : Nat) : Prop := (2 ≤ n ∧ n ≤ 7) ∧ o < zfac n ∧ zTl n o ≤ 800 ∧ h 24 5 = (zTl n o : Int) ∧ h 24 6 = (zinvs n o : Int) ∧ ∀ r, r < zTl n o → h 25 r = (zwv n o r (zinvs n o) : Int)
def zGL (h : zHP) : Prop := h 24 8 = 0 ∨ ∃ n o : Nat, h 24 8 = (n : Int) ∧ h 24 9 = (o : Int) ∧ zGG h n o
def zGy (h h' : zHP) : Prop := zFin h' ∧ zOT h' ∧ zCO h' ∧ h 1 1 ≤ h' 1 1 ∧ zfr [1, 2, 3, 4, 24, 25, 26, 27] h h' ∧ zGL h'
theorem zGG.keep {h h' : zHP} {n o : Nat} (G : zGG h n o) (e5 : h' 24 5 = h 24 5) (e6 : h' 24 6 = h 24 6) (e25 : ∀ r, h' 25 r = h 25 r) : zGG h' n o := by
  obtain ⟨a, b, c, d, e, f⟩ := G
  exact ⟨a, b, c, e5.trans d, e6.trans e, fun r hr => (e25 r).trans (f r hr)⟩
theorem zGL.keep {h h' : zHP} (G : zGL h) (e5 : h' 24 5 = h 24 5) (e6 : h' 24 6 = h 24 6) (e8 : h' 24 8 = h 24 8) (e9 : h' 24 9 = h 24 9) (e25 : ∀ r, h' 25 r = h 25 r) : zGL h' := by
  rcases G with z | ⟨n, o, a, b, c⟩
  · exact Or.inl (e8.trans z)
  · exact Or.inr ⟨n, o, e8.trans a, e9.trans b, c.keep e5 e6 e25⟩
theorem zGG.wrd {h : zHP} {n o r : Nat} {x : Int} (G : zGG h n o) (hr : r < zTl n o) (hx : x = (r : Int)) : zWrd h x = (zwf (zlet n o r) (zinvs n o) : Int) := by
  have h8 := G.2.2.1
  unfold zWrd
  rw [if_pos (by omega), show x.toNat = r by omega, G.2.2.2.2.2 r hr, zwv_f]
section
variable {X : List Int} {h : zHP} {K : Option zAV → zHP → Prop}
/-- find -/
theorem cx_156 {n o s : Nat} {x : Int} (F : zFin h) (G : zGG h n o) (hs : s < zTl n o) (hx : x = (zwf (zlet n o s) (zinvs n o) : Nat)) (k : K (some (zI (s : Int))) h) : zC X 156 [zR 24, zL x] h K := by
  have hn := G.1
  have ho := G.2.1
  have h8 := G.2.2.1
  have e5 := G.2.2.2.1
  have loop : ∀ (d lo hi t : Nat) (x3 x4 x5 : Int), hi - lo < d → lo ≤ s → s ≤ hi → hi < zTl n o → t + (hi - lo) < zTl n o → x3 = (lo : Int) → x4 = (hi : Int) → x5 = (t : Int) → zAt X 156 13 0 0 [some (zR 24), some (zL x), none, some (zI x3), some (zI x4), some (zI x5), none, none, none] [] zSHc h (fun v sh' h' => sh' = zSHc ∧ K v h') := by
    intro d
    induction d with
    | zero => intro lo hi t x3 x4 x5 hd; omega
    | succ d ih =>
      intro lo hi t x3 x4 x5 hd h1 h2 h3 h4 e3 e4 ex5
      obtain ⟨mid, em⟩ : ∃ mid, mid = lo + (hi - lo) / 2 := ⟨_, rfl⟩
      have E : x3 + (x4 - x3) / 2 = (mid : Int) := by omega
      have W : zWrd h (x3 + (x4 - x3) / 2) = (zwf (zlet n o mid) (zinvs n o) : Int) := G.wrd (by omega) E
      by_cases c1 : mid = s
      · refine sg_156_13 F (fun z => by omega) (fun _ z => by omega) (fun _ _ => by omega) (fun _ _ => ⟨by omega, by decide⟩) (fun _ _ => by omega) (fun _ _ _ _ => by omega) (fun _ _ _ _ => by omega) (fun _ _ z => absurd (by rw [W, hx, c1]) z) (fun _ _ _ _ => by omega) (fun _ _ _ _ => by omega) (fun _ _ z => absurd (by rw [W, hx, c1]) z) (fun _ _ _ => ⟨rfl, ?_⟩)
        rw [E, c1]
        exact k
      · by_cases c2 : mid < s
        · have m := zwf_mono hn.2 (zinvs n o) o mid s ho rfl c2 hs
          exact sg_156_13 F (fun z => by omega) (fun _ z => by omega) (fun _ _ => by omega) (fun _ _ => ⟨by omega, by decide⟩) (fun _ _ => by omega) (fun _ _ _ _ => by omega) (fun _ _ _ _ => by omega) (fun _ _ _ z => by omega) (fun _ _ _ _ => by omega) (fun _ _ _ _ => by omega) (fun _ _ _ _ => ih (mid + 1) hi (t + 1) _ _ _ (by omega) (by omega) (by omega) (by omega) (by omega) (by omega) (by omega) (by omega)) (fun _ _ z => by omega)
        · have m := zwf_mono hn.2 (zinvs n o) o s mid ho rfl (by omega) (by omega)
          exact sg_156_13 F (fun z => by omega) (fun _ z => by omega) (fun _ _ => by omega) (fun _ _ => ⟨by omega, by decide⟩) (fun _ _ => by omega) (fun _ _ _ _ => by omega) (fun _ _ _ _ => by omega) (fun _ _ _ _ => ih lo (mid - 1) (t + 1) _ _ _ (by omega) (by omega) (by omega) (by omega) (by omega) (by omega) (by omega) (by omega)) (fun _ _ _ _ => by omega) (fun _ _ _ _ => by omega) (fun _ _ _ z => by omega) (fun _ _ z => by omega)
  exact sg_156_0 (by omega) (loop (zTl n o) 0 (zTl n o - 1) 0 _ _ _ (by omega) (by omega) (by omega) (by omega) (by omega) rfl (by omega) rfl)
end
