/-! THE REFERENCE: MEND -/
theorem zsnoc {d : Nat} : ∀ v : List Nat, v.length = d + 1 → ∃ u k, v = u ++ [k] ∧ u.length = d := by
  induction d with
  | zero =>
    intro v hv
    cases v with
    | nil => cases hv
    | cons a v =>
      cases v with
      | nil => exact ⟨[], a, rfl, rfl⟩
      | cons b v => simp at hv
  | succ d ih =>
    intro v hv
    cases v with
    | nil => cases hv
    | cons a v =>
      obtain ⟨u, k, e1, e2⟩ := ih v (by simpa using hv)
      exact ⟨a :: u, k, by rw [e1]; rfl, by show u.length + 1 = _; rw [e2]⟩
theorem zsnoc_app (u p : List Nat) (k : Nat) : (u ++ [k]) ++ p = u ++ k :: p := by simp
/-- the path that is tried -/
def zPt (h : zHP) (n : Nat) (e : zel) (m : Nat) (p : List Nat) : Prop := (∀ i, i < p.length → h 153 i = (p.getD (p.length - 1 - i) 0 : Nat)) ∧ ∀ i, i ≤ p.length → h 154 i = zV3 (zSt n e m (p.drop (p.length - i)))
theorem zPt.pop {h : zHP} {n m k : Nat} {e : zel} {p : List Nat} (P : zPt h n e m (k :: p)) : zPt h n e m p := by
  refine ⟨fun i hi => ?_, fun i hi => ?_⟩
  · rw [P.1 i (by show i < p.length + 1; omega)]
    rw [show (k :: p).length - 1 - i = (p.length - 1 - i) + 1 by show p.length + 1 - 1 - i = _; omega]
    rfl
  · rw [P.2 i (by show i ≤ p.length + 1; omega)]
    rw [show (k :: p).length - i = (p.length - i) + 1 by show p.length + 1 - i = _; omega]
    rfl
theorem zPt.top {h : zHP} {n m k : Nat} {e : zel} {p : List Nat} (P : zPt h n e m (k :: p)) : h 153 p.length = (k : Int) := by
  rw [P.1 p.length (by show p.length < p.length + 1; omega)]
  rw [show (k :: p).length - 1 - p.length = 0 by show p.length + 1 - 1 - p.length = _; omega]
  rfl
theorem zPt.set {h : zHP} {n m : Nat} {e : zel} {p : List Nat} (P : zPt h n e m p) : h 154 p.length = zV3 (zSt n e m p) := by
  rw [P.2 p.length (Nat.le_refl _), Nat.sub_self]
  rfl
theorem zPt.fr {h h2 : zHP} {n m : Nat} {e : zel} {p : List Nat} (P : zPt h n e m p) (a : ∀ i, i < p.length → h2 153 i = h 153 i) (b : ∀ i, i ≤ p.length → h2 154 i = h 154 i) : zPt h2 n e m p :=
  ⟨fun i hi => (a i hi).trans (P.1 i hi), fun i hi => (b i hi).trans (P.2 i hi)⟩
theorem zPt.push {h h2 : zHP} {n m k : Nat} {e : zel} {p : List Nat} (P : zPt h n e m p) (a : ∀ i, i < p.length → h2 153 i = h 153 i) (b : ∀ i, i ≤ p.length → h2 154 i = h 154 i) (c : h2 153 p.length = (k : Int)) (d : h2 154 (p.length + 1) = zV3 (zSt n e m (k :: p))) : zPt h2 n e m (k :: p) := by
  refine ⟨fun i hi => ?_, fun i hi => ?_⟩
  · have hi : i < p.length + 1 := hi
    by_cases z : i = p.length
    · rw [z, c, show (k :: p).length - 1 - p.length = 0 by show p.length + 1 - 1 - p.length = _; omega]
      rfl
    · rw [a i (by omega), P.1 i (by omega), show (k :: p).length - 1 - i = (p.length - 1 - i) + 1 by show p.length + 1 - 1 - i = _; omega]
      rfl
  · have hi : i ≤ p.length + 1 := hi
    by_cases z : i = p.length + 1
    · rw [z, d, show (k :: p).length - (p.length + 1) = 0 by show p.length + 1 - (p.length + 1) = _; omega]
      rfl
    · rw [b i (by omega), P.2 i (by omega), show (k :: p).length - i = (p.length - i) + 1 by show p.length + 1 - i = _; omega]
      rfl
section
variable {X : List Int} {h : zHP} {K : Option zAV → zHP → Prop} {N : Nat} {A : Nat → Nat × Nat × zel}
/-- mends -/
theorem cm_322 {n m len : Nat} {e : zel} {a b : Int} (F : zFin h) (hn : 2 ≤ n ∧ n ≤ 5) (hlen : len ≤ 10) (ha : a = (n : Int)) (hb : b = (len : Int)) (h0 : h 154 0 = zV3 (zSt n e m [])) (k1 : ∀ l h', zval n l → l.length = len → zwok n e m l → (∀ v, zval n v → v.length = len → zwok n e m v → zcd l ≤ zcd v) → zFin h' → zfr [153, 154] h h' → (∀ i, i < len → h' 153 i = (l.getD (len - 1 - i) 0 : Nat)) → K (some (zI 1)) h') (k0 : ∀ h', (∀ v, zval n v → v.length = len → ¬ zwok n e m v) → zFin h' → zfr [153, 154] h h' → h' 154 0 = h 154 0 → K (some (zI 0)) h') : zC X 322 [zR 108, zI a, zI b] h K := by
  have enter : ∀ (d : Nat) (p : List Nat) (h1 : zHP) (x3 : Int), p.length + d = len → x3 = (p.length : Int) → zval n p → zFin h1 → zfr [153, 154] h h1 → zPt h1 n e m p → h1 153 p.length = -1 → (∀ u h', zval n u → u.length = d → zwok n e m (u ++ p) → (∀ v, zval n v → v.length = d → zwok n e m (v ++ p) → zcd (u ++ p) ≤ zcd (v ++ p)) → zFin h' → zfr [153, 154] h h' → zPt h' n e m (u ++ p) → K (some (zI 1)) h') → (∀ h' (x : Int), x = (p.length : Int) - 1 → (∀ v, zval n v → v.length = d → ¬ zwok n e m (v ++ p)) → zFin h' → zfr [153, 154] h h' → zPt h' n e m p → zAt X 322 9 0 0 [some (zR 108), some (zI a), some (zI b), some (zI x)] [] zSHc h' (fun v sh' h' => sh' = zSHc ∧ K v h')) → zAt X 322 9 0 0 [some (zR 108), some (zI a), some (zI b), some (zI x3)] [] zSHc h1 (fun v sh' h' => sh' = zSHc ∧ K v h') := by
    intro d
    induction d with
    | zero =>
      intro p h1 x3 hd h3 hv F1 fr P top yes no
      refine sg_322_9 F1 (fun z => by omega) (fun _ z => by omega) (fun _ z => by omega) (fun _ z => by omega) (fun _ z => by omega) (fun _ z => by omega) (fun _ z => by omega) (fun _ z => by omega) (fun _ z => by omega) (fun _ _ => by omega) (fun _ _ => ?_)
      have e4 : h1 154 x3.toNat = zV3 (zSt n e m p) := by rw [show x3.toNat = p.length by omega]; exact P.set
      refine cm_321 hn e4 ha (fun H => sg_322_28c (fun z => absurd z (by decide)) (fun z => absurd z (by decide)) (fun _ => ⟨rfl, ?_⟩)) (fun H => sg_322_28c (fun _ => by omega) (fun _ => ?_) (fun z => absurd rfl z))
      · exact yes [] h1 (fun k hk => by cases hk) rfl ((zSt_ok hn).mp H) (fun v _ hl _ => by rw [List.length_eq_zero_iff.mp hl]; exact Nat.le_refl _) F1 fr P
      · exact no h1 _ (by omega) (fun v _ hl ok => by rw [List.length_eq_zero_iff.mp hl] at ok; exact H ((zSt_ok hn).mpr ok)) F1 fr P
    | succ d ih =>
      intro p h1 x3 hd h3 hv F1 fr P top yes no
      have letters : ∀ (r c : Nat) (h1 : zHP), n - 1 - c = r → c ≤ n - 1 → zFin h1 → zfr [153, 154] h h1 → zPt h1 n e m p → h1 153 p.length = (c : Int) - 1 → (∀ k, k < c → ∀ u, zval n u → u.length = d → ¬ zwok n e m (u ++ k :: p)) → zAt X 322 9 0 0 [some (zR 108), some (zI a), some (zI b), some (zI x3)] [] zSHc h1 (fun v sh' h' => sh' = zSHc ∧ K v h') := by
        intro r
        induction r with
        | zero =>
          intro c h1 hr hc F1 fr P top D
          have et : h1 153 x3.toNat = (c : Int) - 1 := by rw [show x3.toNat = p.length by omega]; exact top
          refine sg_322_9 F1 (fun z => by omega) (fun _ _ => by omega) (fun _ _ => by omega) (fun _ _ => by omega) (fun _ _ z => by omega) (fun _ _ z => by omega) (fun _ _ z => by omega) (fun _ _ _ => by omega) (fun _ _ _ => ?_) (fun _ z => by omega) (fun _ z => by omega)
          refine no _ _ (by omega) (fun v hv2 hl ok => ?_) (F1.upA zfa_153) (fr.up (by simp)) (P.fr (fun i hi => zup_k (by omega)) (fun i hi => zup_c (by decide)))
          obtain ⟨u, k, e1, e2⟩ := zsnoc v hl
          rw [e1, zsnoc_app] at ok
          rw [e1] at hv2
          have hk := hv2 k (by simp)
          exact D k (by omega) u (fun q hq => hv2 q (by simp [hq])) e2 ok
        | succ r ih2 =>
          intro c h1 hr hc F1 fr P top D
          have et : h1 153 x3.toNat = (c : Int) - 1 := by rw [show x3.toNat = p.length by omega]; exact top
          have es : h1 154 x3.toNat = zV3 (zSt n e m p) := by rw [show x3.toNat = p.length by omega]; exact P.set
          refine sg_322_9 F1 (fun z => by omega) (fun _ _ => by omega) (fun _ _ => by omega) (fun _ _ => by omega) (fun _ _ _ => by omega) (fun _ _ _ => by omega) (fun _ _ _ => ?_) (fun _ _ z => by omega) (fun _ _ z => by omega) (fun _ z => by omega) (fun _ z => by omega)
          have ec : h1 153 x3.toNat + 1 = (c : Int) := by omega
          rw [ec]
          refine cm_320 (S := zSt n e m p) (k := c) hn (by omega) es ha rfl (sg_322_90c (F1.upA zfa_153) (by omega) (by omega) (by omega) ?_)
          rw [zSt_k hn.2 (by omega)]
          have e5 : (x3 + 1).toNat = p.length + 1 := by omega
          have e6 : x3.toNat = p.length := by omega
          rw [e5, e6]
          have P2 : zPt (zup (zup (zup h1 153 p.length (c : Int)) 154 (p.length + 1) (zV3 (zSt n e m (c :: p)))) 153 (p.length + 1) (-1)) n e m (c :: p) := by
            refine P.push (fun i hi => ?_) (fun i hi => ?_) ?_ ?_
            · rw [zup_k (by omega), zup_c (by decide), zup_k (by omega)]
            · rw [zup_c (by decide), zup_k (by omega), zup_c (by decide)]
            · rw [zup_k (by omega), zup_c (by decide), zup_eq]
            · rw [zup_c (by decide), zup_eq]
          refine ih (c :: p) _ _ (by show p.length + 1 + d = len; omega) (by show x3 + 1 = ((p.length + 1 : Nat) : Int); omega) (fun k hk => ?_) (((F1.upA zfa_153).upA zfa_154).upA zfa_153) (((fr.up (by simp)).up (by simp)).up (by simp)) P2 zup_eq (fun u h' hu hl ok best F2 fr2 P3 => ?_) (fun h' x hx none F2 fr2 P3 => ?_)
          · rcases List.mem_cons.mp hk with z | z
            · rw [z]; omega
            · exact hv k z
          · rw [← zsnoc_app] at P3
            refine yes (u ++ [c]) h' (fun k hk => ?_) (by simp [hl]) (by rw [zsnoc_app]; exact ok) (fun v hv2 hl2 ok2 => ?_) F2 fr2 P3
            · rcases List.mem_append.mp hk with z | z
              · exact hu k z
              · rw [List.mem_singleton.mp z]; omega
            · obtain ⟨w, k, e1, e2⟩ := zsnoc v hl2
              rw [e1, zsnoc_app] at ok2
              rw [e1] at hv2
              have hw : zval n w := fun q hq => hv2 q (by simp [hq])
              rw [e1, zsnoc_app, zsnoc_app]
              by_cases lt : k < c
              · exact absurd ok2 (D k lt w hw e2)
              · by_cases eq : k = c
                · rw [eq] at ok2 ⊢
                  exact best w hw e2 ok2
                · refine Nat.le_of_lt (zcd_app (by omega) (zval_8 (by omega) hu) (zval_8 (by omega) hw) ?_)
                  show 8 * zcd p + c < 8 * zcd p + k
                  omega
          · have ex : x = x3 := by
              rw [hx, h3]
              show ((p.length + 1 : Nat) : Int) - 1 = _
              omega
            rw [ex]
            refine ih2 (c + 1) h' (by omega) (by omega) F2 fr2 P3.pop (by rw [P3.top]; omega) fun k hk u hu hl => ?_
            by_cases eq : k = c
            · rw [eq]; exact none u hu hl
            · exact D k (by omega) u hu hl
      exact letters (n - 1) 0 h1 rfl (by omega) F1 fr P (by rw [top]; rfl) fun k hk => by omega
  refine sg_322_0 F (enter len [] _ 0 (by show 0 + len = len; omega) rfl (fun k hk => by cases hk) (F.upA zfa_153) ((zfr.rfl).up (by simp)) ⟨fun i hi => absurd hi (Nat.not_lt_zero i), fun i hi => ?_⟩ zup_eq (fun u h' hu hl ok best F2 fr2 P => ?_) (fun h' x hx none F2 fr2 P => ?_))
  · have e0 : i = 0 := Nat.le_zero.mp hi
    rw [e0, zup_c (by decide)]
    exact h0
  · rw [List.append_nil] at P ok
    refine k1 u h' hu hl ok (fun v hv hl2 ok2 => ?_) F2 fr2 (fun i hi => by rw [P.1 i (by omega), hl])
    have := best v hv hl2 (by rw [List.append_nil]; exact ok2)
    rw [List.append_nil, List.append_nil] at this
    exact this
  · have P0 := P.2 0 (Nat.zero_le _)
    have kk := k0 h' (fun v hv hl ok => none v hv hl (by rw [List.append_nil]; exact ok)) F2 fr2 (P0.trans h0.symm)
    have hx : x = -1 := hx
    exact sg_322_9 F2 (fun _ => ⟨rfl, kk⟩) (fun z => by omega) (fun z => by omega) (fun z => by omega) (fun z => by omega) (fun z => by omega) (fun z => by omega) (fun z => by omega) (fun z => by omega) (fun z => by omega) (fun z => by omega)
end
