/-! THE LAW, call by call -/
def zPairI (X : List Int) (jx jm : Nat) (a : List zAV) (I : zHP → Prop) (h : zHP) : Prop := zC X jx (zR 0 :: a) h (fun v h1 => ∃ r : Int, v = some (zI r) ∧ zC X jm (zR 108 :: a) h1 (fun v2 h2 => v2 = some (zI r) ∧ I h2))
def zPairL (X : List Int) (jx jm : Nat) (a : List zAV) (I : zHP → Prop) (h : zHP) : Prop := zC X jx (zR 0 :: a) h (fun v h1 => ∃ r : Int, v = some (zL r) ∧ zC X jm (zR 108 :: a) h1 (fun v2 h2 => v2 = some (zL r) ∧ I h2))
/-- X11_feed -/
def zOp_158 (X : List Int) (I I2 : zHP → Prop) : Prop := ∀ h, I h → ∀ (a0 : Int) (a1 : Int) (a2 : Int) (a3 : Int) (a4 : Int), z32 a0 → z32 a1 → z32 a2 → z32 a3 → z32 a4 → zPairI X 158 209 [zI a0, zI a1, zI a2, zI a3, zI a4] I2 h
set_option maxHeartbeats 1000000 in
theorem zarm_224 {X : List Int} {I I2 : zHP → Prop} {h : zHP} {Q : zPO} {x3 : Int} (H : zOp_158 X I I2) (hI : I h) (hX : ∀ j, z32 (X.getD j 0)) (h0 : 0 ≤ x3) (h9 : x3 ≤ (X.length : Int) - 6) (hL : X.length ≤ 3072) (IH : ∀ h2, I2 h2 → zAt X 342 1851 599845 7029306 [some (zR 1900), some (zR 0), some (zR 108), some (zI x3)] [] zSHc h2 Q) : zAt X 342 224 599845 7029306 [some (zR 1900), some (zR 0), some (zR 108), some (zI x3)] [] zSHc h Q :=
  sl_224 (by intros; omega) (by intros; omega) (by intros; omega) (by intros; omega) (by intros; omega) (by intros; omega) (by intros; omega) (by intros; omega) (by intros; omega) (by intros; omega) (zKs.mono (H h hI (X.getD ((x3 + 1).toNat) 0) (X.getD ((x3 + 2).toNat) 0) (X.getD ((x3 + 3).toNat) 0) (X.getD ((x3 + 4).toNat) 0) (X.getD ((x3 + 5).toNat) 0) (hX _) (hX _) (hX _) (hX _) (hX _)) (fun v h1 z => by
    obtain ⟨r, e, q⟩ := z
    subst e
    exact sl_253c (by intros; omega) (by intros; omega) (by intros; omega) (by intros; omega) (by intros; omega) (by intros; omega) (by intros; omega) (by intros; omega) (by intros; omega) (by intros; omega) (zKs.mono q (fun v2 h2 zz => by obtain ⟨e2, J2⟩ := zz; subst e2; exact sl_282c (fun _ => IH h2 J2) (fun z => absurd rfl z)))))
/-- X11_back -/
def zOp_159 (X : List Int) (I I2 : zHP → Prop) : Prop := ∀ h, I h → ∀ (a0 : Int), z32 a0 → zPairI X 159 211 [zI a0] I2 h
set_option maxHeartbeats 1000000 in
theorem zarm_287 {X : List Int} {I I2 : zHP → Prop} {h : zHP} {Q : zPO} {x3 : Int} (H : zOp_159 X I I2) (hI : I h) (hX : ∀ j, z32 (X.getD j 0)) (h0 : 0 ≤ x3) (h9 : x3 ≤ (X.length : Int) - 6) (hL : X.length ≤ 3072) (IH : ∀ h2, I2 h2 → zAt X 342 1851 599845 7029306 [some (zR 1900), some (zR 0), some (zR 108), some (zI x3)] [] zSHc h2 Q) : zAt X 342 287 599845 7029306 [some (zR 1900), some (zR 0), some (zR 108), some (zI x3)] [] zSHc h Q :=
  sl_287 (by intros; omega) (by intros; omega) (zKs.mono (H h hI (X.getD ((x3 + 1).toNat) 0) (hX _)) (fun v h1 z => by
    obtain ⟨r, e, q⟩ := z
    subst e
    exact sl_296c (by intros; omega) (by intros; omega) (zKs.mono q (fun v2 h2 zz => by obtain ⟨e2, J2⟩ := zz; subst e2; exact sl_305c (fun _ => IH h2 J2) (fun z => absurd rfl z)))))
/-- X11_read -/
def zOp_160 (X : List Int) (I I2 : zHP → Prop) : Prop := ∀ h, I h → zPairI X 160 239 [] I2 h
set_option maxHeartbeats 1000000 in
theorem zarm_310 {X : List Int} {I I2 : zHP → Prop} {h : zHP} {Q : zPO} {x3 : Int} (H : zOp_160 X I I2) (hI : I h) (hX : ∀ j, z32 (X.getD j 0)) (h0 : 0 ≤ x3) (h9 : x3 ≤ (X.length : Int) - 6) (hL : X.length ≤ 3072) (IH : ∀ h2, I2 h2 → zAt X 342 1851 599845 7029306 [some (zR 1900), some (zR 0), some (zR 108), some (zI x3)] [] zSHc h2 Q) : zAt X 342 310 599845 7029306 [some (zR 1900), some (zR 0), some (zR 108), some (zI x3)] [] zSHc h Q :=
  sl_310 (zKs.mono (H h hI) (fun v h1 z => by
    obtain ⟨r, e, q⟩ := z
    subst e
    exact sl_314c (zKs.mono q (fun v2 h2 zz => by obtain ⟨e2, J2⟩ := zz; subst e2; exact sl_318c (fun _ => IH h2 J2) (fun z => absurd rfl z)))))
/-- X11_place -/
def zOp_161 (X : List Int) (I I2 : zHP → Prop) : Prop := ∀ h, I h → zPairI X 161 240 [] I2 h
set_option maxHeartbeats 1000000 in
theorem zarm_323 {X : List Int} {I I2 : zHP → Prop} {h : zHP} {Q : zPO} {x3 : Int} (H : zOp_161 X I I2) (hI : I h) (hX : ∀ j, z32 (X.getD j 0)) (h0 : 0 ≤ x3) (h9 : x3 ≤ (X.length : Int) - 6) (hL : X.length ≤ 3072) (IH : ∀ h2, I2 h2 → zAt X 342 1851 599845 7029306 [some (zR 1900), some (zR 0), some (zR 108), some (zI x3)] [] zSHc h2 Q) : zAt X 342 323 599845 7029306 [some (zR 1900), some (zR 0), some (zR 108), some (zI x3)] [] zSHc h Q :=
  sl_323 (zKs.mono (H h hI) (fun v h1 z => by
    obtain ⟨r, e, q⟩ := z
    subst e
    exact sl_327c (zKs.mono q (fun v2 h2 zz => by obtain ⟨e2, J2⟩ := zz; subst e2; exact sl_331c (fun _ => IH h2 J2) (fun z => absurd rfl z)))))
/-- X11_clear -/
def zOp_162 (X : List Int) (I I2 : zHP → Prop) : Prop := ∀ h, I h → zPairI X 162 246 [] I2 h
set_option maxHeartbeats 1000000 in
theorem zarm_336 {X : List Int} {I I2 : zHP → Prop} {h : zHP} {Q : zPO} {x3 : Int} (H : zOp_162 X I I2) (hI : I h) (hX : ∀ j, z32 (X.getD j 0)) (h0 : 0 ≤ x3) (h9 : x3 ≤ (X.length : Int) - 6) (hL : X.length ≤ 3072) (IH : ∀ h2, I2 h2 → zAt X 342 1851 599845 7029306 [some (zR 1900), some (zR 0), some (zR 108), some (zI x3)] [] zSHc h2 Q) : zAt X 342 336 599845 7029306 [some (zR 1900), some (zR 0), some (zR 108), some (zI x3)] [] zSHc h Q :=
  sl_336 (zKs.mono (H h hI) (fun v h1 z => by
    obtain ⟨r, e, q⟩ := z
    subst e
    exact sl_340c (zKs.mono q (fun v2 h2 zz => by obtain ⟨e2, J2⟩ := zz; subst e2; exact sl_344c (fun _ => IH h2 J2) (fun z => absurd rfl z)))))
/-- X11_copy -/
def zOp_163 (X : List Int) (I I2 : zHP → Prop) : Prop := ∀ h, I h → ∀ (a0 : Int) (a1 : Int) (a2 : Int), z32 a0 → (a1 = 0 ∨ a1 = 1) → (a2 = 0 ∨ a2 = 1) → zPairI X 163 247 [zI a0, zI a1, zI a2] I2 h
set_option maxHeartbeats 1000000 in
theorem zarm_349 {X : List Int} {I I2 : zHP → Prop} {h : zHP} {Q : zPO} {x3 : Int} (H : zOp_163 X I I2) (hI : I h) (hX : ∀ j, z32 (X.getD j 0)) (h0 : 0 ≤ x3) (h9 : x3 ≤ (X.length : Int) - 6) (hL : X.length ≤ 3072) (IH : ∀ h2, I2 h2 → zAt X 342 1851 599845 7029306 [some (zR 1900), some (zR 0), some (zR 108), some (zI x3)] [] zSHc h2 Q) : zAt X 342 349 599845 7029306 [some (zR 1900), some (zR 0), some (zR 108), some (zI x3)] [] zSHc h Q :=
  sl_349 (by intros; omega) (by intros; omega) (by intros; omega) (by intros; omega) (by intros; omega) (by intros; omega) (fun z1 z2 => zKs.mono (H h hI (X.getD ((x3 + 1).toNat) 0) (0) (0) (hX _) (by decide) (by decide)) (fun v h1 z => by
    obtain ⟨r, e, q⟩ := z
    subst e
    exact sl_384c (by intros; omega) (by intros; omega) (by intros; omega) (by intros; omega) (by intros; omega) (by intros; omega) (fun y1 y2 => by first | exact zKs.mono q (fun v2 h2 zz => by obtain ⟨e2, J2⟩ := zz; subst e2; exact sl_419c (fun _ => IH h2 J2) (fun z => absurd rfl z)) | (exfalso; omega)) (fun y1 y2 => by first | exact zKs.mono q (fun v2 h2 zz => by obtain ⟨e2, J2⟩ := zz; subst e2; exact sl_419c (fun _ => IH h2 J2) (fun z => absurd rfl z)) | (exfalso; omega)) (by intros; omega) (by intros; omega) (fun y1 y2 => by first | exact zKs.mono q (fun v2 h2 zz => by obtain ⟨e2, J2⟩ := zz; subst e2; exact sl_419c (fun _ => IH h2 J2) (fun z => absurd rfl z)) | (exfalso; omega)) (fun y1 y2 => by first | exact zKs.mono q (fun v2 h2 zz => by obtain ⟨e2, J2⟩ := zz; subst e2; exact sl_419c (fun _ => IH h2 J2) (fun z => absurd rfl z)) | (exfalso; omega)))) (fun z1 z2 => zKs.mono (H h hI (X.getD ((x3 + 1).toNat) 0) (0) (1) (hX _) (by decide) (by decide)) (fun v h1 z => by
    obtain ⟨r, e, q⟩ := z
    subst e
    exact sl_384c (by intros; omega) (by intros; omega) (by intros; omega) (by intros; omega) (by intros; omega) (by intros; omega) (fun y1 y2 => by first | exact zKs.mono q (fun v2 h2 zz => by obtain ⟨e2, J2⟩ := zz; subst e2; exact sl_419c (fun _ => IH h2 J2) (fun z => absurd rfl z)) | (exfalso; omega)) (fun y1 y2 => by first | exact zKs.mono q (fun v2 h2 zz => by obtain ⟨e2, J2⟩ := zz; subst e2; exact sl_419c (fun _ => IH h2 J2) (fun z => absurd rfl z)) | (exfalso; omega)) (by intros; omega) (by intros; omega) (fun y1 y2 => by first | exact zKs.mono q (fun v2 h2 zz => by obtain ⟨e2, J2⟩ := zz; subst e2; exact sl_419c (fun _ => IH h2 J2) (fun z => absurd rfl z)) | (exfalso; omega)) (fun y1 y2 => by first | exact zKs.mono q (fun v2 h2 zz => by obtain ⟨e2, J2⟩ := zz; subst e2; exact sl_419c (fun _ => IH h2 J2) (fun z => absurd rfl z)) | (exfalso; omega)))) (by intros; omega) (by intros; omega) (fun z1 z2 => zKs.mono (H h hI (X.getD ((x3 + 1).toNat) 0) (1) (0) (hX _) (by decide) (by decide)) (fun v h1 z => by
    obtain ⟨r, e, q⟩ := z
    subst e
    exact sl_384c (by intros; omega) (by intros; omega) (by intros; omega) (by intros; omega) (by intros; omega) (by intros; omega) (fun y1 y2 => by first | exact zKs.mono q (fun v2 h2 zz => by obtain ⟨e2, J2⟩ := zz; subst e2; exact sl_419c (fun _ => IH h2 J2) (fun z => absurd rfl z)) | (exfalso; omega)) (fun y1 y2 => by first | exact zKs.mono q (fun v2 h2 zz => by obtain ⟨e2, J2⟩ := zz; subst e2; exact sl_419c (fun _ => IH h2 J2) (fun z => absurd rfl z)) | (exfalso; omega)) (by intros; omega) (by intros; omega) (fun y1 y2 => by first | exact zKs.mono q (fun v2 h2 zz => by obtain ⟨e2, J2⟩ := zz; subst e2; exact sl_419c (fun _ => IH h2 J2) (fun z => absurd rfl z)) | (exfalso; omega)) (fun y1 y2 => by first | exact zKs.mono q (fun v2 h2 zz => by obtain ⟨e2, J2⟩ := zz; subst e2; exact sl_419c (fun _ => IH h2 J2) (fun z => absurd rfl z)) | (exfalso; omega)))) (fun z1 z2 => zKs.mono (H h hI (X.getD ((x3 + 1).toNat) 0) (1) (1) (hX _) (by decide) (by decide)) (fun v h1 z => by
    obtain ⟨r, e, q⟩ := z
    subst e
    exact sl_384c (by intros; omega) (by intros; omega) (by intros; omega) (by intros; omega) (by intros; omega) (by intros; omega) (fun y1 y2 => by first | exact zKs.mono q (fun v2 h2 zz => by obtain ⟨e2, J2⟩ := zz; subst e2; exact sl_419c (fun _ => IH h2 J2) (fun z => absurd rfl z)) | (exfalso; omega)) (fun y1 y2 => by first | exact zKs.mono q (fun v2 h2 zz => by obtain ⟨e2, J2⟩ := zz; subst e2; exact sl_419c (fun _ => IH h2 J2) (fun z => absurd rfl z)) | (exfalso; omega)) (by intros; omega) (by intros; omega) (fun y1 y2 => by first | exact zKs.mono q (fun v2 h2 zz => by obtain ⟨e2, J2⟩ := zz; subst e2; exact sl_419c (fun _ => IH h2 J2) (fun z => absurd rfl z)) | (exfalso; omega)) (fun y1 y2 => by first | exact zKs.mono q (fun v2 h2 zz => by obtain ⟨e2, J2⟩ := zz; subst e2; exact sl_419c (fun _ => IH h2 J2) (fun z => absurd rfl z)) | (exfalso; omega))))
/-- X11_join -/
def zOp_164 (X : List Int) (I I2 : zHP → Prop) : Prop := ∀ h, I h → ∀ (a0 : Int) (a1 : Int), z32 a0 → z32 a1 → zPairI X 164 248 [zI a0, zI a1] I2 h
set_option maxHeartbeats 1000000 in
theorem zarm_424 {X : List Int} {I I2 : zHP → Prop} {h : zHP} {Q : zPO} {x3 : Int} (H : zOp_164 X I I2) (hI : I h) (hX : ∀ j, z32 (X.getD j 0)) (h0 : 0 ≤ x3) (h9 : x3 ≤ (X.length : Int) - 6) (hL : X.length ≤ 3072) (IH : ∀ h2, I2 h2 → zAt X 342 1851 599845 7029306 [some (zR 1900), some (zR 0), some (zR 108), some (zI x3)] [] zSHc h2 Q) : zAt X 342 424 599845 7029306 [some (zR 1900), some (zR 0), some (zR 108), some (zI x3)] [] zSHc h Q :=
  sl_424 (by intros; omega) (by intros; omega) (by intros; omega) (by intros; omega) (zKs.mono (H h hI (X.getD ((x3 + 1).toNat) 0) (X.getD ((x3 + 2).toNat) 0) (hX _) (hX _)) (fun v h1 z => by
    obtain ⟨r, e, q⟩ := z
    subst e
    exact sl_438c (by intros; omega) (by intros; omega) (by intros; omega) (by intros; omega) (zKs.mono q (fun v2 h2 zz => by obtain ⟨e2, J2⟩ := zz; subst e2; exact sl_452c (fun _ => IH h2 J2) (fun z => absurd rfl z)))))
/-- X11_lots -/
def zOp_165 (X : List Int) (I I2 : zHP → Prop) : Prop := ∀ h, I h → ∀ (a0 : Int) (a1 : Int) (a2 : Int) (a3 : Int), z32 a0 → z32 a1 → z32 a2 → (a3 = 0 ∨ a3 = 1) → zPairI X 165 252 [zI a0, zI a1, zI a2, zI a3] I2 h
set_option maxHeartbeats 1000000 in
theorem zarm_457 {X : List Int} {I I2 : zHP → Prop} {h : zHP} {Q : zPO} {x3 : Int} (H : zOp_165 X I I2) (hI : I h) (hX : ∀ j, z32 (X.getD j 0)) (h0 : 0 ≤ x3) (h9 : x3 ≤ (X.length : Int) - 6) (hL : X.length ≤ 3072) (IH : ∀ h2, I2 h2 → zAt X 342 1851 599845 7029306 [some (zR 1900), some (zR 0), some (zR 108), some (zI x3)] [] zSHc h2 Q) : zAt X 342 457 599845 7029306 [some (zR 1900), some (zR 0), some (zR 108), some (zI x3)] [] zSHc h Q :=
  sl_457 (by intros; omega) (by intros; omega) (by intros; omega) (by intros; omega) (by intros; omega) (by intros; omega) (by intros; omega) (by intros; omega) (fun z1 => zKs.mono (H h hI (X.getD ((x3 + 1).toNat) 0) (X.getD ((x3 + 2).toNat) 0) (X.getD ((x3 + 3).toNat) 0) (0) (hX _) (hX _) (hX _) (by decide)) (fun v h1 z => by
    obtain ⟨r, e, q⟩ := z
    subst e
    exact sl_489c (by intros; omega) (by intros; omega) (by intros; omega) (by intros; omega) (by intros; omega) (by intros; omega) (by intros; omega) (by intros; omega) (fun y1 => by first | exact zKs.mono q (fun v2 h2 zz => by obtain ⟨e2, J2⟩ := zz; subst e2; exact sl_521c (fun _ => IH h2 J2) (fun z => absurd rfl z)) | (exfalso; omega)) (fun y1 => by first | exact zKs.mono q (fun v2 h2 zz => by obtain ⟨e2, J2⟩ := zz; subst e2; exact sl_521c (fun _ => IH h2 J2) (fun z => absurd rfl z)) | (exfalso; omega)))) (fun z1 => zKs.mono (H h hI (X.getD ((x3 + 1).toNat) 0) (X.getD ((x3 + 2).toNat) 0) (X.getD ((x3 + 3).toNat) 0) (1) (hX _) (hX _) (hX _) (by decide)) (fun v h1 z => by
    obtain ⟨r, e, q⟩ := z
    subst e
    exact sl_489c (by intros; omega) (by intros; omega) (by intros; omega) (by intros; omega) (by intros; omega) (by intros; omega) (by intros; omega) (by intros; omega) (fun y1 => by first | exact zKs.mono q (fun v2 h2 zz => by obtain ⟨e2, J2⟩ := zz; subst e2; exact sl_521c (fun _ => IH h2 J2) (fun z => absurd rfl z)) | (exfalso; omega)) (fun y1 => by first | exact zKs.mono q (fun v2 h2 zz => by obtain ⟨e2, J2⟩ := zz; subst e2; exact sl_521c (fun _ => IH h2 J2) (fun z => absurd rfl z)) | (exfalso; omega))))
/-- X11_ladder -/
def zOp_166 (X : List Int) (I I2 : zHP → Prop) : Prop := ∀ h, I h → ∀ (a0 : Int) (a1 : Int), z32 a0 → z32 a1 → zPairI X 166 254 [zI a0, zI a1] I2 h
set_option maxHeartbeats 1000000 in
theorem zarm_526 {X : List Int} {I I2 : zHP → Prop} {h : zHP} {Q : zPO} {x3 : Int} (H : zOp_166 X I I2) (hI : I h) (hX : ∀ j, z32 (X.getD j 0)) (h0 : 0 ≤ x3) (h9 : x3 ≤ (X.length : Int) - 6) (hL : X.length ≤ 3072) (IH : ∀ h2, I2 h2 → zAt X 342 1851 599845 7029306 [some (zR 1900), some (zR 0), some (zR 108), some (zI x3)] [] zSHc h2 Q) : zAt X 342 526 599845 7029306 [some (zR 1900), some (zR 0), some (zR 108), some (zI x3)] [] zSHc h Q :=
  sl_526 (by intros; omega) (by intros; omega) (by intros; omega) (by intros; omega) (zKs.mono (H h hI (X.getD ((x3 + 1).toNat) 0) (X.getD ((x3 + 2).toNat) 0) (hX _) (hX _)) (fun v h1 z => by
    obtain ⟨r, e, q⟩ := z
    subst e
    exact sl_540c (by intros; omega) (by intros; omega) (by intros; omega) (by intros; omega) (zKs.mono q (fun v2 h2 zz => by obtain ⟨e2, J2⟩ := zz; subst e2; exact sl_554c (fun _ => IH h2 J2) (fun z => absurd rfl z)))))
/-- X11_element -/
def zOp_167 (X : List Int) (I I2 : zHP → Prop) : Prop := ∀ h, I h → ∀ (a0 : Int) (a1 : Int) (a2 : Int), z32 a0 → z32 a1 → z32 a2 → zPairI X 167 255 [zI a0, zI a1, zI a2] I2 h
set_option maxHeartbeats 1000000 in
theorem zarm_559 {X : List Int} {I I2 : zHP → Prop} {h : zHP} {Q : zPO} {x3 : Int} (H : zOp_167 X I I2) (hI : I h) (hX : ∀ j, z32 (X.getD j 0)) (h0 : 0 ≤ x3) (h9 : x3 ≤ (X.length : Int) - 6) (hL : X.length ≤ 3072) (IH : ∀ h2, I2 h2 → zAt X 342 1851 599845 7029306 [some (zR 1900), some (zR 0), some (zR 108), some (zI x3)] [] zSHc h2 Q) : zAt X 342 559 599845 7029306 [some (zR 1900), some (zR 0), some (zR 108), some (zI x3)] [] zSHc h Q :=
  sl_559 (by intros; omega) (by intros; omega) (by intros; omega) (by intros; omega) (by intros; omega) (by intros; omega) (zKs.mono (H h hI (X.getD ((x3 + 1).toNat) 0) (X.getD ((x3 + 2).toNat) 0) (X.getD ((x3 + 3).toNat) 0) (hX _) (hX _) (hX _)) (fun v h1 z => by
    obtain ⟨r, e, q⟩ := z
    subst e
    exact sl_578c (by intros; omega) (by intros; omega) (by intros; omega) (by intros; omega) (by intros; omega) (by intros; omega) (zKs.mono q (fun v2 h2 zz => by obtain ⟨e2, J2⟩ := zz; subst e2; exact sl_597c (fun _ => IH h2 J2) (fun z => absurd rfl z)))))
/-- X11_digit -/
def zOp_168 (X : List Int) (I I2 : zHP → Prop) : Prop := ∀ h, I h → ∀ (a0 : Int) (a1 : Int) (a2 : Int), z32 a0 → z32 a1 → z32 a2 → zPairI X 168 265 [zI a0, zI a1, zI a2] I2 h
set_option maxHeartbeats 1000000 in
theorem zarm_602 {X : List Int} {I I2 : zHP → Prop} {h : zHP} {Q : zPO} {x3 : Int} (H : zOp_168 X I I2) (hI : I h) (hX : ∀ j, z32 (X.getD j 0)) (h0 : 0 ≤ x3) (h9 : x3 ≤ (X.length : Int) - 6) (hL : X.length ≤ 3072) (IH : ∀ h2, I2 h2 → zAt X 342 1851 599845 7029306 [some (zR 1900), some (zR 0), some (zR 108), some (zI x3)] [] zSHc h2 Q) : zAt X 342 602 599845 7029306 [some (zR 1900), some (zR 0), some (zR 108), some (zI x3)] [] zSHc h Q :=
  sl_602 (by intros; omega) (by intros; omega) (by intros; omega) (by intros; omega) (by intros; omega) (by intros; omega) (zKs.mono (H h hI (X.getD ((x3 + 1).toNat) 0) (X.getD ((x3 + 2).toNat) 0) (X.getD ((x3 + 3).toNat) 0) (hX _) (hX _) (hX _)) (fun v h1 z => by
    obtain ⟨r, e, q⟩ := z
    subst e
    exact sl_621c (by intros; omega) (by intros; omega) (by intros; omega) (by intros; omega) (by intros; omega) (by intros; omega) (zKs.mono q (fun v2 h2 zz => by obtain ⟨e2, J2⟩ := zz; subst e2; exact sl_640c (fun _ => IH h2 J2) (fun z => absurd rfl z)))))
/-- X11_down -/
def zOp_169 (X : List Int) (I I2 : zHP → Prop) : Prop := ∀ h, I h → ∀ (a0 : Int) (a1 : Int) (a2 : Int), z32 a0 → z32 a1 → z32 a2 → zPairI X 169 269 [zI a0, zI a1, zI a2] I2 h
set_option maxHeartbeats 1000000 in
theorem zarm_645 {X : List Int} {I I2 : zHP → Prop} {h : zHP} {Q : zPO} {x3 : Int} (H : zOp_169 X I I2) (hI : I h) (hX : ∀ j, z32 (X.getD j 0)) (h0 : 0 ≤ x3) (h9 : x3 ≤ (X.length : Int) - 6) (hL : X.length ≤ 3072) (IH : ∀ h2, I2 h2 → zAt X 342 1851 599845 7029306 [some (zR 1900), some (zR 0), some (zR 108), some (zI x3)] [] zSHc h2 Q) : zAt X 342 645 599845 7029306 [some (zR 1900), some (zR 0), some (zR 108), some (zI x3)] [] zSHc h Q :=
  sl_645 (by intros; omega) (by intros; omega) (by intros; omega) (by intros; omega) (by intros; omega) (by intros; omega) (zKs.mono (H h hI (X.getD ((x3 + 1).toNat) 0) (X.getD ((x3 + 2).toNat) 0) (X.getD ((x3 + 3).toNat) 0) (hX _) (hX _) (hX _)) (fun v h1 z => by
    obtain ⟨r, e, q⟩ := z
    subst e
    exact sl_664c (by intros; omega) (by intros; omega) (by intros; omega) (by intros; omega) (by intros; omega) (by intros; omega) (zKs.mono q (fun v2 h2 zz => by obtain ⟨e2, J2⟩ := zz; subst e2; exact sl_683c (fun _ => IH h2 J2) (fun z => absurd rfl z)))))
/-- X11_ends -/
def zOp_170 (X : List Int) (I I2 : zHP → Prop) : Prop := ∀ h, I h → ∀ (a0 : Int) (a1 : Int) (a2 : Int) (a3 : Int), z32 a0 → z32 a1 → z32 a2 → z32 a3 → zPairI X 170 270 [zI a0, zI a1, zI a2, zI a3] I2 h
set_option maxHeartbeats 1000000 in
theorem zarm_688 {X : List Int} {I I2 : zHP → Prop} {h : zHP} {Q : zPO} {x3 : Int} (H : zOp_170 X I I2) (hI : I h) (hX : ∀ j, z32 (X.getD j 0)) (h0 : 0 ≤ x3) (h9 : x3 ≤ (X.length : Int) - 6) (hL : X.length ≤ 3072) (IH : ∀ h2, I2 h2 → zAt X 342 1851 599845 7029306 [some (zR 1900), some (zR 0), some (zR 108), some (zI x3)] [] zSHc h2 Q) : zAt X 342 688 599845 7029306 [some (zR 1900), some (zR 0), some (zR 108), some (zI x3)] [] zSHc h Q :=
  sl_688 (by intros; omega) (by intros; omega) (by intros; omega) (by intros; omega) (by intros; omega) (by intros; omega) (by intros; omega) (by intros; omega) (zKs.mono (H h hI (X.getD ((x3 + 1).toNat) 0) (X.getD ((x3 + 2).toNat) 0) (X.getD ((x3 + 3).toNat) 0) (X.getD ((x3 + 4).toNat) 0) (hX _) (hX _) (hX _) (hX _)) (fun v h1 z => by
    obtain ⟨r, e, q⟩ := z
    subst e
    exact sl_712c (by intros; omega) (by intros; omega) (by intros; omega) (by intros; omega) (by intros; omega) (by intros; omega) (by intros; omega) (by intros; omega) (zKs.mono q (fun v2 h2 zz => by obtain ⟨e2, J2⟩ := zz; subst e2; exact sl_736c (fun _ => IH h2 J2) (fun z => absurd rfl z)))))
/-- X11_fewest -/
def zOp_171 (X : List Int) (I I2 : zHP → Prop) : Prop := ∀ h, I h → ∀ (a0 : Int) (a1 : Int), z32 a0 → z32 a1 → zPairI X 171 271 [zI a0, zI a1] I2 h
set_option maxHeartbeats 1000000 in
theorem zarm_741 {X : List Int} {I I2 : zHP → Prop} {h : zHP} {Q : zPO} {x3 : Int} (H : zOp_171 X I I2) (hI : I h) (hX : ∀ j, z32 (X.getD j 0)) (h0 : 0 ≤ x3) (h9 : x3 ≤ (X.length : Int) - 6) (hL : X.length ≤ 3072) (IH : ∀ h2, I2 h2 → zAt X 342 1851 599845 7029306 [some (zR 1900), some (zR 0), some (zR 108), some (zI x3)] [] zSHc h2 Q) : zAt X 342 741 599845 7029306 [some (zR 1900), some (zR 0), some (zR 108), some (zI x3)] [] zSHc h Q :=
  sl_741 (by intros; omega) (by intros; omega) (by intros; omega) (by intros; omega) (zKs.mono (H h hI (X.getD ((x3 + 1).toNat) 0) (X.getD ((x3 + 2).toNat) 0) (hX _) (hX _)) (fun v h1 z => by
    obtain ⟨r, e, q⟩ := z
    subst e
    exact sl_755c (by intros; omega) (by intros; omega) (by intros; omega) (by intros; omega) (zKs.mono q (fun v2 h2 zz => by obtain ⟨e2, J2⟩ := zz; subst e2; exact sl_769c (fun _ => IH h2 J2) (fun z => absurd rfl z)))))
/-- X11_ladders -/
def zOp_172 (X : List Int) (I I2 : zHP → Prop) : Prop := ∀ h, I h → ∀ (a0 : Int) (a1 : Int), z32 a0 → z32 a1 → zPairL X 172 272 [zI a0, zI a1] I2 h
set_option maxHeartbeats 1000000 in
theorem zarm_774 {X : List Int} {I I2 : zHP → Prop} {h : zHP} {Q : zPO} {x3 : Int} (H : zOp_172 X I I2) (hI : I h) (hX : ∀ j, z32 (X.getD j 0)) (h0 : 0 ≤ x3) (h9 : x3 ≤ (X.length : Int) - 6) (hL : X.length ≤ 3072) (IH : ∀ h2, I2 h2 → zAt X 342 1851 599845 7029306 [some (zR 1900), some (zR 0), some (zR 108), some (zI x3)] [] zSHc h2 Q) : zAt X 342 774 599845 7029306 [some (zR 1900), some (zR 0), some (zR 108), some (zI x3)] [] zSHc h Q :=
  sl_774 (by intros; omega) (by intros; omega) (by intros; omega) (by intros; omega) (zKs.mono (H h hI (X.getD ((x3 + 1).toNat) 0) (X.getD ((x3 + 2).toNat) 0) (hX _) (hX _)) (fun v h1 z => by
    obtain ⟨r, e, q⟩ := z
    subst e
    exact sl_788c (by intros; omega) (by intros; omega) (by intros; omega) (by intros; omega) (zKs.mono q (fun v2 h2 zz => by obtain ⟨e2, J2⟩ := zz; subst e2; exact sl_802c (fun _ => IH h2 J2) (fun z => absurd rfl z)))))
/-- X11_rung -/
def zOp_173 (X : List Int) (I I2 : zHP → Prop) : Prop := ∀ h, I h → ∀ (a0 : Int) (a1 : Int) (a2 : Int) (a3 : Int), z32 a0 → z32 a1 → z64 a2 → z32 a3 → zPairI X 173 275 [zI a0, zI a1, zL a2, zI a3] I2 h
set_option maxHeartbeats 1000000 in
theorem zarm_808 {X : List Int} {I I2 : zHP → Prop} {h : zHP} {Q : zPO} {x3 : Int} (H : zOp_173 X I I2) (hI : I h) (hX : ∀ j, z32 (X.getD j 0)) (h0 : 0 ≤ x3) (h9 : x3 ≤ (X.length : Int) - 6) (hL : X.length ≤ 3072) (IH : ∀ h2, I2 h2 → zAt X 342 1851 599845 7029306 [some (zR 1900), some (zR 0), some (zR 108), some (zI x3)] [] zSHc h2 Q) : zAt X 342 808 599845 7029306 [some (zR 1900), some (zR 0), some (zR 108), some (zI x3)] [] zSHc h Q :=
  sl_808 (by intros; omega) (by intros; omega) (by intros; omega) (by intros; omega) (by intros; omega) (by intros; omega) (by intros; omega) (by intros; omega) (by intros; omega) (by intros; omega) (zKs.mono (H h hI (X.getD ((x3 + 1).toNat) 0) (X.getD ((x3 + 2).toNat) 0) (zlor (zlshl (X.getD ((x3 + 3).toNat) 0) 32) (zland (X.getD ((x3 + 4).toNat) 0) 4294967295)) (X.getD ((x3 + 5).toNat) 0) (hX _) (hX _) (z64_l _) (hX _)) (fun v h1 z => by
    obtain ⟨r, e, q⟩ := z
    subst e
    exact sl_847c (by intros; omega) (by intros; omega) (by intros; omega) (by intros; omega) (by intros; omega) (by intros; omega) (by intros; omega) (by intros; omega) (by intros; omega) (by intros; omega) (zKs.mono q (fun v2 h2 zz => by obtain ⟨e2, J2⟩ := zz; subst e2; exact sl_886c (fun _ => IH h2 J2) (fun z => absurd rfl z)))))
/-- X11_rank -/
def zOp_174 (X : List Int) (I I2 : zHP → Prop) : Prop := ∀ h, I h → ∀ (a0 : Int), z32 a0 → zPairL X 174 276 [zI a0] I2 h
set_option maxHeartbeats 1000000 in
theorem zarm_891 {X : List Int} {I I2 : zHP → Prop} {h : zHP} {Q : zPO} {x3 : Int} (H : zOp_174 X I I2) (hI : I h) (hX : ∀ j, z32 (X.getD j 0)) (h0 : 0 ≤ x3) (h9 : x3 ≤ (X.length : Int) - 6) (hL : X.length ≤ 3072) (IH : ∀ h2, I2 h2 → zAt X 342 1851 599845 7029306 [some (zR 1900), some (zR 0), some (zR 108), some (zI x3)] [] zSHc h2 Q) : zAt X 342 891 599845 7029306 [some (zR 1900), some (zR 0), some (zR 108), some (zI x3)] [] zSHc h Q :=
  sl_891 (by intros; omega) (by intros; omega) (zKs.mono (H h hI (X.getD ((x3 + 1).toNat) 0) (hX _)) (fun v h1 z => by
    obtain ⟨r, e, q⟩ := z
    subst e
    exact sl_900c (by intros; omega) (by intros; omega) (zKs.mono q (fun v2 h2 zz => by obtain ⟨e2, J2⟩ := zz; subst e2; exact sl_909c (fun _ => IH h2 J2) (fun z => absurd rfl z)))))
/-- X11_cleared -/
def zOp_175 (X : List Int) (I I2 : zHP → Prop) : Prop := ∀ h, I h → ∀ (a0 : Int), z32 a0 → zPairI X 175 279 [zI a0] I2 h
set_option maxHeartbeats 1000000 in
theorem zarm_915 {X : List Int} {I I2 : zHP → Prop} {h : zHP} {Q : zPO} {x3 : Int} (H : zOp_175 X I I2) (hI : I h) (hX : ∀ j, z32 (X.getD j 0)) (h0 : 0 ≤ x3) (h9 : x3 ≤ (X.length : Int) - 6) (hL : X.length ≤ 3072) (IH : ∀ h2, I2 h2 → zAt X 342 1851 599845 7029306 [some (zR 1900), some (zR 0), some (zR 108), some (zI x3)] [] zSHc h2 Q) : zAt X 342 915 599845 7029306 [some (zR 1900), some (zR 0), some (zR 108), some (zI x3)] [] zSHc h Q :=
  sl_915 (by intros; omega) (by intros; omega) (zKs.mono (H h hI (X.getD ((x3 + 1).toNat) 0) (hX _)) (fun v h1 z => by
    obtain ⟨r, e, q⟩ := z
    subst e
    exact sl_924c (by intros; omega) (by intros; omega) (zKs.mono q (fun v2 h2 zz => by obtain ⟨e2, J2⟩ := zz; subst e2; exact sl_933c (fun _ => IH h2 J2) (fun z => absurd rfl z)))))
/-- X11_kept -/
def zOp_176 (X : List Int) (I I2 : zHP → Prop) : Prop := ∀ h, I h → ∀ (a0 : Int) (a1 : Int), z32 a0 → z32 a1 → zPairI X 176 280 [zI a0, zI a1] I2 h
set_option maxHeartbeats 1000000 in
theorem zarm_938 {X : List Int} {I I2 : zHP → Prop} {h : zHP} {Q : zPO} {x3 : Int} (H : zOp_176 X I I2) (hI : I h) (hX : ∀ j, z32 (X.getD j 0)) (h0 : 0 ≤ x3) (h9 : x3 ≤ (X.length : Int) - 6) (hL : X.length ≤ 3072) (IH : ∀ h2, I2 h2 → zAt X 342 1851 599845 7029306 [some (zR 1900), some (zR 0), some (zR 108), some (zI x3)] [] zSHc h2 Q) : zAt X 342 938 599845 7029306 [some (zR 1900), some (zR 0), some (zR 108), some (zI x3)] [] zSHc h Q :=
  sl_938 (by intros; omega) (by intros; omega) (by intros; omega) (by intros; omega) (zKs.mono (H h hI (X.getD ((x3 + 1).toNat) 0) (X.getD ((x3 + 2).toNat) 0) (hX _) (hX _)) (fun v h1 z => by
    obtain ⟨r, e, q⟩ := z
    subst e
    exact sl_952c (by intros; omega) (by intros; omega) (by intros; omega) (by intros; omega) (zKs.mono q (fun v2 h2 zz => by obtain ⟨e2, J2⟩ := zz; subst e2; exact sl_966c (fun _ => IH h2 J2) (fun z => absurd rfl z)))))
/-- X11_turns -/
def zOp_177 (X : List Int) (I I2 : zHP → Prop) : Prop := ∀ h, I h → ∀ (a0 : Int) (a1 : Int) (a2 : Int) (a3 : Int), z32 a0 → z32 a1 → z32 a2 → z32 a3 → zPairI X 177 285 [zI a0, zI a1, zI a2, zI a3] I2 h
set_option maxHeartbeats 1000000 in
theorem zarm_971 {X : List Int} {I I2 : zHP → Prop} {h : zHP} {Q : zPO} {x3 : Int} (H : zOp_177 X I I2) (hI : I h) (hX : ∀ j, z32 (X.getD j 0)) (h0 : 0 ≤ x3) (h9 : x3 ≤ (X.length : Int) - 6) (hL : X.length ≤ 3072) (IH : ∀ h2, I2 h2 → zAt X 342 1851 599845 7029306 [some (zR 1900), some (zR 0), some (zR 108), some (zI x3)] [] zSHc h2 Q) : zAt X 342 971 599845 7029306 [some (zR 1900), some (zR 0), some (zR 108), some (zI x3)] [] zSHc h Q :=
  sl_971 (by intros; omega) (by intros; omega) (by intros; omega) (by intros; omega) (by intros; omega) (by intros; omega) (by intros; omega) (by intros; omega) (zKs.mono (H h hI (X.getD ((x3 + 1).toNat) 0) (X.getD ((x3 + 2).toNat) 0) (X.getD ((x3 + 3).toNat) 0) (X.getD ((x3 + 4).toNat) 0) (hX _) (hX _) (hX _) (hX _)) (fun v h1 z => by
    obtain ⟨r, e, q⟩ := z
    subst e
    exact sl_995c (by intros; omega) (by intros; omega) (by intros; omega) (by intros; omega) (by intros; omega) (by intros; omega) (by intros; omega) (by intros; omega) (zKs.mono q (fun v2 h2 zz => by obtain ⟨e2, J2⟩ := zz; subst e2; exact sl_1019c (fun _ => IH h2 J2) (fun z => absurd rfl z)))))
/-- X11_moves -/
def zOp_178 (X : List Int) (I I2 : zHP → Prop) : Prop := ∀ h, I h → ∀ (a0 : Int) (a1 : Int) (a2 : Int) (a3 : Int), z32 a0 → z32 a1 → z32 a2 → z32 a3 → zPairI X 178 286 [zI a0, zI a1, zI a2, zI a3] I2 h
set_option maxHeartbeats 1000000 in
theorem zarm_1024 {X : List Int} {I I2 : zHP → Prop} {h : zHP} {Q : zPO} {x3 : Int} (H : zOp_178 X I I2) (hI : I h) (hX : ∀ j, z32 (X.getD j 0)) (h0 : 0 ≤ x3) (h9 : x3 ≤ (X.length : Int) - 6) (hL : X.length ≤ 3072) (IH : ∀ h2, I2 h2 → zAt X 342 1851 599845 7029306 [some (zR 1900), some (zR 0), some (zR 108), some (zI x3)] [] zSHc h2 Q) : zAt X 342 1024 599845 7029306 [some (zR 1900), some (zR 0), some (zR 108), some (zI x3)] [] zSHc h Q :=
  sl_1024 (by intros; omega) (by intros; omega) (by intros; omega) (by intros; omega) (by intros; omega) (by intros; omega) (by intros; omega) (by intros; omega) (zKs.mono (H h hI (X.getD ((x3 + 1).toNat) 0) (X.getD ((x3 + 2).toNat) 0) (X.getD ((x3 + 3).toNat) 0) (X.getD ((x3 + 4).toNat) 0) (hX _) (hX _) (hX _) (hX _)) (fun v h1 z => by
    obtain ⟨r, e, q⟩ := z
    subst e
    exact sl_1048c (by intros; omega) (by intros; omega) (by intros; omega) (by intros; omega) (by intros; omega) (by intros; omega) (by intros; omega) (by intros; omega) (zKs.mono q (fun v2 h2 zz => by obtain ⟨e2, J2⟩ := zz; subst e2; exact sl_1072c (fun _ => IH h2 J2) (fun z => absurd rfl z)))))
/-- X11_classes -/
def zOp_179 (X : List Int) (I I2 : zHP → Prop) : Prop := ∀ h, I h → ∀ (a0 : Int) (a1 : Int), z32 a0 → z32 a1 → zPairI X 179 287 [zI a0, zI a1] I2 h
set_option maxHeartbeats 1000000 in
theorem zarm_1077 {X : List Int} {I I2 : zHP → Prop} {h : zHP} {Q : zPO} {x3 : Int} (H : zOp_179 X I I2) (hI : I h) (hX : ∀ j, z32 (X.getD j 0)) (h0 : 0 ≤ x3) (h9 : x3 ≤ (X.length : Int) - 6) (hL : X.length ≤ 3072) (IH : ∀ h2, I2 h2 → zAt X 342 1851 599845 7029306 [some (zR 1900), some (zR 0), some (zR 108), some (zI x3)] [] zSHc h2 Q) : zAt X 342 1077 599845 7029306 [some (zR 1900), some (zR 0), some (zR 108), some (zI x3)] [] zSHc h Q :=
  sl_1077 (by intros; omega) (by intros; omega) (by intros; omega) (by intros; omega) (zKs.mono (H h hI (X.getD ((x3 + 1).toNat) 0) (X.getD ((x3 + 2).toNat) 0) (hX _) (hX _)) (fun v h1 z => by
    obtain ⟨r, e, q⟩ := z
    subst e
    exact sl_1091c (by intros; omega) (by intros; omega) (by intros; omega) (by intros; omega) (zKs.mono q (fun v2 h2 zz => by obtain ⟨e2, J2⟩ := zz; subst e2; exact sl_1105c (fun _ => IH h2 J2) (fun z => absurd rfl z)))))
/-- X11_ways -/
def zOp_180 (X : List Int) (I I2 : zHP → Prop) : Prop := ∀ h, I h → ∀ (a0 : Int), z32 a0 → zPairL X 180 289 [zI a0] I2 h
set_option maxHeartbeats 1000000 in
theorem zarm_1110 {X : List Int} {I I2 : zHP → Prop} {h : zHP} {Q : zPO} {x3 : Int} (H : zOp_180 X I I2) (hI : I h) (hX : ∀ j, z32 (X.getD j 0)) (h0 : 0 ≤ x3) (h9 : x3 ≤ (X.length : Int) - 6) (hL : X.length ≤ 3072) (IH : ∀ h2, I2 h2 → zAt X 342 1851 599845 7029306 [some (zR 1900), some (zR 0), some (zR 108), some (zI x3)] [] zSHc h2 Q) : zAt X 342 1110 599845 7029306 [some (zR 1900), some (zR 0), some (zR 108), some (zI x3)] [] zSHc h Q :=
  sl_1110 (by intros; omega) (by intros; omega) (zKs.mono (H h hI (X.getD ((x3 + 1).toNat) 0) (hX _)) (fun v h1 z => by
    obtain ⟨r, e, q⟩ := z
    subst e
    exact sl_1119c (by intros; omega) (by intros; omega) (zKs.mono q (fun v2 h2 zz => by obtain ⟨e2, J2⟩ := zz; subst e2; exact sl_1128c (fun _ => IH h2 J2) (fun z => absurd rfl z)))))
/-- X11_odds -/
def zOp_181 (X : List Int) (I I2 : zHP → Prop) : Prop := ∀ h, I h → ∀ (a0 : Int) (a1 : Int) (a2 : Int) (a3 : Int), z32 a0 → z32 a1 → z32 a2 → z32 a3 → zPairL X 181 291 [zI a0, zI a1, zI a2, zI a3] I2 h
set_option maxHeartbeats 1000000 in
theorem zarm_1134 {X : List Int} {I I2 : zHP → Prop} {h : zHP} {Q : zPO} {x3 : Int} (H : zOp_181 X I I2) (hI : I h) (hX : ∀ j, z32 (X.getD j 0)) (h0 : 0 ≤ x3) (h9 : x3 ≤ (X.length : Int) - 6) (hL : X.length ≤ 3072) (IH : ∀ h2, I2 h2 → zAt X 342 1851 599845 7029306 [some (zR 1900), some (zR 0), some (zR 108), some (zI x3)] [] zSHc h2 Q) : zAt X 342 1134 599845 7029306 [some (zR 1900), some (zR 0), some (zR 108), some (zI x3)] [] zSHc h Q :=
  sl_1134 (by intros; omega) (by intros; omega) (by intros; omega) (by intros; omega) (by intros; omega) (by intros; omega) (by intros; omega) (by intros; omega) (zKs.mono (H h hI (X.getD ((x3 + 1).toNat) 0) (X.getD ((x3 + 2).toNat) 0) (X.getD ((x3 + 3).toNat) 0) (X.getD ((x3 + 4).toNat) 0) (hX _) (hX _) (hX _) (hX _)) (fun v h1 z => by
    obtain ⟨r, e, q⟩ := z
    subst e
    exact sl_1158c (by intros; omega) (by intros; omega) (by intros; omega) (by intros; omega) (by intros; omega) (by intros; omega) (by intros; omega) (by intros; omega) (zKs.mono q (fun v2 h2 zz => by obtain ⟨e2, J2⟩ := zz; subst e2; exact sl_1182c (fun _ => IH h2 J2) (fun z => absurd rfl z)))))
/-- X11_oddsOf -/
def zOp_182 (X : List Int) (I I2 : zHP → Prop) : Prop := ∀ h, I h → ∀ (a0 : Int) (a1 : Int) (a2 : Int), z32 a0 → z32 a1 → z32 a2 → zPairL X 182 292 [zI a0, zI a1, zI a2] I2 h
set_option maxHeartbeats 1000000 in
theorem zarm_1188 {X : List Int} {I I2 : zHP → Prop} {h : zHP} {Q : zPO} {x3 : Int} (H : zOp_182 X I I2) (hI : I h) (hX : ∀ j, z32 (X.getD j 0)) (h0 : 0 ≤ x3) (h9 : x3 ≤ (X.length : Int) - 6) (hL : X.length ≤ 3072) (IH : ∀ h2, I2 h2 → zAt X 342 1851 599845 7029306 [some (zR 1900), some (zR 0), some (zR 108), some (zI x3)] [] zSHc h2 Q) : zAt X 342 1188 599845 7029306 [some (zR 1900), some (zR 0), some (zR 108), some (zI x3)] [] zSHc h Q :=
  sl_1188 (by intros; omega) (by intros; omega) (by intros; omega) (by intros; omega) (by intros; omega) (by intros; omega) (zKs.mono (H h hI (X.getD ((x3 + 1).toNat) 0) (X.getD ((x3 + 2).toNat) 0) (X.getD ((x3 + 3).toNat) 0) (hX _) (hX _) (hX _)) (fun v h1 z => by
    obtain ⟨r, e, q⟩ := z
    subst e
    exact sl_1207c (by intros; omega) (by intros; omega) (by intros; omega) (by intros; omega) (by intros; omega) (by intros; omega) (zKs.mono q (fun v2 h2 zz => by obtain ⟨e2, J2⟩ := zz; subst e2; exact sl_1226c (fun _ => IH h2 J2) (fun z => absurd rfl z)))))
/-- X11_possible -/
def zOp_183 (X : List Int) (I I2 : zHP → Prop) : Prop := ∀ h, I h → ∀ (a0 : Int) (a1 : Int), z32 a0 → z32 a1 → zPairI X 183 293 [zI a0, zI a1] I2 h
set_option maxHeartbeats 1000000 in
theorem zarm_1232 {X : List Int} {I I2 : zHP → Prop} {h : zHP} {Q : zPO} {x3 : Int} (H : zOp_183 X I I2) (hI : I h) (hX : ∀ j, z32 (X.getD j 0)) (h0 : 0 ≤ x3) (h9 : x3 ≤ (X.length : Int) - 6) (hL : X.length ≤ 3072) (IH : ∀ h2, I2 h2 → zAt X 342 1851 599845 7029306 [some (zR 1900), some (zR 0), some (zR 108), some (zI x3)] [] zSHc h2 Q) : zAt X 342 1232 599845 7029306 [some (zR 1900), some (zR 0), some (zR 108), some (zI x3)] [] zSHc h Q :=
  sl_1232 (by intros; omega) (by intros; omega) (by intros; omega) (by intros; omega) (zKs.mono (H h hI (X.getD ((x3 + 1).toNat) 0) (X.getD ((x3 + 2).toNat) 0) (hX _) (hX _)) (fun v h1 z => by
    obtain ⟨r, e, q⟩ := z
    subst e
    exact sl_1246c (by intros; omega) (by intros; omega) (by intros; omega) (by intros; omega) (zKs.mono q (fun v2 h2 zz => by obtain ⟨e2, J2⟩ := zz; subst e2; exact sl_1260c (fun _ => IH h2 J2) (fun z => absurd rfl z)))))
/-- X11_log -/
def zOp_184 (X : List Int) (I I2 : zHP → Prop) : Prop := ∀ h, I h → ∀ (a0 : Int) (a1 : Int) (a2 : Int), z32 a0 → z32 a1 → z32 a2 → zPairI X 184 294 [zI a0, zI a1, zI a2] I2 h
set_option maxHeartbeats 1000000 in
theorem zarm_1265 {X : List Int} {I I2 : zHP → Prop} {h : zHP} {Q : zPO} {x3 : Int} (H : zOp_184 X I I2) (hI : I h) (hX : ∀ j, z32 (X.getD j 0)) (h0 : 0 ≤ x3) (h9 : x3 ≤ (X.length : Int) - 6) (hL : X.length ≤ 3072) (IH : ∀ h2, I2 h2 → zAt X 342 1851 599845 7029306 [some (zR 1900), some (zR 0), some (zR 108), some (zI x3)] [] zSHc h2 Q) : zAt X 342 1265 599845 7029306 [some (zR 1900), some (zR 0), some (zR 108), some (zI x3)] [] zSHc h Q :=
  sl_1265 (by intros; omega) (by intros; omega) (by intros; omega) (by intros; omega) (by intros; omega) (by intros; omega) (zKs.mono (H h hI (X.getD ((x3 + 1).toNat) 0) (X.getD ((x3 + 2).toNat) 0) (X.getD ((x3 + 3).toNat) 0) (hX _) (hX _) (hX _)) (fun v h1 z => by
    obtain ⟨r, e, q⟩ := z
    subst e
    exact sl_1284c (by intros; omega) (by intros; omega) (by intros; omega) (by intros; omega) (by intros; omega) (by intros; omega) (zKs.mono q (fun v2 h2 zz => by obtain ⟨e2, J2⟩ := zz; subst e2; exact sl_1303c (fun _ => IH h2 J2) (fun z => absurd rfl z)))))
/-- X11_annul -/
def zOp_185 (X : List Int) (I I2 : zHP → Prop) : Prop := ∀ h, I h → ∀ (a0 : Int), z32 a0 → zPairI X 185 295 [zI a0] I2 h
set_option maxHeartbeats 1000000 in
theorem zarm_1308 {X : List Int} {I I2 : zHP → Prop} {h : zHP} {Q : zPO} {x3 : Int} (H : zOp_185 X I I2) (hI : I h) (hX : ∀ j, z32 (X.getD j 0)) (h0 : 0 ≤ x3) (h9 : x3 ≤ (X.length : Int) - 6) (hL : X.length ≤ 3072) (IH : ∀ h2, I2 h2 → zAt X 342 1851 599845 7029306 [some (zR 1900), some (zR 0), some (zR 108), some (zI x3)] [] zSHc h2 Q) : zAt X 342 1308 599845 7029306 [some (zR 1900), some (zR 0), some (zR 108), some (zI x3)] [] zSHc h Q :=
  sl_1308 (by intros; omega) (by intros; omega) (zKs.mono (H h hI (X.getD ((x3 + 1).toNat) 0) (hX _)) (fun v h1 z => by
    obtain ⟨r, e, q⟩ := z
    subst e
    exact sl_1317c (by intros; omega) (by intros; omega) (zKs.mono q (fun v2 h2 zz => by obtain ⟨e2, J2⟩ := zz; subst e2; exact sl_1326c (fun _ => IH h2 J2) (fun z => absurd rfl z)))))
/-- X11_fitting -/
def zOp_186 (X : List Int) (I I2 : zHP → Prop) : Prop := ∀ h, I h → ∀ (a0 : Int) (a1 : Int), z32 a0 → z32 a1 → zPairL X 186 300 [zI a0, zI a1] I2 h
set_option maxHeartbeats 1000000 in
theorem zarm_1331 {X : List Int} {I I2 : zHP → Prop} {h : zHP} {Q : zPO} {x3 : Int} (H : zOp_186 X I I2) (hI : I h) (hX : ∀ j, z32 (X.getD j 0)) (h0 : 0 ≤ x3) (h9 : x3 ≤ (X.length : Int) - 6) (hL : X.length ≤ 3072) (IH : ∀ h2, I2 h2 → zAt X 342 1851 599845 7029306 [some (zR 1900), some (zR 0), some (zR 108), some (zI x3)] [] zSHc h2 Q) : zAt X 342 1331 599845 7029306 [some (zR 1900), some (zR 0), some (zR 108), some (zI x3)] [] zSHc h Q :=
  sl_1331 (by intros; omega) (by intros; omega) (by intros; omega) (by intros; omega) (zKs.mono (H h hI (X.getD ((x3 + 1).toNat) 0) (X.getD ((x3 + 2).toNat) 0) (hX _) (hX _)) (fun v h1 z => by
    obtain ⟨r, e, q⟩ := z
    subst e
    exact sl_1345c (by intros; omega) (by intros; omega) (by intros; omega) (by intros; omega) (zKs.mono q (fun v2 h2 zz => by obtain ⟨e2, J2⟩ := zz; subst e2; exact sl_1359c (fun _ => IH h2 J2) (fun z => absurd rfl z)))))
/-- X11_likely -/
def zOp_187 (X : List Int) (I I2 : zHP → Prop) : Prop := ∀ h, I h → ∀ (a0 : Int) (a1 : Int) (a2 : Int) (a3 : Int), z32 a0 → z32 a1 → z32 a2 → z32 a3 → zPairL X 187 302 [zI a0, zI a1, zI a2, zI a3] I2 h
set_option maxHeartbeats 1000000 in
theorem zarm_1365 {X : List Int} {I I2 : zHP → Prop} {h : zHP} {Q : zPO} {x3 : Int} (H : zOp_187 X I I2) (hI : I h) (hX : ∀ j, z32 (X.getD j 0)) (h0 : 0 ≤ x3) (h9 : x3 ≤ (X.length : Int) - 6) (hL : X.length ≤ 3072) (IH : ∀ h2, I2 h2 → zAt X 342 1851 599845 7029306 [some (zR 1900), some (zR 0), some (zR 108), some (zI x3)] [] zSHc h2 Q) : zAt X 342 1365 599845 7029306 [some (zR 1900), some (zR 0), some (zR 108), some (zI x3)] [] zSHc h Q :=
  sl_1365 (by intros; omega) (by intros; omega) (by intros; omega) (by intros; omega) (by intros; omega) (by intros; omega) (by intros; omega) (by intros; omega) (zKs.mono (H h hI (X.getD ((x3 + 1).toNat) 0) (X.getD ((x3 + 2).toNat) 0) (X.getD ((x3 + 3).toNat) 0) (X.getD ((x3 + 4).toNat) 0) (hX _) (hX _) (hX _) (hX _)) (fun v h1 z => by
    obtain ⟨r, e, q⟩ := z
    subst e
    exact sl_1389c (by intros; omega) (by intros; omega) (by intros; omega) (by intros; omega) (by intros; omega) (by intros; omega) (by intros; omega) (by intros; omega) (zKs.mono q (fun v2 h2 zz => by obtain ⟨e2, J2⟩ := zz; subst e2; exact sl_1413c (fun _ => IH h2 J2) (fun z => absurd rfl z)))))
/-- X11_next -/
def zOp_188 (X : List Int) (I I2 : zHP → Prop) : Prop := ∀ h, I h → ∀ (a0 : Int) (a1 : Int), z32 a0 → z32 a1 → zPairI X 188 303 [zI a0, zI a1] I2 h
set_option maxHeartbeats 1000000 in
theorem zarm_1419 {X : List Int} {I I2 : zHP → Prop} {h : zHP} {Q : zPO} {x3 : Int} (H : zOp_188 X I I2) (hI : I h) (hX : ∀ j, z32 (X.getD j 0)) (h0 : 0 ≤ x3) (h9 : x3 ≤ (X.length : Int) - 6) (hL : X.length ≤ 3072) (IH : ∀ h2, I2 h2 → zAt X 342 1851 599845 7029306 [some (zR 1900), some (zR 0), some (zR 108), some (zI x3)] [] zSHc h2 Q) : zAt X 342 1419 599845 7029306 [some (zR 1900), some (zR 0), some (zR 108), some (zI x3)] [] zSHc h Q :=
  sl_1419 (by intros; omega) (by intros; omega) (by intros; omega) (by intros; omega) (zKs.mono (H h hI (X.getD ((x3 + 1).toNat) 0) (X.getD ((x3 + 2).toNat) 0) (hX _) (hX _)) (fun v h1 z => by
    obtain ⟨r, e, q⟩ := z
    subst e
    exact sl_1433c (by intros; omega) (by intros; omega) (by intros; omega) (by intros; omega) (zKs.mono q (fun v2 h2 zz => by obtain ⟨e2, J2⟩ := zz; subst e2; exact sl_1447c (fun _ => IH h2 J2) (fun z => absurd rfl z)))))
/-- X11_drawn -/
def zOp_189 (X : List Int) (I I2 : zHP → Prop) : Prop := ∀ h, I h → ∀ (a0 : Int) (a1 : Int) (a2 : Int), z32 a0 → z32 a1 → z32 a2 → zPairI X 189 306 [zI a0, zI a1, zI a2] I2 h
set_option maxHeartbeats 1000000 in
theorem zarm_1452 {X : List Int} {I I2 : zHP → Prop} {h : zHP} {Q : zPO} {x3 : Int} (H : zOp_189 X I I2) (hI : I h) (hX : ∀ j, z32 (X.getD j 0)) (h0 : 0 ≤ x3) (h9 : x3 ≤ (X.length : Int) - 6) (hL : X.length ≤ 3072) (IH : ∀ h2, I2 h2 → zAt X 342 1851 599845 7029306 [some (zR 1900), some (zR 0), some (zR 108), some (zI x3)] [] zSHc h2 Q) : zAt X 342 1452 599845 7029306 [some (zR 1900), some (zR 0), some (zR 108), some (zI x3)] [] zSHc h Q :=
  sl_1452 (by intros; omega) (by intros; omega) (by intros; omega) (by intros; omega) (by intros; omega) (by intros; omega) (zKs.mono (H h hI (X.getD ((x3 + 1).toNat) 0) (X.getD ((x3 + 2).toNat) 0) (X.getD ((x3 + 3).toNat) 0) (hX _) (hX _) (hX _)) (fun v h1 z => by
    obtain ⟨r, e, q⟩ := z
    subst e
    exact sl_1471c (by intros; omega) (by intros; omega) (by intros; omega) (by intros; omega) (by intros; omega) (by intros; omega) (zKs.mono q (fun v2 h2 zz => by obtain ⟨e2, J2⟩ := zz; subst e2; exact sl_1490c (fun _ => IH h2 J2) (fun z => absurd rfl z)))))
/-- X11_drawnAt -/
def zOp_190 (X : List Int) (I I2 : zHP → Prop) : Prop := ∀ h, I h → ∀ (a0 : Int) (a1 : Int) (a2 : Int) (a3 : Int), z32 a0 → z32 a1 → z32 a2 → z32 a3 → zPairI X 190 307 [zI a0, zI a1, zI a2, zI a3] I2 h
set_option maxHeartbeats 1000000 in
theorem zarm_1495 {X : List Int} {I I2 : zHP → Prop} {h : zHP} {Q : zPO} {x3 : Int} (H : zOp_190 X I I2) (hI : I h) (hX : ∀ j, z32 (X.getD j 0)) (h0 : 0 ≤ x3) (h9 : x3 ≤ (X.length : Int) - 6) (hL : X.length ≤ 3072) (IH : ∀ h2, I2 h2 → zAt X 342 1851 599845 7029306 [some (zR 1900), some (zR 0), some (zR 108), some (zI x3)] [] zSHc h2 Q) : zAt X 342 1495 599845 7029306 [some (zR 1900), some (zR 0), some (zR 108), some (zI x3)] [] zSHc h Q :=
  sl_1495 (by intros; omega) (by intros; omega) (by intros; omega) (by intros; omega) (by intros; omega) (by intros; omega) (by intros; omega) (by intros; omega) (zKs.mono (H h hI (X.getD ((x3 + 1).toNat) 0) (X.getD ((x3 + 2).toNat) 0) (X.getD ((x3 + 3).toNat) 0) (X.getD ((x3 + 4).toNat) 0) (hX _) (hX _) (hX _) (hX _)) (fun v h1 z => by
    obtain ⟨r, e, q⟩ := z
    subst e
    exact sl_1519c (by intros; omega) (by intros; omega) (by intros; omega) (by intros; omega) (by intros; omega) (by intros; omega) (by intros; omega) (by intros; omega) (zKs.mono q (fun v2 h2 zz => by obtain ⟨e2, J2⟩ := zz; subst e2; exact sl_1543c (fun _ => IH h2 J2) (fun z => absurd rfl z)))))
/-- X11_drawnAll -/
def zOp_191 (X : List Int) (I I2 : zHP → Prop) : Prop := ∀ h, I h → ∀ (a0 : Int) (a1 : Int), z32 a0 → z32 a1 → zPairI X 191 309 [zI a0, zI a1] I2 h
set_option maxHeartbeats 1000000 in
theorem zarm_1548 {X : List Int} {I I2 : zHP → Prop} {h : zHP} {Q : zPO} {x3 : Int} (H : zOp_191 X I I2) (hI : I h) (hX : ∀ j, z32 (X.getD j 0)) (h0 : 0 ≤ x3) (h9 : x3 ≤ (X.length : Int) - 6) (hL : X.length ≤ 3072) (IH : ∀ h2, I2 h2 → zAt X 342 1851 599845 7029306 [some (zR 1900), some (zR 0), some (zR 108), some (zI x3)] [] zSHc h2 Q) : zAt X 342 1548 599845 7029306 [some (zR 1900), some (zR 0), some (zR 108), some (zI x3)] [] zSHc h Q :=
  sl_1548 (by intros; omega) (by intros; omega) (by intros; omega) (by intros; omega) (zKs.mono (H h hI (X.getD ((x3 + 1).toNat) 0) (X.getD ((x3 + 2).toNat) 0) (hX _) (hX _)) (fun v h1 z => by
    obtain ⟨r, e, q⟩ := z
    subst e
    exact sl_1562c (by intros; omega) (by intros; omega) (by intros; omega) (by intros; omega) (zKs.mono q (fun v2 h2 zz => by obtain ⟨e2, J2⟩ := zz; subst e2; exact sl_1576c (fun _ => IH h2 J2) (fun z => absurd rfl z)))))
/-- X11_sorts -/
def zOp_192 (X : List Int) (I I2 : zHP → Prop) : Prop := ∀ h, I h → ∀ (a0 : Int), z32 a0 → zPairI X 192 311 [zI a0] I2 h
set_option maxHeartbeats 1000000 in
theorem zarm_1581 {X : List Int} {I I2 : zHP → Prop} {h : zHP} {Q : zPO} {x3 : Int} (H : zOp_192 X I I2) (hI : I h) (hX : ∀ j, z32 (X.getD j 0)) (h0 : 0 ≤ x3) (h9 : x3 ≤ (X.length : Int) - 6) (hL : X.length ≤ 3072) (IH : ∀ h2, I2 h2 → zAt X 342 1851 599845 7029306 [some (zR 1900), some (zR 0), some (zR 108), some (zI x3)] [] zSHc h2 Q) : zAt X 342 1581 599845 7029306 [some (zR 1900), some (zR 0), some (zR 108), some (zI x3)] [] zSHc h Q :=
  sl_1581 (by intros; omega) (by intros; omega) (zKs.mono (H h hI (X.getD ((x3 + 1).toNat) 0) (hX _)) (fun v h1 z => by
    obtain ⟨r, e, q⟩ := z
    subst e
    exact sl_1590c (by intros; omega) (by intros; omega) (zKs.mono q (fun v2 h2 zz => by obtain ⟨e2, J2⟩ := zz; subst e2; exact sl_1599c (fun _ => IH h2 J2) (fun z => absurd rfl z)))))
/-- X11_unsorted -/
def zOp_193 (X : List Int) (I I2 : zHP → Prop) : Prop := ∀ h, I h → ∀ (a0 : Int), z32 a0 → zPairI X 193 312 [zI a0] I2 h
set_option maxHeartbeats 1000000 in
theorem zarm_1604 {X : List Int} {I I2 : zHP → Prop} {h : zHP} {Q : zPO} {x3 : Int} (H : zOp_193 X I I2) (hI : I h) (hX : ∀ j, z32 (X.getD j 0)) (h0 : 0 ≤ x3) (h9 : x3 ≤ (X.length : Int) - 6) (hL : X.length ≤ 3072) (IH : ∀ h2, I2 h2 → zAt X 342 1851 599845 7029306 [some (zR 1900), some (zR 0), some (zR 108), some (zI x3)] [] zSHc h2 Q) : zAt X 342 1604 599845 7029306 [some (zR 1900), some (zR 0), some (zR 108), some (zI x3)] [] zSHc h Q :=
  sl_1604 (by intros; omega) (by intros; omega) (zKs.mono (H h hI (X.getD ((x3 + 1).toNat) 0) (hX _)) (fun v h1 z => by
    obtain ⟨r, e, q⟩ := z
    subst e
    exact sl_1613c (by intros; omega) (by intros; omega) (zKs.mono q (fun v2 h2 zz => by obtain ⟨e2, J2⟩ := zz; subst e2; exact sl_1622c (fun _ => IH h2 J2) (fun z => absurd rfl z)))))
/-- X11_fails -/
def zOp_194 (X : List Int) (I I2 : zHP → Prop) : Prop := ∀ h, I h → ∀ (a0 : Int), z32 a0 → zPairI X 194 316 [zI a0] I2 h
set_option maxHeartbeats 1000000 in
theorem zarm_1627 {X : List Int} {I I2 : zHP → Prop} {h : zHP} {Q : zPO} {x3 : Int} (H : zOp_194 X I I2) (hI : I h) (hX : ∀ j, z32 (X.getD j 0)) (h0 : 0 ≤ x3) (h9 : x3 ≤ (X.length : Int) - 6) (hL : X.length ≤ 3072) (IH : ∀ h2, I2 h2 → zAt X 342 1851 599845 7029306 [some (zR 1900), some (zR 0), some (zR 108), some (zI x3)] [] zSHc h2 Q) : zAt X 342 1627 599845 7029306 [some (zR 1900), some (zR 0), some (zR 108), some (zI x3)] [] zSHc h Q :=
  sl_1627 (by intros; omega) (by intros; omega) (zKs.mono (H h hI (X.getD ((x3 + 1).toNat) 0) (hX _)) (fun v h1 z => by
    obtain ⟨r, e, q⟩ := z
    subst e
    exact sl_1636c (by intros; omega) (by intros; omega) (zKs.mono q (fun v2 h2 zz => by obtain ⟨e2, J2⟩ := zz; subst e2; exact sl_1645c (fun _ => IH h2 J2) (fun z => absurd rfl z)))))
/-- X11_firstFail -/
def zOp_195 (X : List Int) (I I2 : zHP → Prop) : Prop := ∀ h, I h → ∀ (a0 : Int), z32 a0 → zPairI X 195 317 [zI a0] I2 h
set_option maxHeartbeats 1000000 in
theorem zarm_1650 {X : List Int} {I I2 : zHP → Prop} {h : zHP} {Q : zPO} {x3 : Int} (H : zOp_195 X I I2) (hI : I h) (hX : ∀ j, z32 (X.getD j 0)) (h0 : 0 ≤ x3) (h9 : x3 ≤ (X.length : Int) - 6) (hL : X.length ≤ 3072) (IH : ∀ h2, I2 h2 → zAt X 342 1851 599845 7029306 [some (zR 1900), some (zR 0), some (zR 108), some (zI x3)] [] zSHc h2 Q) : zAt X 342 1650 599845 7029306 [some (zR 1900), some (zR 0), some (zR 108), some (zI x3)] [] zSHc h Q :=
  sl_1650 (by intros; omega) (by intros; omega) (zKs.mono (H h hI (X.getD ((x3 + 1).toNat) 0) (hX _)) (fun v h1 z => by
    obtain ⟨r, e, q⟩ := z
    subst e
    exact sl_1659c (by intros; omega) (by intros; omega) (zKs.mono q (fun v2 h2 zz => by obtain ⟨e2, J2⟩ := zz; subst e2; exact sl_1668c (fun _ => IH h2 J2) (fun z => absurd rfl z)))))
/-- X11_idle -/
def zOp_196 (X : List Int) (I I2 : zHP → Prop) : Prop := ∀ h, I h → ∀ (a0 : Int) (a1 : Int), z32 a0 → z32 a1 → zPairI X 196 318 [zI a0, zI a1] I2 h
set_option maxHeartbeats 1000000 in
theorem zarm_1673 {X : List Int} {I I2 : zHP → Prop} {h : zHP} {Q : zPO} {x3 : Int} (H : zOp_196 X I I2) (hI : I h) (hX : ∀ j, z32 (X.getD j 0)) (h0 : 0 ≤ x3) (h9 : x3 ≤ (X.length : Int) - 6) (hL : X.length ≤ 3072) (IH : ∀ h2, I2 h2 → zAt X 342 1851 599845 7029306 [some (zR 1900), some (zR 0), some (zR 108), some (zI x3)] [] zSHc h2 Q) : zAt X 342 1673 599845 7029306 [some (zR 1900), some (zR 0), some (zR 108), some (zI x3)] [] zSHc h Q :=
  sl_1673 (by intros; omega) (by intros; omega) (by intros; omega) (by intros; omega) (zKs.mono (H h hI (X.getD ((x3 + 1).toNat) 0) (X.getD ((x3 + 2).toNat) 0) (hX _) (hX _)) (fun v h1 z => by
    obtain ⟨r, e, q⟩ := z
    subst e
    exact sl_1687c (by intros; omega) (by intros; omega) (by intros; omega) (by intros; omega) (zKs.mono q (fun v2 h2 zz => by obtain ⟨e2, J2⟩ := zz; subst e2; exact sl_1701c (fun _ => IH h2 J2) (fun z => absurd rfl z)))))
/-- X11_needed -/
def zOp_197 (X : List Int) (I I2 : zHP → Prop) : Prop := ∀ h, I h → ∀ (a0 : Int) (a1 : Int), z32 a0 → z32 a1 → zPairI X 197 319 [zI a0, zI a1] I2 h
set_option maxHeartbeats 1000000 in
theorem zarm_1706 {X : List Int} {I I2 : zHP → Prop} {h : zHP} {Q : zPO} {x3 : Int} (H : zOp_197 X I I2) (hI : I h) (hX : ∀ j, z32 (X.getD j 0)) (h0 : 0 ≤ x3) (h9 : x3 ≤ (X.length : Int) - 6) (hL : X.length ≤ 3072) (IH : ∀ h2, I2 h2 → zAt X 342 1851 599845 7029306 [some (zR 1900), some (zR 0), some (zR 108), some (zI x3)] [] zSHc h2 Q) : zAt X 342 1706 599845 7029306 [some (zR 1900), some (zR 0), some (zR 108), some (zI x3)] [] zSHc h Q :=
  sl_1706 (by intros; omega) (by intros; omega) (by intros; omega) (by intros; omega) (zKs.mono (H h hI (X.getD ((x3 + 1).toNat) 0) (X.getD ((x3 + 2).toNat) 0) (hX _) (hX _)) (fun v h1 z => by
    obtain ⟨r, e, q⟩ := z
    subst e
    exact sl_1720c (by intros; omega) (by intros; omega) (by intros; omega) (by intros; omega) (zKs.mono q (fun v2 h2 zz => by obtain ⟨e2, J2⟩ := zz; subst e2; exact sl_1734c (fun _ => IH h2 J2) (fun z => absurd rfl z)))))
/-- X11_mend -/
def zOp_198 (X : List Int) (I I2 : zHP → Prop) : Prop := ∀ h, I h → ∀ (a0 : Int), z32 a0 → zPairI X 198 324 [zI a0] I2 h
set_option maxHeartbeats 1000000 in
theorem zarm_1739 {X : List Int} {I I2 : zHP → Prop} {h : zHP} {Q : zPO} {x3 : Int} (H : zOp_198 X I I2) (hI : I h) (hX : ∀ j, z32 (X.getD j 0)) (h0 : 0 ≤ x3) (h9 : x3 ≤ (X.length : Int) - 6) (hL : X.length ≤ 3072) (IH : ∀ h2, I2 h2 → zAt X 342 1851 599845 7029306 [some (zR 1900), some (zR 0), some (zR 108), some (zI x3)] [] zSHc h2 Q) : zAt X 342 1739 599845 7029306 [some (zR 1900), some (zR 0), some (zR 108), some (zI x3)] [] zSHc h Q :=
  sl_1739 (by intros; omega) (by intros; omega) (zKs.mono (H h hI (X.getD ((x3 + 1).toNat) 0) (hX _)) (fun v h1 z => by
    obtain ⟨r, e, q⟩ := z
    subst e
    exact sl_1748c (by intros; omega) (by intros; omega) (zKs.mono q (fun v2 h2 zz => by obtain ⟨e2, J2⟩ := zz; subst e2; exact sl_1757c (fun _ => IH h2 J2) (fun z => absurd rfl z)))))
/-- X11_mendAt -/
def zOp_199 (X : List Int) (I I2 : zHP → Prop) : Prop := ∀ h, I h → ∀ (a0 : Int) (a1 : Int), z32 a0 → z32 a1 → zPairI X 199 325 [zI a0, zI a1] I2 h
set_option maxHeartbeats 1000000 in
theorem zarm_1762 {X : List Int} {I I2 : zHP → Prop} {h : zHP} {Q : zPO} {x3 : Int} (H : zOp_199 X I I2) (hI : I h) (hX : ∀ j, z32 (X.getD j 0)) (h0 : 0 ≤ x3) (h9 : x3 ≤ (X.length : Int) - 6) (hL : X.length ≤ 3072) (IH : ∀ h2, I2 h2 → zAt X 342 1851 599845 7029306 [some (zR 1900), some (zR 0), some (zR 108), some (zI x3)] [] zSHc h2 Q) : zAt X 342 1762 599845 7029306 [some (zR 1900), some (zR 0), some (zR 108), some (zI x3)] [] zSHc h Q :=
  sl_1762 (by intros; omega) (by intros; omega) (by intros; omega) (by intros; omega) (zKs.mono (H h hI (X.getD ((x3 + 1).toNat) 0) (X.getD ((x3 + 2).toNat) 0) (hX _) (hX _)) (fun v h1 z => by
    obtain ⟨r, e, q⟩ := z
    subst e
    exact sl_1776c (by intros; omega) (by intros; omega) (by intros; omega) (by intros; omega) (zKs.mono q (fun v2 h2 zz => by obtain ⟨e2, J2⟩ := zz; subst e2; exact sl_1790c (fun _ => IH h2 J2) (fun z => absurd rfl z)))))
/-- X11_unlike -/
def zOp_200 (X : List Int) (I I2 : zHP → Prop) : Prop := ∀ h, I h → ∀ (a0 : Int) (a1 : Int), z32 a0 → z32 a1 → zPairI X 200 326 [zI a0, zI a1] I2 h
set_option maxHeartbeats 1000000 in
theorem zarm_1795 {X : List Int} {I I2 : zHP → Prop} {h : zHP} {Q : zPO} {x3 : Int} (H : zOp_200 X I I2) (hI : I h) (hX : ∀ j, z32 (X.getD j 0)) (h0 : 0 ≤ x3) (h9 : x3 ≤ (X.length : Int) - 6) (hL : X.length ≤ 3072) (IH : ∀ h2, I2 h2 → zAt X 342 1851 599845 7029306 [some (zR 1900), some (zR 0), some (zR 108), some (zI x3)] [] zSHc h2 Q) : zAt X 342 1795 599845 7029306 [some (zR 1900), some (zR 0), some (zR 108), some (zI x3)] [] zSHc h Q :=
  sl_1795 (by intros; omega) (by intros; omega) (by intros; omega) (by intros; omega) (zKs.mono (H h hI (X.getD ((x3 + 1).toNat) 0) (X.getD ((x3 + 2).toNat) 0) (hX _) (hX _)) (fun v h1 z => by
    obtain ⟨r, e, q⟩ := z
    subst e
    exact sl_1809c (by intros; omega) (by intros; omega) (by intros; omega) (by intros; omega) (zKs.mono q (fun v2 h2 zz => by obtain ⟨e2, J2⟩ := zz; subst e2; exact sl_1823c (fun _ => IH h2 J2) (fun z => absurd rfl z)))))
/-- X11_count -/
def zOp_201 (X : List Int) (I I2 : zHP → Prop) : Prop := ∀ h, I h → ∀ (a0 : Int), z32 a0 → zPairI X 201 327 [zI a0] I2 h
set_option maxHeartbeats 1000000 in
theorem zarm_1828 {X : List Int} {I I2 : zHP → Prop} {h : zHP} {Q : zPO} {x3 : Int} (H : zOp_201 X I I2) (hI : I h) (hX : ∀ j, z32 (X.getD j 0)) (h0 : 0 ≤ x3) (h9 : x3 ≤ (X.length : Int) - 6) (hL : X.length ≤ 3072) (IH : ∀ h2, I2 h2 → zAt X 342 1851 599845 7029306 [some (zR 1900), some (zR 0), some (zR 108), some (zI x3)] [] zSHc h2 Q) : zAt X 342 1828 599845 7029306 [some (zR 1900), some (zR 0), some (zR 108), some (zI x3)] [] zSHc h Q :=
  sl_1828 (by intros; omega) (by intros; omega) (zKs.mono (H h hI (X.getD ((x3 + 1).toNat) 0) (hX _)) (fun v h1 z => by
    obtain ⟨r, e, q⟩ := z
    subst e
    exact sl_1837c (by intros; omega) (by intros; omega) (zKs.mono q (fun v2 h2 zz => by obtain ⟨e2, J2⟩ := zz; subst e2; exact sl_1846c (fun _ => IH h2 J2) (fun z => absurd rfl z)))))
theorem zlaw_loop {X : List Int} {I : Nat → zHP → Prop} {Q : zPO} (hX : ∀ j, z32 (X.getD j 0)) (hL : X.length ≤ 3072) (hI0 : ∀ k h, I k h → I (k + 1) h) (H158 : ∀ k, k < 1000 → zOp_158 X (I k) (I (k + 1))) (H159 : ∀ k, k < 1000 → zOp_159 X (I k) (I (k + 1))) (H160 : ∀ k, k < 1000 → zOp_160 X (I k) (I (k + 1))) (H161 : ∀ k, k < 1000 → zOp_161 X (I k) (I (k + 1))) (H162 : ∀ k, k < 1000 → zOp_162 X (I k) (I (k + 1))) (H163 : ∀ k, k < 1000 → zOp_163 X (I k) (I (k + 1))) (H164 : ∀ k, k < 1000 → zOp_164 X (I k) (I (k + 1))) (H165 : ∀ k, k < 1000 → zOp_165 X (I k) (I (k + 1))) (H166 : ∀ k, k < 1000 → zOp_166 X (I k) (I (k + 1))) (H167 : ∀ k, k < 1000 → zOp_167 X (I k) (I (k + 1))) (H168 : ∀ k, k < 1000 → zOp_168 X (I k) (I (k + 1))) (H169 : ∀ k, k < 1000 → zOp_169 X (I k) (I (k + 1))) (H170 : ∀ k, k < 1000 → zOp_170 X (I k) (I (k + 1))) (H171 : ∀ k, k < 1000 → zOp_171 X (I k) (I (k + 1))) (H172 : ∀ k, k < 1000 → zOp_172 X (I k) (I (k + 1))) (H173 : ∀ k, k < 1000 → zOp_173 X (I k) (I (k + 1))) (H174 : ∀ k, k < 1000 → zOp_174 X (I k) (I (k + 1))) (H175 : ∀ k, k < 1000 → zOp_175 X (I k) (I (k + 1))) (H176 : ∀ k, k < 1000 → zOp_176 X (I k) (I (k + 1))) (H177 : ∀ k, k < 1000 → zOp_177 X (I k) (I (k + 1))) (H178 : ∀ k, k < 1000 → zOp_178 X (I k) (I (k + 1))) (H179 : ∀ k, k < 1000 → zOp_179 X (I k) (I (k + 1))) (H180 : ∀ k, k < 1000 → zOp_180 X (I k) (I (k + 1))) (H181 : ∀ k, k < 1000 → zOp_181 X (I k) (I (k + 1))) (H182 : ∀ k, k < 1000 → zOp_182 X (I k) (I (k + 1))) (H183 : ∀ k, k < 1000 → zOp_183 X (I k) (I (k + 1))) (H184 : ∀ k, k < 1000 → zOp_184 X (I k) (I (k + 1))) (H185 : ∀ k, k < 1000 → zOp_185 X (I k) (I (k + 1))) (H186 : ∀ k, k < 1000 → zOp_186 X (I k) (I (k + 1))) (H187 : ∀ k, k < 1000 → zOp_187 X (I k) (I (k + 1))) (H188 : ∀ k, k < 1000 → zOp_188 X (I k) (I (k + 1))) (H189 : ∀ k, k < 1000 → zOp_189 X (I k) (I (k + 1))) (H190 : ∀ k, k < 1000 → zOp_190 X (I k) (I (k + 1))) (H191 : ∀ k, k < 1000 → zOp_191 X (I k) (I (k + 1))) (H192 : ∀ k, k < 1000 → zOp_192 X (I k) (I (k + 1))) (H193 : ∀ k, k < 1000 → zOp_193 X (I k) (I (k + 1))) (H194 : ∀ k, k < 1000 → zOp_194 X (I k) (I (k + 1))) (H195 : ∀ k, k < 1000 → zOp_195 X (I k) (I (k + 1))) (H196 : ∀ k, k < 1000 → zOp_196 X (I k) (I (k + 1))) (H197 : ∀ k, k < 1000 → zOp_197 X (I k) (I (k + 1))) (H198 : ∀ k, k < 1000 → zOp_198 X (I k) (I (k + 1))) (H199 : ∀ k, k < 1000 → zOp_199 X (I k) (I (k + 1))) (H200 : ∀ k, k < 1000 → zOp_200 X (I k) (I (k + 1))) (H201 : ∀ k, k < 1000 → zOp_201 X (I k) (I (k + 1))) (hQ : ∀ h, Q (some (zI 1)) zSHc h) : ∀ (m k : Nat) (x3 : Int) (h : zHP), ((X.length : Int) + 6 - x3).toNat ≤ m → x3 = 6 * (k : Int) → I k h → zAt X 342 18 599845 7029306 [some (zR 1900), some (zR 0), some (zR 108), some (zI x3)] [] zSHc h Q := by
  intro m
  induction m with
  | zero =>
    intro k x3 h hm h6 hI
    have h0 : 0 ≤ x3 := by omega
    have hk : x3 ≤ (X.length : Int) - 6 → k < 1000 := fun g => by omega
    have nx : x3 ≤ (X.length : Int) - 6 → ∀ h2, I (k + 1) h2 → zAt X 342 1851 599845 7029306 [some (zR 1900), some (zR 0), some (zR 108), some (zI x3)] [] zSHc h2 Q := fun g => absurd hm (by omega)
    have nx0 : x3 ≤ (X.length : Int) - 6 → zAt X 342 1851 599845 7029306 [some (zR 1900), some (zR 0), some (zR 108), some (zI x3)] [] zSHc h Q := fun g => absurd hm (by omega)
    exact sl_head (by intros; omega) (fun _ => hQ h) (by intros; omega) (fun g _ => nx0 g) (fun g _ => zarm_224 (H158 k (hk g)) hI hX h0 g hL (nx g)) (fun g _ => zarm_287 (H159 k (hk g)) hI hX h0 g hL (nx g)) (fun g _ => zarm_310 (H160 k (hk g)) hI hX h0 g hL (nx g)) (fun g _ => zarm_323 (H161 k (hk g)) hI hX h0 g hL (nx g)) (fun g _ => zarm_336 (H162 k (hk g)) hI hX h0 g hL (nx g)) (fun g _ => zarm_349 (H163 k (hk g)) hI hX h0 g hL (nx g)) (fun g _ => zarm_424 (H164 k (hk g)) hI hX h0 g hL (nx g)) (fun g _ => zarm_457 (H165 k (hk g)) hI hX h0 g hL (nx g)) (fun g _ => zarm_526 (H166 k (hk g)) hI hX h0 g hL (nx g)) (fun g _ => zarm_559 (H167 k (hk g)) hI hX h0 g hL (nx g)) (fun g _ => zarm_602 (H168 k (hk g)) hI hX h0 g hL (nx g)) (fun g _ => zarm_645 (H169 k (hk g)) hI hX h0 g hL (nx g)) (fun g _ => zarm_688 (H170 k (hk g)) hI hX h0 g hL (nx g)) (fun g _ => zarm_741 (H171 k (hk g)) hI hX h0 g hL (nx g)) (fun g _ => zarm_774 (H172 k (hk g)) hI hX h0 g hL (nx g)) (fun g _ => zarm_808 (H173 k (hk g)) hI hX h0 g hL (nx g)) (fun g _ => zarm_891 (H174 k (hk g)) hI hX h0 g hL (nx g)) (fun g _ => zarm_915 (H175 k (hk g)) hI hX h0 g hL (nx g)) (fun g _ => zarm_938 (H176 k (hk g)) hI hX h0 g hL (nx g)) (fun g _ => zarm_971 (H177 k (hk g)) hI hX h0 g hL (nx g)) (fun g _ => zarm_1024 (H178 k (hk g)) hI hX h0 g hL (nx g)) (fun g _ => zarm_1077 (H179 k (hk g)) hI hX h0 g hL (nx g)) (fun g _ => zarm_1110 (H180 k (hk g)) hI hX h0 g hL (nx g)) (fun g _ => zarm_1134 (H181 k (hk g)) hI hX h0 g hL (nx g)) (fun g _ => zarm_1188 (H182 k (hk g)) hI hX h0 g hL (nx g)) (fun g _ => zarm_1232 (H183 k (hk g)) hI hX h0 g hL (nx g)) (fun g _ => zarm_1265 (H184 k (hk g)) hI hX h0 g hL (nx g)) (fun g _ => zarm_1308 (H185 k (hk g)) hI hX h0 g hL (nx g)) (fun g _ => zarm_1331 (H186 k (hk g)) hI hX h0 g hL (nx g)) (fun g _ => zarm_1365 (H187 k (hk g)) hI hX h0 g hL (nx g)) (fun g _ => zarm_1419 (H188 k (hk g)) hI hX h0 g hL (nx g)) (fun g _ => zarm_1452 (H189 k (hk g)) hI hX h0 g hL (nx g)) (fun g _ => zarm_1495 (H190 k (hk g)) hI hX h0 g hL (nx g)) (fun g _ => zarm_1548 (H191 k (hk g)) hI hX h0 g hL (nx g)) (fun g _ => zarm_1581 (H192 k (hk g)) hI hX h0 g hL (nx g)) (fun g _ => zarm_1604 (H193 k (hk g)) hI hX h0 g hL (nx g)) (fun g _ => zarm_1627 (H194 k (hk g)) hI hX h0 g hL (nx g)) (fun g _ => zarm_1650 (H195 k (hk g)) hI hX h0 g hL (nx g)) (fun g _ => zarm_1673 (H196 k (hk g)) hI hX h0 g hL (nx g)) (fun g _ => zarm_1706 (H197 k (hk g)) hI hX h0 g hL (nx g)) (fun g _ => zarm_1739 (H198 k (hk g)) hI hX h0 g hL (nx g)) (fun g _ => zarm_1762 (H199 k (hk g)) hI hX h0 g hL (nx g)) (fun g _ => zarm_1795 (H200 k (hk g)) hI hX h0 g hL (nx g)) (fun g _ => zarm_1828 (H201 k (hk g)) hI hX h0 g hL (nx g))
  | succ m ih =>
    intro k x3 h hm h6 hI
    have h0 : 0 ≤ x3 := by omega
    have hk : x3 ≤ (X.length : Int) - 6 → k < 1000 := fun g => by omega
    have nx : x3 ≤ (X.length : Int) - 6 → ∀ h2, I (k + 1) h2 → zAt X 342 1851 599845 7029306 [some (zR 1900), some (zR 0), some (zR 108), some (zI x3)] [] zSHc h2 Q := fun g h2 J2 => sl_1851 (by omega) (ih (k + 1) (x3 + 6) h2 (by omega) (by omega) J2)
    have nx0 : x3 ≤ (X.length : Int) - 6 → zAt X 342 1851 599845 7029306 [some (zR 1900), some (zR 0), some (zR 108), some (zI x3)] [] zSHc h Q := fun g => nx g h (hI0 k h hI)
    exact sl_head (by intros; omega) (fun _ => hQ h) (by intros; omega) (fun g _ => nx0 g) (fun g _ => zarm_224 (H158 k (hk g)) hI hX h0 g hL (nx g)) (fun g _ => zarm_287 (H159 k (hk g)) hI hX h0 g hL (nx g)) (fun g _ => zarm_310 (H160 k (hk g)) hI hX h0 g hL (nx g)) (fun g _ => zarm_323 (H161 k (hk g)) hI hX h0 g hL (nx g)) (fun g _ => zarm_336 (H162 k (hk g)) hI hX h0 g hL (nx g)) (fun g _ => zarm_349 (H163 k (hk g)) hI hX h0 g hL (nx g)) (fun g _ => zarm_424 (H164 k (hk g)) hI hX h0 g hL (nx g)) (fun g _ => zarm_457 (H165 k (hk g)) hI hX h0 g hL (nx g)) (fun g _ => zarm_526 (H166 k (hk g)) hI hX h0 g hL (nx g)) (fun g _ => zarm_559 (H167 k (hk g)) hI hX h0 g hL (nx g)) (fun g _ => zarm_602 (H168 k (hk g)) hI hX h0 g hL (nx g)) (fun g _ => zarm_645 (H169 k (hk g)) hI hX h0 g hL (nx g)) (fun g _ => zarm_688 (H170 k (hk g)) hI hX h0 g hL (nx g)) (fun g _ => zarm_741 (H171 k (hk g)) hI hX h0 g hL (nx g)) (fun g _ => zarm_774 (H172 k (hk g)) hI hX h0 g hL (nx g)) (fun g _ => zarm_808 (H173 k (hk g)) hI hX h0 g hL (nx g)) (fun g _ => zarm_891 (H174 k (hk g)) hI hX h0 g hL (nx g)) (fun g _ => zarm_915 (H175 k (hk g)) hI hX h0 g hL (nx g)) (fun g _ => zarm_938 (H176 k (hk g)) hI hX h0 g hL (nx g)) (fun g _ => zarm_971 (H177 k (hk g)) hI hX h0 g hL (nx g)) (fun g _ => zarm_1024 (H178 k (hk g)) hI hX h0 g hL (nx g)) (fun g _ => zarm_1077 (H179 k (hk g)) hI hX h0 g hL (nx g)) (fun g _ => zarm_1110 (H180 k (hk g)) hI hX h0 g hL (nx g)) (fun g _ => zarm_1134 (H181 k (hk g)) hI hX h0 g hL (nx g)) (fun g _ => zarm_1188 (H182 k (hk g)) hI hX h0 g hL (nx g)) (fun g _ => zarm_1232 (H183 k (hk g)) hI hX h0 g hL (nx g)) (fun g _ => zarm_1265 (H184 k (hk g)) hI hX h0 g hL (nx g)) (fun g _ => zarm_1308 (H185 k (hk g)) hI hX h0 g hL (nx g)) (fun g _ => zarm_1331 (H186 k (hk g)) hI hX h0 g hL (nx g)) (fun g _ => zarm_1365 (H187 k (hk g)) hI hX h0 g hL (nx g)) (fun g _ => zarm_1419 (H188 k (hk g)) hI hX h0 g hL (nx g)) (fun g _ => zarm_1452 (H189 k (hk g)) hI hX h0 g hL (nx g)) (fun g _ => zarm_1495 (H190 k (hk g)) hI hX h0 g hL (nx g)) (fun g _ => zarm_1548 (H191 k (hk g)) hI hX h0 g hL (nx g)) (fun g _ => zarm_1581 (H192 k (hk g)) hI hX h0 g hL (nx g)) (fun g _ => zarm_1604 (H193 k (hk g)) hI hX h0 g hL (nx g)) (fun g _ => zarm_1627 (H194 k (hk g)) hI hX h0 g hL (nx g)) (fun g _ => zarm_1650 (H195 k (hk g)) hI hX h0 g hL (nx g)) (fun g _ => zarm_1673 (H196 k (hk g)) hI hX h0 g hL (nx g)) (fun g _ => zarm_1706 (H197 k (hk g)) hI hX h0 g hL (nx g)) (fun g _ => zarm_1739 (H198 k (hk g)) hI hX h0 g hL (nx g)) (fun g _ => zarm_1762 (H199 k (hk g)) hI hX h0 g hL (nx g)) (fun g _ => zarm_1795 (H200 k (hk g)) hI hX h0 g hL (nx g)) (fun g _ => zarm_1828 (H201 k (hk g)) hI hX h0 g hL (nx g))
