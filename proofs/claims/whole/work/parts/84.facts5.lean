/-! looked at by program: the instructions of the law -/
set_option maxRecDepth 100000 in
theorem zkl_0 : (((zcode 341).drop 0).take 200).all (zck 341) = true := by decide +kernel
set_option maxRecDepth 100000 in
theorem zkl_200 : (((zcode 341).drop 200).take 200).all (zck 341) = true := by decide +kernel
set_option maxRecDepth 100000 in
theorem zkl_400 : (((zcode 341).drop 400).take 200).all (zck 341) = true := by decide +kernel
set_option maxRecDepth 100000 in
theorem zkl_600 : (((zcode 341).drop 600).take 200).all (zck 341) = true := by decide +kernel
set_option maxRecDepth 100000 in
theorem zkl_800 : (((zcode 341).drop 800).take 200).all (zck 341) = true := by decide +kernel
set_option maxRecDepth 100000 in
theorem zkl_1000 : (((zcode 341).drop 1000).take 200).all (zck 341) = true := by decide +kernel
set_option maxRecDepth 100000 in
theorem zkl_1200 : (((zcode 341).drop 1200).take 200).all (zck 341) = true := by decide +kernel
theorem zall_cut {α : Type} {f : α → Bool} : ∀ {l : List α} {a b : Nat}, (l.take a).all f = true → (l.drop a).all f = true → l.all f = true := fun {l} {a} _ h1 h2 => by
  rw [← List.take_append_drop a l, List.all_append, h1, h2]; rfl
set_option maxRecDepth 100000 in
theorem zkl_end : ((zcode 341).drop 1400).all (zck 341) = true := by
  have e : (zcode 341).drop 1400 = [] := rfl
  rw [e]; rfl
theorem zkd_1200 : ((zcode 341).drop 1200).all (zck 341) = true := by
  refine zall_cut (a := 200) (b := 0) zkl_1200 ?_
  rw [List.drop_drop]
  exact zkl_end
theorem zkd_1000 : ((zcode 341).drop 1000).all (zck 341) = true := by
  refine zall_cut (a := 200) (b := 0) zkl_1000 ?_
  rw [List.drop_drop]
  exact zkd_1200
theorem zkd_800 : ((zcode 341).drop 800).all (zck 341) = true := by
  refine zall_cut (a := 200) (b := 0) zkl_800 ?_
  rw [List.drop_drop]
  exact zkd_1000
theorem zkd_600 : ((zcode 341).drop 600).all (zck 341) = true := by
  refine zall_cut (a := 200) (b := 0) zkl_600 ?_
  rw [List.drop_drop]
  exact zkd_800
theorem zkd_400 : ((zcode 341).drop 400).all (zck 341) = true := by
  refine zall_cut (a := 200) (b := 0) zkl_400 ?_
  rw [List.drop_drop]
  exact zkd_600
theorem zkd_200 : ((zcode 341).drop 200).all (zck 341) = true := by
  refine zall_cut (a := 200) (b := 0) zkl_200 ?_
  rw [List.drop_drop]
  exact zkd_400
theorem zkd_0 : ((zcode 341).drop 0).all (zck 341) = true := by
  refine zall_cut (a := 200) (b := 0) zkl_0 ?_
  rw [List.drop_drop]
  exact zkd_200
theorem zk_341 : zckM 341 = true := zkd_0
theorem zkAll : ∀ i, i < 342 → zckM i = true := by
  intro i hi
  rcases Nat.lt_or_ge i 341 with h341 | h341
  · skip
    rcases Nat.lt_or_ge i 198 with h198 | h198
    · skip
      rcases Nat.lt_or_ge i 90 with h90 | h90
      · skip
        rcases Nat.lt_or_ge i 48 with h48 | h48
        · skip
          rcases Nat.lt_or_ge i 26 with h26 | h26
          · exact List.all_eq_true.mp zk_0 i (List.mem_range'_1.mpr ⟨by omega, by omega⟩)
          · exact List.all_eq_true.mp zk_26 i (List.mem_range'_1.mpr ⟨by omega, by omega⟩)
        · skip
          rcases Nat.lt_or_ge i 69 with h69 | h69
          · exact List.all_eq_true.mp zk_48 i (List.mem_range'_1.mpr ⟨by omega, by omega⟩)
          · exact List.all_eq_true.mp zk_69 i (List.mem_range'_1.mpr ⟨by omega, by omega⟩)
      · skip
        rcases Nat.lt_or_ge i 124 with h124 | h124
        · skip
          rcases Nat.lt_or_ge i 106 with h106 | h106
          · exact List.all_eq_true.mp zk_90 i (List.mem_range'_1.mpr ⟨by omega, by omega⟩)
          · exact List.all_eq_true.mp zk_106 i (List.mem_range'_1.mpr ⟨by omega, by omega⟩)
        · skip
          rcases Nat.lt_or_ge i 150 with h150 | h150
          · exact List.all_eq_true.mp zk_124 i (List.mem_range'_1.mpr ⟨by omega, by omega⟩)
          · skip
            rcases Nat.lt_or_ge i 168 with h168 | h168
            · exact List.all_eq_true.mp zk_150 i (List.mem_range'_1.mpr ⟨by omega, by omega⟩)
            · exact List.all_eq_true.mp zk_168 i (List.mem_range'_1.mpr ⟨by omega, by omega⟩)
    · skip
      rcases Nat.lt_or_ge i 263 with h263 | h263
      · skip
        rcases Nat.lt_or_ge i 235 with h235 | h235
        · skip
          rcases Nat.lt_or_ge i 218 with h218 | h218
          · exact List.all_eq_true.mp zk_198 i (List.mem_range'_1.mpr ⟨by omega, by omega⟩)
          · exact List.all_eq_true.mp zk_218 i (List.mem_range'_1.mpr ⟨by omega, by omega⟩)
        · skip
          rcases Nat.lt_or_ge i 249 with h249 | h249
          · exact List.all_eq_true.mp zk_235 i (List.mem_range'_1.mpr ⟨by omega, by omega⟩)
          · exact List.all_eq_true.mp zk_249 i (List.mem_range'_1.mpr ⟨by omega, by omega⟩)
      · skip
        rcases Nat.lt_or_ge i 289 with h289 | h289
        · skip
          rcases Nat.lt_or_ge i 279 with h279 | h279
          · exact List.all_eq_true.mp zk_263 i (List.mem_range'_1.mpr ⟨by omega, by omega⟩)
          · exact List.all_eq_true.mp zk_279 i (List.mem_range'_1.mpr ⟨by omega, by omega⟩)
        · skip
          rcases Nat.lt_or_ge i 308 with h308 | h308
          · exact List.all_eq_true.mp zk_289 i (List.mem_range'_1.mpr ⟨by omega, by omega⟩)
          · skip
            rcases Nat.lt_or_ge i 323 with h323 | h323
            · exact List.all_eq_true.mp zk_308 i (List.mem_range'_1.mpr ⟨by omega, by omega⟩)
            · exact List.all_eq_true.mp zk_323 i (List.mem_range'_1.mpr ⟨by omega, by omega⟩)
  · have e : i = 341 := by omega
    subst e; exact zk_341
theorem zF : zFacts := ⟨zfm, zkAll, zmAll, zcwAll, zacAll, zoi1, zoi2⟩
