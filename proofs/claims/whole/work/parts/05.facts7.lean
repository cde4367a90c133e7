/-! looked at by program: the instructions of the law -/
set_option maxRecDepth 100000 in
theorem zkl_960 : (((zcode 342).drop 960).take 60).all (zck 342) = true := by decide +kernel
set_option maxRecDepth 100000 in
theorem zkl_1020 : (((zcode 342).drop 1020).take 60).all (zck 342) = true := by decide +kernel
set_option maxRecDepth 100000 in
theorem zkl_1080 : (((zcode 342).drop 1080).take 60).all (zck 342) = true := by decide +kernel
set_option maxRecDepth 100000 in
theorem zkl_1140 : (((zcode 342).drop 1140).take 60).all (zck 342) = true := by decide +kernel
set_option maxRecDepth 100000 in
theorem zkl_1200 : (((zcode 342).drop 1200).take 60).all (zck 342) = true := by decide +kernel
set_option maxRecDepth 100000 in
theorem zkl_1260 : (((zcode 342).drop 1260).take 60).all (zck 342) = true := by decide +kernel
set_option maxRecDepth 100000 in
theorem zkl_1320 : (((zcode 342).drop 1320).take 60).all (zck 342) = true := by decide +kernel
theorem zall_cut {α : Type} {f : α → Bool} : ∀ {l : List α} {a b : Nat}, (l.take a).all f = true → (l.drop a).all f = true → l.all f = true := fun {l} {a} _ h1 h2 => by
  rw [← List.take_append_drop a l, List.all_append, h1, h2]; rfl
set_option maxRecDepth 100000 in
theorem zkl_end : ((zcode 342).drop 1380).all (zck 342) = true := by
  have e : (zcode 342).drop 1380 = [] := rfl
  rw [e]; rfl
theorem zkd_1320 : ((zcode 342).drop 1320).all (zck 342) = true := by
  refine zall_cut (a := 60) (b := 0) zkl_1320 ?_
  rw [List.drop_drop]
  exact zkl_end
theorem zkd_1260 : ((zcode 342).drop 1260).all (zck 342) = true := by
  refine zall_cut (a := 60) (b := 0) zkl_1260 ?_
  rw [List.drop_drop]
  exact zkd_1320
theorem zkd_1200 : ((zcode 342).drop 1200).all (zck 342) = true := by
  refine zall_cut (a := 60) (b := 0) zkl_1200 ?_
  rw [List.drop_drop]
  exact zkd_1260
theorem zkd_1140 : ((zcode 342).drop 1140).all (zck 342) = true := by
  refine zall_cut (a := 60) (b := 0) zkl_1140 ?_
  rw [List.drop_drop]
  exact zkd_1200
theorem zkd_1080 : ((zcode 342).drop 1080).all (zck 342) = true := by
  refine zall_cut (a := 60) (b := 0) zkl_1080 ?_
  rw [List.drop_drop]
  exact zkd_1140
theorem zkd_1020 : ((zcode 342).drop 1020).all (zck 342) = true := by
  refine zall_cut (a := 60) (b := 0) zkl_1020 ?_
  rw [List.drop_drop]
  exact zkd_1080
theorem zkd_960 : ((zcode 342).drop 960).all (zck 342) = true := by
  refine zall_cut (a := 60) (b := 0) zkl_960 ?_
  rw [List.drop_drop]
  exact zkd_1020
theorem zkd_900 : ((zcode 342).drop 900).all (zck 342) = true := by
  refine zall_cut (a := 60) (b := 0) zkl_900 ?_
  rw [List.drop_drop]
  exact zkd_960
theorem zkd_840 : ((zcode 342).drop 840).all (zck 342) = true := by
  refine zall_cut (a := 60) (b := 0) zkl_840 ?_
  rw [List.drop_drop]
  exact zkd_900
theorem zkd_780 : ((zcode 342).drop 780).all (zck 342) = true := by
  refine zall_cut (a := 60) (b := 0) zkl_780 ?_
  rw [List.drop_drop]
  exact zkd_840
theorem zkd_720 : ((zcode 342).drop 720).all (zck 342) = true := by
  refine zall_cut (a := 60) (b := 0) zkl_720 ?_
  rw [List.drop_drop]
  exact zkd_780
theorem zkd_660 : ((zcode 342).drop 660).all (zck 342) = true := by
  refine zall_cut (a := 60) (b := 0) zkl_660 ?_
  rw [List.drop_drop]
  exact zkd_720
theorem zkd_600 : ((zcode 342).drop 600).all (zck 342) = true := by
  refine zall_cut (a := 60) (b := 0) zkl_600 ?_
  rw [List.drop_drop]
  exact zkd_660
theorem zkd_540 : ((zcode 342).drop 540).all (zck 342) = true := by
  refine zall_cut (a := 60) (b := 0) zkl_540 ?_
  rw [List.drop_drop]
  exact zkd_600
theorem zkd_480 : ((zcode 342).drop 480).all (zck 342) = true := by
  refine zall_cut (a := 60) (b := 0) zkl_480 ?_
  rw [List.drop_drop]
  exact zkd_540
theorem zkd_420 : ((zcode 342).drop 420).all (zck 342) = true := by
  refine zall_cut (a := 60) (b := 0) zkl_420 ?_
  rw [List.drop_drop]
  exact zkd_480
theorem zkd_360 : ((zcode 342).drop 360).all (zck 342) = true := by
  refine zall_cut (a := 60) (b := 0) zkl_360 ?_
  rw [List.drop_drop]
  exact zkd_420
theorem zkd_300 : ((zcode 342).drop 300).all (zck 342) = true := by
  refine zall_cut (a := 60) (b := 0) zkl_300 ?_
  rw [List.drop_drop]
  exact zkd_360
theorem zkd_240 : ((zcode 342).drop 240).all (zck 342) = true := by
  refine zall_cut (a := 60) (b := 0) zkl_240 ?_
  rw [List.drop_drop]
  exact zkd_300
theorem zkd_180 : ((zcode 342).drop 180).all (zck 342) = true := by
  refine zall_cut (a := 60) (b := 0) zkl_180 ?_
  rw [List.drop_drop]
  exact zkd_240
theorem zkd_120 : ((zcode 342).drop 120).all (zck 342) = true := by
  refine zall_cut (a := 60) (b := 0) zkl_120 ?_
  rw [List.drop_drop]
  exact zkd_180
theorem zkd_60 : ((zcode 342).drop 60).all (zck 342) = true := by
  refine zall_cut (a := 60) (b := 0) zkl_60 ?_
  rw [List.drop_drop]
  exact zkd_120
theorem zkd_0 : ((zcode 342).drop 0).all (zck 342) = true := by
  refine zall_cut (a := 60) (b := 0) zkl_0 ?_
  rw [List.drop_drop]
  exact zkd_60
theorem zk_342 : zckM 342 = true := zkd_0
theorem zkAll : ∀ i, i < 343 → zckM i = true := by
  intro i hi
  rcases Nat.lt_or_ge i 342 with h342 | h342
  · skip
    rcases Nat.lt_or_ge i 198 with h198 | h198
    · skip
      rcases Nat.lt_or_ge i 90 with h90 | h90
      · skip
        rcases Nat.lt_or_ge i 48 with h48 | h48
        · skip
          rcases Nat.lt_or_ge i 26 with h26 | h26
          · exact List.all_eq_true.mp zk_0 i (List.mem_range'_1.mpr ⟨by omega, by omega⟩)
          · exact List.all_eq_true.mp zk_26 i (List.mem_range'_1.mpr ⟨by omega, by omega⟩)
        · skip
          rcases Nat.lt_or_ge i 69 with h69 | h69
          · exact List.all_eq_true.mp zk_48 i (List.mem_range'_1.mpr ⟨by omega, by omega⟩)
          · exact List.all_eq_true.mp zk_69 i (List.mem_range'_1.mpr ⟨by omega, by omega⟩)
      · skip
        rcases Nat.lt_or_ge i 124 with h124 | h124
        · skip
          rcases Nat.lt_or_ge i 106 with h106 | h106
          · exact List.all_eq_true.mp zk_90 i (List.mem_range'_1.mpr ⟨by omega, by omega⟩)
          · exact List.all_eq_true.mp zk_106 i (List.mem_range'_1.mpr ⟨by omega, by omega⟩)
        · skip
          rcases Nat.lt_or_ge i 150 with h150 | h150
          · exact List.all_eq_true.mp zk_124 i (List.mem_range'_1.mpr ⟨by omega, by omega⟩)
          · skip
            rcases Nat.lt_or_ge i 168 with h168 | h168
            · exact List.all_eq_true.mp zk_150 i (List.mem_range'_1.mpr ⟨by omega, by omega⟩)
            · exact List.all_eq_true.mp zk_168 i (List.mem_range'_1.mpr ⟨by omega, by omega⟩)
    · skip
      rcases Nat.lt_or_ge i 263 with h263 | h263
      · skip
        rcases Nat.lt_or_ge i 235 with h235 | h235
        · skip
          rcases Nat.lt_or_ge i 218 with h218 | h218
          · exact List.all_eq_true.mp zk_198 i (List.mem_range'_1.mpr ⟨by omega, by omega⟩)
          · exact List.all_eq_true.mp zk_218 i (List.mem_range'_1.mpr ⟨by omega, by omega⟩)
        · skip
          rcases Nat.lt_or_ge i 249 with h249 | h249
          · exact List.all_eq_true.mp zk_235 i (List.mem_range'_1.mpr ⟨by omega, by omega⟩)
          · exact List.all_eq_true.mp zk_249 i (List.mem_range'_1.mpr ⟨by omega, by omega⟩)
      · skip
        rcases Nat.lt_or_ge i 289 with h289 | h289
        · skip
          rcases Nat.lt_or_ge i 279 with h279 | h279
          · exact List.all_eq_true.mp zk_263 i (List.mem_range'_1.mpr ⟨by omega, by omega⟩)
          · exact List.all_eq_true.mp zk_279 i (List.mem_range'_1.mpr ⟨by omega, by omega⟩)
        · skip
          rcases Nat.lt_or_ge i 308 with h308 | h308
          · exact List.all_eq_true.mp zk_289 i (List.mem_range'_1.mpr ⟨by omega, by omega⟩)
          · skip
            rcases Nat.lt_or_ge i 323 with h323 | h323
            · exact List.all_eq_true.mp zk_308 i (List.mem_range'_1.mpr ⟨by omega, by omega⟩)
            · exact List.all_eq_true.mp zk_323 i (List.mem_range'_1.mpr ⟨by omega, by omega⟩)
  · have e : i = 342 := by omega
    subst e; exact zk_342
theorem zF : zFacts := ⟨zfm, zkAll, zmAll, zcwAll, zacAll, zoi1, zoi2⟩
