/-! looked at by program: classes, other words -/
set_option maxRecDepth 100000 in
theorem zcw_0 : ((u_ws RX0 TX0 6).all fun w => decide (w ∈ lw_tbl) && goodWord w) = true := by decide +kernel
set_option maxRecDepth 100000 in
theorem zcz_0 : ∀ k, k < 6 → ztc (zTy 0 k) (zft 0 k : Int) = true := by decide +kernel
set_option maxRecDepth 100000 in
theorem zcw_1 : ((u_ws RX1 TX1 6).all fun w => decide (w ∈ lw_tbl) && goodWord w) = true := by decide +kernel
set_option maxRecDepth 100000 in
theorem zcz_1 : ∀ k, k < 6 → ztc (zTy 1 k) (zft 1 k : Int) = true := by decide +kernel
set_option maxRecDepth 100000 in
theorem zcw_2 : ((u_ws RX2 TX2 3).all fun w => decide (w ∈ lw_tbl) && goodWord w) = true := by decide +kernel
set_option maxRecDepth 100000 in
theorem zcz_2 : ∀ k, k < 3 → ztc (zTy 2 k) (zft 2 k : Int) = true := by decide +kernel
set_option maxRecDepth 100000 in
theorem zcw_3 : ((u_ws RX3 TX3 12).all fun w => decide (w ∈ lw_tbl) && goodWord w) = true := by decide +kernel
set_option maxRecDepth 100000 in
theorem zcz_3 : ∀ k, k < 12 → ztc (zTy 3 k) (zft 3 k : Int) = true := by decide +kernel
set_option maxRecDepth 100000 in
theorem zcw_4 : ((u_ws RX4 TX4 8).all fun w => decide (w ∈ lw_tbl) && goodWord w) = true := by decide +kernel
set_option maxRecDepth 100000 in
theorem zcz_4 : ∀ k, k < 8 → ztc (zTy 4 k) (zft 4 k : Int) = true := by decide +kernel
set_option maxRecDepth 100000 in
theorem zcw_5 : ((u_ws RX5 TX5 11).all fun w => decide (w ∈ lw_tbl) && goodWord w) = true := by decide +kernel
set_option maxRecDepth 100000 in
theorem zcz_5 : ∀ k, k < 11 → ztc (zTy 5 k) (zft 5 k : Int) = true := by decide +kernel
set_option maxRecDepth 100000 in
theorem zcw_6 : ((u_ws RX6 TX6 2).all fun w => decide (w ∈ lw_tbl) && goodWord w) = true := by decide +kernel
set_option maxRecDepth 100000 in
theorem zcz_6 : ∀ k, k < 2 → ztc (zTy 6 k) (zft 6 k : Int) = true := by decide +kernel
set_option maxRecDepth 100000 in
theorem zcw_7 : ((u_ws RX7 TX7 7).all fun w => decide (w ∈ lw_tbl) && goodWord w) = true := by decide +kernel
set_option maxRecDepth 100000 in
theorem zcz_7 : ∀ k, k < 7 → ztc (zTy 7 k) (zft 7 k : Int) = true := by decide +kernel
set_option maxRecDepth 100000 in
theorem zcw_8 : ((u_ws RX8 TX8 16).all fun w => decide (w ∈ lw_tbl) && goodWord w) = true := by decide +kernel
set_option maxRecDepth 100000 in
theorem zcz_8 : ∀ k, k < 16 → ztc (zTy 8 k) (zft 8 k : Int) = true := by decide +kernel
set_option maxRecDepth 100000 in
theorem zcw_9 : ((u_ws RX9 TX9 17).all fun w => decide (w ∈ lw_tbl) && goodWord w) = true := by decide +kernel
set_option maxRecDepth 100000 in
theorem zcz_9 : ∀ k, k < 17 → ztc (zTy 9 k) (zft 9 k : Int) = true := by decide +kernel
set_option maxRecDepth 100000 in
theorem zcw_10 : ((u_ws RX10 TX10 10).all fun w => decide (w ∈ lw_tbl) && goodWord w) = true := by decide +kernel
set_option maxRecDepth 100000 in
theorem zcz_10 : ∀ k, k < 10 → ztc (zTy 10 k) (zft 10 k : Int) = true := by decide +kernel
set_option maxRecDepth 100000 in
theorem zcw_11 : ((u_ws RX11 TX11 15).all fun w => decide (w ∈ lw_tbl) && goodWord w) = true := by decide +kernel
set_option maxRecDepth 100000 in
theorem zcz_11 : ∀ k, k < 15 → ztc (zTy 11 k) (zft 11 k : Int) = true := by decide +kernel
set_option maxRecDepth 100000 in
theorem zcw_12 : ((u_ws RX12 TX12 60).all fun w => decide (w ∈ lw_tbl) && goodWord w) = true := by decide +kernel
set_option maxRecDepth 100000 in
theorem zcz_12 : ∀ k, k < 60 → ztc (zTy 12 k) (zft 12 k : Int) = true := by decide +kernel
theorem zcw_in {ws : List Cond} (h : (ws.all fun w => decide (w ∈ lw_tbl) && goodWord w) = true) : ∀ w ∈ ws, w ∈ zT := by
  intro w hw
  have h1 := List.all_eq_true.mp h w hw
  rw [Bool.and_eq_true, decide_eq_true_eq] at h1
  exact List.mem_filter.mpr h1
set_option maxRecDepth 100000 in
theorem zcwAll : zCW := by
  intro c C T N h
  have hl : c < 13 := (List.getElem?_eq_some_iff.mp h).1

  rcases (show c = 0 ∨ c = 1 ∨ c = 2 ∨ c = 3 ∨ c = 4 ∨ c = 5 ∨ c = 6 ∨ c = 7 ∨ c = 8 ∨ c = 9 ∨ c = 10 ∨ c = 11 ∨ c = 12 by omega) with e | e | e | e | e | e | e | e | e | e | e | e | e <;> subst e
  · cases h
    exact ⟨zcw_in zcw_0, tyX0_ok, nmX0, zmem (p := 366) rfl rfl, zmem (p := 134) rfl rfl, rfl, by decide, zcz_0⟩
  · cases h
    exact ⟨zcw_in zcw_1, tyX1_ok, nmX1, zmem (p := 189) rfl rfl, zmem (p := 129) rfl rfl, rfl, by decide, zcz_1⟩
  · cases h
    exact ⟨zcw_in zcw_2, tyX2_ok, nmX2, zmem (p := 171) rfl rfl, zmem (p := 128) rfl rfl, rfl, by decide, zcz_2⟩
  · cases h
    exact ⟨zcw_in zcw_3, tyX3_ok, nmX3, zmem (p := 321) rfl rfl, zmem (p := 133) rfl rfl, rfl, by decide, zcz_3⟩
  · cases h
    exact ⟨zcw_in zcw_4, tyX4_ok, nmX4, zmem (p := 391) rfl rfl, zmem (p := 135) rfl rfl, rfl, by decide, zcz_4⟩
  · cases h
    exact ⟨zcw_in zcw_5, tyX5_ok, nmX5, zmem (p := 281) rfl rfl, zmem (p := 132) rfl rfl, rfl, by decide, zcz_5⟩
  · cases h
    exact ⟨zcw_in zcw_6, tyX6_ok, nmX6, zmem (p := 157) rfl rfl, zmem (p := 127) rfl rfl, rfl, by decide, zcz_6⟩
  · cases h
    exact ⟨zcw_in zcw_7, tyX7_ok, nmX7, zmem (p := 252) rfl rfl, zmem (p := 131) rfl rfl, rfl, by decide, zcz_7⟩
  · cases h
    exact ⟨zcw_in zcw_8, tyX8_ok, nmX8, zmem (p := 535) rfl rfl, zmem (p := 141) rfl rfl, rfl, by decide, zcz_8⟩
  · cases h
    exact ⟨zcw_in zcw_9, tyX9_ok, nmX9, zmem (p := 422) rfl rfl, zmem (p := 136) rfl rfl, rfl, by decide, zcz_9⟩
  · cases h
    exact ⟨zcw_in zcw_10, tyX10_ok, nmX10, zmem (p := 215) rfl rfl, zmem (p := 130) rfl rfl, rfl, by decide, zcz_10⟩
  · cases h
    exact ⟨zcw_in zcw_11, tyX11_ok, nmX11, zmem (p := 149) rfl rfl, zmem (p := 126) rfl rfl, rfl, by decide, zcz_11⟩
  · cases h
    exact ⟨zcw_in zcw_12, tyX12_ok, nmX12, zmem (p := 1548) rfl rfl, zmem (p := 142) rfl rfl, rfl, by decide, zcz_12⟩

set_option maxRecDepth 100000 in
theorem zacAll : ∀ t : ArrayType, zatp t ≤ 4 → Cond.arrayClass (newarray.typeOf t) ∈ zT := by
  intro t ht
  cases t
  case int => exact zmem (p := 213) rfl rfl
  case long => exact zmem (p := 186) rfl rfl
  case short => exact zmem (p := 169) rfl rfl
  case byte => exact zmem (p := 533) rfl rfl
  case boolean => exact zmem (p := 279) rfl rfl
  all_goals exact absurd ht (by decide)
set_option maxRecDepth 100000 in
theorem zoi1 : Cond.instanceMethod Lib.objectInit ∈ zT := zmem (p := 154) rfl rfl
set_option maxRecDepth 100000 in
theorem zoi2 : Cond.code Lib.objectInit ⟨#[0xb1]⟩ 1 none ∈ zT := zmem (p := 155) rfl rfl
set_option maxRecDepth 100000 in
theorem zfm : zFmath := ⟨zmem (p := 143) rfl rfl, ⟨zmem (p := 810) rfl rfl, zmem (p := 811) rfl rfl⟩, ⟨zmem (p := 825) rfl rfl, zmem (p := 826) rfl rfl⟩, ⟨zmem (p := 1152) rfl rfl, zmem (p := 1153) rfl rfl⟩, ⟨zmem (p := 1331) rfl rfl, zmem (p := 1332) rfl rfl⟩, ⟨zmem (p := 807) rfl rfl, zmem (p := 808) rfl rfl⟩⟩
theorem zmAll : ∀ j, j < 342 → zMk j := by
  intro j hj
  rcases Nat.lt_or_ge j 171 with h171 | h171
  · skip
    rcases Nat.lt_or_ge j 85 with h85 | h85
    · skip
      rcases Nat.lt_or_ge j 42 with h42 | h42
      · skip
        rcases Nat.lt_or_ge j 21 with h21 | h21
        · skip
          rcases Nat.lt_or_ge j 10 with h10 | h10
          · skip
            rcases Nat.lt_or_ge j 5 with h5 | h5
            · skip
              rcases Nat.lt_or_ge j 2 with h2 | h2
              · skip
                rcases Nat.lt_or_ge j 1 with h1 | h1
                · have e : j = 0 := by omega
                  subst e; exact zm_0
                · have e : j = 1 := by omega
                  subst e; exact zm_1
              · skip
                rcases Nat.lt_or_ge j 3 with h3 | h3
                · have e : j = 2 := by omega
                  subst e; exact zm_2
                · skip
                  rcases Nat.lt_or_ge j 4 with h4 | h4
                  · have e : j = 3 := by omega
                    subst e; exact zm_3
                  · have e : j = 4 := by omega
                    subst e; exact zm_4
            · skip
              rcases Nat.lt_or_ge j 7 with h7 | h7
              · skip
                rcases Nat.lt_or_ge j 6 with h6 | h6
                · have e : j = 5 := by omega
                  subst e; exact zm_5
                · have e : j = 6 := by omega
                  subst e; exact zm_6
              · skip
                rcases Nat.lt_or_ge j 8 with h8 | h8
                · have e : j = 7 := by omega
                  subst e; exact zm_7
                · skip
                  rcases Nat.lt_or_ge j 9 with h9 | h9
                  · have e : j = 8 := by omega
                    subst e; exact zm_8
                  · have e : j = 9 := by omega
                    subst e; exact zm_9
          · skip
            rcases Nat.lt_or_ge j 15 with h15 | h15
            · skip
              rcases Nat.lt_or_ge j 12 with h12 | h12
              · skip
                rcases Nat.lt_or_ge j 11 with h11 | h11
                · have e : j = 10 := by omega
                  subst e; exact zm_10
                · have e : j = 11 := by omega
                  subst e; exact zm_11
              · skip
                rcases Nat.lt_or_ge j 13 with h13 | h13
                · have e : j = 12 := by omega
                  subst e; exact zm_12
                · skip
                  rcases Nat.lt_or_ge j 14 with h14 | h14
                  · have e : j = 13 := by omega
                    subst e; exact zm_13
                  · have e : j = 14 := by omega
                    subst e; exact zm_14
            · skip
              rcases Nat.lt_or_ge j 18 with h18 | h18
              · skip
                rcases Nat.lt_or_ge j 16 with h16 | h16
                · have e : j = 15 := by omega
                  subst e; exact zm_15
                · skip
                  rcases Nat.lt_or_ge j 17 with h17 | h17
                  · have e : j = 16 := by omega
                    subst e; exact zm_16
                  · have e : j = 17 := by omega
                    subst e; exact zm_17
              · skip
                rcases Nat.lt_or_ge j 19 with h19 | h19
                · have e : j = 18 := by omega
                  subst e; exact zm_18
                · skip
                  rcases Nat.lt_or_ge j 20 with h20 | h20
                  · have e : j = 19 := by omega
                    subst e; exact zm_19
                  · have e : j = 20 := by omega
                    subst e; exact zm_20
        · skip
          rcases Nat.lt_or_ge j 31 with h31 | h31
          · skip
            rcases Nat.lt_or_ge j 26 with h26 | h26
            · skip
              rcases Nat.lt_or_ge j 23 with h23 | h23
              · skip
                rcases Nat.lt_or_ge j 22 with h22 | h22
                · have e : j = 21 := by omega
                  subst e; exact zm_21
                · have e : j = 22 := by omega
                  subst e; exact zm_22
              · skip
                rcases Nat.lt_or_ge j 24 with h24 | h24
                · have e : j = 23 := by omega
                  subst e; exact zm_23
                · skip
                  rcases Nat.lt_or_ge j 25 with h25 | h25
                  · have e : j = 24 := by omega
                    subst e; exact zm_24
                  · have e : j = 25 := by omega
                    subst e; exact zm_25
            · skip
              rcases Nat.lt_or_ge j 28 with h28 | h28
              · skip
                rcases Nat.lt_or_ge j 27 with h27 | h27
                · have e : j = 26 := by omega
                  subst e; exact zm_26
                · have e : j = 27 := by omega
                  subst e; exact zm_27
              · skip
                rcases Nat.lt_or_ge j 29 with h29 | h29
                · have e : j = 28 := by omega
                  subst e; exact zm_28
                · skip
                  rcases Nat.lt_or_ge j 30 with h30 | h30
                  · have e : j = 29 := by omega
                    subst e; exact zm_29
                  · have e : j = 30 := by omega
                    subst e; exact zm_30
          · skip
            rcases Nat.lt_or_ge j 36 with h36 | h36
            · skip
              rcases Nat.lt_or_ge j 33 with h33 | h33
              · skip
                rcases Nat.lt_or_ge j 32 with h32 | h32
                · have e : j = 31 := by omega
                  subst e; exact zm_31
                · have e : j = 32 := by omega
                  subst e; exact zm_32
              · skip
                rcases Nat.lt_or_ge j 34 with h34 | h34
                · have e : j = 33 := by omega
                  subst e; exact zm_33
                · skip
                  rcases Nat.lt_or_ge j 35 with h35 | h35
                  · have e : j = 34 := by omega
                    subst e; exact zm_34
                  · have e : j = 35 := by omega
                    subst e; exact zm_35
            · skip
              rcases Nat.lt_or_ge j 39 with h39 | h39
              · skip
                rcases Nat.lt_or_ge j 37 with h37 | h37
                · have e : j = 36 := by omega
                  subst e; exact zm_36
                · skip
                  rcases Nat.lt_or_ge j 38 with h38 | h38
                  · have e : j = 37 := by omega
                    subst e; exact zm_37
                  · have e : j = 38 := by omega
                    subst e; exact zm_38
              · skip
                rcases Nat.lt_or_ge j 40 with h40 | h40
                · have e : j = 39 := by omega
                  subst e; exact zm_39
                · skip
                  rcases Nat.lt_or_ge j 41 with h41 | h41
                  · have e : j = 40 := by omega
                    subst e; exact zm_40
                  · have e : j = 41 := by omega
                    subst e; exact zm_41
      · skip
        rcases Nat.lt_or_ge j 63 with h63 | h63
        · skip
          rcases Nat.lt_or_ge j 52 with h52 | h52
          · skip
            rcases Nat.lt_or_ge j 47 with h47 | h47
            · skip
              rcases Nat.lt_or_ge j 44 with h44 | h44
              · skip
                rcases Nat.lt_or_ge j 43 with h43 | h43
                · have e : j = 42 := by omega
                  subst e; exact zm_42
                · have e : j = 43 := by omega
                  subst e; exact zm_43
              · skip
                rcases Nat.lt_or_ge j 45 with h45 | h45
                · have e : j = 44 := by omega
                  subst e; exact zm_44
                · skip
                  rcases Nat.lt_or_ge j 46 with h46 | h46
                  · have e : j = 45 := by omega
                    subst e; exact zm_45
                  · have e : j = 46 := by omega
                    subst e; exact zm_46
            · skip
              rcases Nat.lt_or_ge j 49 with h49 | h49
              · skip
                rcases Nat.lt_or_ge j 48 with h48 | h48
                · have e : j = 47 := by omega
                  subst e; exact zm_47
                · have e : j = 48 := by omega
                  subst e; exact zm_48
              · skip
                rcases Nat.lt_or_ge j 50 with h50 | h50
                · have e : j = 49 := by omega
                  subst e; exact zm_49
                · skip
                  rcases Nat.lt_or_ge j 51 with h51 | h51
                  · have e : j = 50 := by omega
                    subst e; exact zm_50
                  · have e : j = 51 := by omega
                    subst e; exact zm_51
          · skip
            rcases Nat.lt_or_ge j 57 with h57 | h57
            · skip
              rcases Nat.lt_or_ge j 54 with h54 | h54
              · skip
                rcases Nat.lt_or_ge j 53 with h53 | h53
                · have e : j = 52 := by omega
                  subst e; exact zm_52
                · have e : j = 53 := by omega
                  subst e; exact zm_53
              · skip
                rcases Nat.lt_or_ge j 55 with h55 | h55
                · have e : j = 54 := by omega
                  subst e; exact zm_54
                · skip
                  rcases Nat.lt_or_ge j 56 with h56 | h56
                  · have e : j = 55 := by omega
                    subst e; exact zm_55
                  · have e : j = 56 := by omega
                    subst e; exact zm_56
            · skip
              rcases Nat.lt_or_ge j 60 with h60 | h60
              · skip
                rcases Nat.lt_or_ge j 58 with h58 | h58
                · have e : j = 57 := by omega
                  subst e; exact zm_57
                · skip
                  rcases Nat.lt_or_ge j 59 with h59 | h59
                  · have e : j = 58 := by omega
                    subst e; exact zm_58
                  · have e : j = 59 := by omega
                    subst e; exact zm_59
              · skip
                rcases Nat.lt_or_ge j 61 with h61 | h61
                · have e : j = 60 := by omega
                  subst e; exact zm_60
                · skip
                  rcases Nat.lt_or_ge j 62 with h62 | h62
                  · have e : j = 61 := by omega
                    subst e; exact zm_61
                  · have e : j = 62 := by omega
                    subst e; exact zm_62
        · skip
          rcases Nat.lt_or_ge j 74 with h74 | h74
          · skip
            rcases Nat.lt_or_ge j 68 with h68 | h68
            · skip
              rcases Nat.lt_or_ge j 65 with h65 | h65
              · skip
                rcases Nat.lt_or_ge j 64 with h64 | h64
                · have e : j = 63 := by omega
                  subst e; exact zm_63
                · have e : j = 64 := by omega
                  subst e; exact zm_64
              · skip
                rcases Nat.lt_or_ge j 66 with h66 | h66
                · have e : j = 65 := by omega
                  subst e; exact zm_65
                · skip
                  rcases Nat.lt_or_ge j 67 with h67 | h67
                  · have e : j = 66 := by omega
                    subst e; exact zm_66
                  · have e : j = 67 := by omega
                    subst e; exact zm_67
            · skip
              rcases Nat.lt_or_ge j 71 with h71 | h71
              · skip
                rcases Nat.lt_or_ge j 69 with h69 | h69
                · have e : j = 68 := by omega
                  subst e; exact zm_68
                · skip
                  rcases Nat.lt_or_ge j 70 with h70 | h70
                  · have e : j = 69 := by omega
                    subst e; exact zm_69
                  · have e : j = 70 := by omega
                    subst e; exact zm_70
              · skip
                rcases Nat.lt_or_ge j 72 with h72 | h72
                · have e : j = 71 := by omega
                  subst e; exact zm_71
                · skip
                  rcases Nat.lt_or_ge j 73 with h73 | h73
                  · have e : j = 72 := by omega
                    subst e; exact zm_72
                  · have e : j = 73 := by omega
                    subst e; exact zm_73
          · skip
            rcases Nat.lt_or_ge j 79 with h79 | h79
            · skip
              rcases Nat.lt_or_ge j 76 with h76 | h76
              · skip
                rcases Nat.lt_or_ge j 75 with h75 | h75
                · have e : j = 74 := by omega
                  subst e; exact zm_74
                · have e : j = 75 := by omega
                  subst e; exact zm_75
              · skip
                rcases Nat.lt_or_ge j 77 with h77 | h77
                · have e : j = 76 := by omega
                  subst e; exact zm_76
                · skip
                  rcases Nat.lt_or_ge j 78 with h78 | h78
                  · have e : j = 77 := by omega
                    subst e; exact zm_77
                  · have e : j = 78 := by omega
                    subst e; exact zm_78
            · skip
              rcases Nat.lt_or_ge j 82 with h82 | h82
              · skip
                rcases Nat.lt_or_ge j 80 with h80 | h80
                · have e : j = 79 := by omega
                  subst e; exact zm_79
                · skip
                  rcases Nat.lt_or_ge j 81 with h81 | h81
                  · have e : j = 80 := by omega
                    subst e; exact zm_80
                  · have e : j = 81 := by omega
                    subst e; exact zm_81
              · skip
                rcases Nat.lt_or_ge j 83 with h83 | h83
                · have e : j = 82 := by omega
                  subst e; exact zm_82
                · skip
                  rcases Nat.lt_or_ge j 84 with h84 | h84
                  · have e : j = 83 := by omega
                    subst e; exact zm_83
                  · have e : j = 84 := by omega
                    subst e; exact zm_84
    · skip
      rcases Nat.lt_or_ge j 128 with h128 | h128
      · skip
        rcases Nat.lt_or_ge j 106 with h106 | h106
        · skip
          rcases Nat.lt_or_ge j 95 with h95 | h95
          · skip
            rcases Nat.lt_or_ge j 90 with h90 | h90
            · skip
              rcases Nat.lt_or_ge j 87 with h87 | h87
              · skip
                rcases Nat.lt_or_ge j 86 with h86 | h86
                · have e : j = 85 := by omega
                  subst e; exact zm_85
                · have e : j = 86 := by omega
                  subst e; exact zm_86
              · skip
                rcases Nat.lt_or_ge j 88 with h88 | h88
                · have e : j = 87 := by omega
                  subst e; exact zm_87
                · skip
                  rcases Nat.lt_or_ge j 89 with h89 | h89
                  · have e : j = 88 := by omega
                    subst e; exact zm_88
                  · have e : j = 89 := by omega
                    subst e; exact zm_89
            · skip
              rcases Nat.lt_or_ge j 92 with h92 | h92
              · skip
                rcases Nat.lt_or_ge j 91 with h91 | h91
                · have e : j = 90 := by omega
                  subst e; exact zm_90
                · have e : j = 91 := by omega
                  subst e; exact zm_91
              · skip
                rcases Nat.lt_or_ge j 93 with h93 | h93
                · have e : j = 92 := by omega
                  subst e; exact zm_92
                · skip
                  rcases Nat.lt_or_ge j 94 with h94 | h94
                  · have e : j = 93 := by omega
                    subst e; exact zm_93
                  · have e : j = 94 := by omega
                    subst e; exact zm_94
          · skip
            rcases Nat.lt_or_ge j 100 with h100 | h100
            · skip
              rcases Nat.lt_or_ge j 97 with h97 | h97
              · skip
                rcases Nat.lt_or_ge j 96 with h96 | h96
                · have e : j = 95 := by omega
                  subst e; exact zm_95
                · have e : j = 96 := by omega
                  subst e; exact zm_96
              · skip
                rcases Nat.lt_or_ge j 98 with h98 | h98
                · have e : j = 97 := by omega
                  subst e; exact zm_97
                · skip
                  rcases Nat.lt_or_ge j 99 with h99 | h99
                  · have e : j = 98 := by omega
                    subst e; exact zm_98
                  · have e : j = 99 := by omega
                    subst e; exact zm_99
            · skip
              rcases Nat.lt_or_ge j 103 with h103 | h103
              · skip
                rcases Nat.lt_or_ge j 101 with h101 | h101
                · have e : j = 100 := by omega
                  subst e; exact zm_100
                · skip
                  rcases Nat.lt_or_ge j 102 with h102 | h102
                  · have e : j = 101 := by omega
                    subst e; exact zm_101
                  · have e : j = 102 := by omega
                    subst e; exact zm_102
              · skip
                rcases Nat.lt_or_ge j 104 with h104 | h104
                · have e : j = 103 := by omega
                  subst e; exact zm_103
                · skip
                  rcases Nat.lt_or_ge j 105 with h105 | h105
                  · have e : j = 104 := by omega
                    subst e; exact zm_104
                  · have e : j = 105 := by omega
                    subst e; exact zm_105
        · skip
          rcases Nat.lt_or_ge j 117 with h117 | h117
          · skip
            rcases Nat.lt_or_ge j 111 with h111 | h111
            · skip
              rcases Nat.lt_or_ge j 108 with h108 | h108
              · skip
                rcases Nat.lt_or_ge j 107 with h107 | h107
                · have e : j = 106 := by omega
                  subst e; exact zm_106
                · have e : j = 107 := by omega
                  subst e; exact zm_107
              · skip
                rcases Nat.lt_or_ge j 109 with h109 | h109
                · have e : j = 108 := by omega
                  subst e; exact zm_108
                · skip
                  rcases Nat.lt_or_ge j 110 with h110 | h110
                  · have e : j = 109 := by omega
                    subst e; exact zm_109
                  · have e : j = 110 := by omega
                    subst e; exact zm_110
            · skip
              rcases Nat.lt_or_ge j 114 with h114 | h114
              · skip
                rcases Nat.lt_or_ge j 112 with h112 | h112
                · have e : j = 111 := by omega
                  subst e; exact zm_111
                · skip
                  rcases Nat.lt_or_ge j 113 with h113 | h113
                  · have e : j = 112 := by omega
                    subst e; exact zm_112
                  · have e : j = 113 := by omega
                    subst e; exact zm_113
              · skip
                rcases Nat.lt_or_ge j 115 with h115 | h115
                · have e : j = 114 := by omega
                  subst e; exact zm_114
                · skip
                  rcases Nat.lt_or_ge j 116 with h116 | h116
                  · have e : j = 115 := by omega
                    subst e; exact zm_115
                  · have e : j = 116 := by omega
                    subst e; exact zm_116
          · skip
            rcases Nat.lt_or_ge j 122 with h122 | h122
            · skip
              rcases Nat.lt_or_ge j 119 with h119 | h119
              · skip
                rcases Nat.lt_or_ge j 118 with h118 | h118
                · have e : j = 117 := by omega
                  subst e; exact zm_117
                · have e : j = 118 := by omega
                  subst e; exact zm_118
              · skip
                rcases Nat.lt_or_ge j 120 with h120 | h120
                · have e : j = 119 := by omega
                  subst e; exact zm_119
                · skip
                  rcases Nat.lt_or_ge j 121 with h121 | h121
                  · have e : j = 120 := by omega
                    subst e; exact zm_120
                  · have e : j = 121 := by omega
                    subst e; exact zm_121
            · skip
              rcases Nat.lt_or_ge j 125 with h125 | h125
              · skip
                rcases Nat.lt_or_ge j 123 with h123 | h123
                · have e : j = 122 := by omega
                  subst e; exact zm_122
                · skip
                  rcases Nat.lt_or_ge j 124 with h124 | h124
                  · have e : j = 123 := by omega
                    subst e; exact zm_123
                  · have e : j = 124 := by omega
                    subst e; exact zm_124
              · skip
                rcases Nat.lt_or_ge j 126 with h126 | h126
                · have e : j = 125 := by omega
                  subst e; exact zm_125
                · skip
                  rcases Nat.lt_or_ge j 127 with h127 | h127
                  · have e : j = 126 := by omega
                    subst e; exact zm_126
                  · have e : j = 127 := by omega
                    subst e; exact zm_127
      · skip
        rcases Nat.lt_or_ge j 149 with h149 | h149
        · skip
          rcases Nat.lt_or_ge j 138 with h138 | h138
          · skip
            rcases Nat.lt_or_ge j 133 with h133 | h133
            · skip
              rcases Nat.lt_or_ge j 130 with h130 | h130
              · skip
                rcases Nat.lt_or_ge j 129 with h129 | h129
                · have e : j = 128 := by omega
                  subst e; exact zm_128
                · have e : j = 129 := by omega
                  subst e; exact zm_129
              · skip
                rcases Nat.lt_or_ge j 131 with h131 | h131
                · have e : j = 130 := by omega
                  subst e; exact zm_130
                · skip
                  rcases Nat.lt_or_ge j 132 with h132 | h132
                  · have e : j = 131 := by omega
                    subst e; exact zm_131
                  · have e : j = 132 := by omega
                    subst e; exact zm_132
            · skip
              rcases Nat.lt_or_ge j 135 with h135 | h135
              · skip
                rcases Nat.lt_or_ge j 134 with h134 | h134
                · have e : j = 133 := by omega
                  subst e; exact zm_133
                · have e : j = 134 := by omega
                  subst e; exact zm_134
              · skip
                rcases Nat.lt_or_ge j 136 with h136 | h136
                · have e : j = 135 := by omega
                  subst e; exact zm_135
                · skip
                  rcases Nat.lt_or_ge j 137 with h137 | h137
                  · have e : j = 136 := by omega
                    subst e; exact zm_136
                  · have e : j = 137 := by omega
                    subst e; exact zm_137
          · skip
            rcases Nat.lt_or_ge j 143 with h143 | h143
            · skip
              rcases Nat.lt_or_ge j 140 with h140 | h140
              · skip
                rcases Nat.lt_or_ge j 139 with h139 | h139
                · have e : j = 138 := by omega
                  subst e; exact zm_138
                · have e : j = 139 := by omega
                  subst e; exact zm_139
              · skip
                rcases Nat.lt_or_ge j 141 with h141 | h141
                · have e : j = 140 := by omega
                  subst e; exact zm_140
                · skip
                  rcases Nat.lt_or_ge j 142 with h142 | h142
                  · have e : j = 141 := by omega
                    subst e; exact zm_141
                  · have e : j = 142 := by omega
                    subst e; exact zm_142
            · skip
              rcases Nat.lt_or_ge j 146 with h146 | h146
              · skip
                rcases Nat.lt_or_ge j 144 with h144 | h144
                · have e : j = 143 := by omega
                  subst e; exact zm_143
                · skip
                  rcases Nat.lt_or_ge j 145 with h145 | h145
                  · have e : j = 144 := by omega
                    subst e; exact zm_144
                  · have e : j = 145 := by omega
                    subst e; exact zm_145
              · skip
                rcases Nat.lt_or_ge j 147 with h147 | h147
                · have e : j = 146 := by omega
                  subst e; exact zm_146
                · skip
                  rcases Nat.lt_or_ge j 148 with h148 | h148
                  · have e : j = 147 := by omega
                    subst e; exact zm_147
                  · have e : j = 148 := by omega
                    subst e; exact zm_148
        · skip
          rcases Nat.lt_or_ge j 160 with h160 | h160
          · skip
            rcases Nat.lt_or_ge j 154 with h154 | h154
            · skip
              rcases Nat.lt_or_ge j 151 with h151 | h151
              · skip
                rcases Nat.lt_or_ge j 150 with h150 | h150
                · have e : j = 149 := by omega
                  subst e; exact zm_149
                · have e : j = 150 := by omega
                  subst e; exact zm_150
              · skip
                rcases Nat.lt_or_ge j 152 with h152 | h152
                · have e : j = 151 := by omega
                  subst e; exact zm_151
                · skip
                  rcases Nat.lt_or_ge j 153 with h153 | h153
                  · have e : j = 152 := by omega
                    subst e; exact zm_152
                  · have e : j = 153 := by omega
                    subst e; exact zm_153
            · skip
              rcases Nat.lt_or_ge j 157 with h157 | h157
              · skip
                rcases Nat.lt_or_ge j 155 with h155 | h155
                · have e : j = 154 := by omega
                  subst e; exact zm_154
                · skip
                  rcases Nat.lt_or_ge j 156 with h156 | h156
                  · have e : j = 155 := by omega
                    subst e; exact zm_155
                  · have e : j = 156 := by omega
                    subst e; exact zm_156
              · skip
                rcases Nat.lt_or_ge j 158 with h158 | h158
                · have e : j = 157 := by omega
                  subst e; exact zm_157
                · skip
                  rcases Nat.lt_or_ge j 159 with h159 | h159
                  · have e : j = 158 := by omega
                    subst e; exact zm_158
                  · have e : j = 159 := by omega
                    subst e; exact zm_159
          · skip
            rcases Nat.lt_or_ge j 165 with h165 | h165
            · skip
              rcases Nat.lt_or_ge j 162 with h162 | h162
              · skip
                rcases Nat.lt_or_ge j 161 with h161 | h161
                · have e : j = 160 := by omega
                  subst e; exact zm_160
                · have e : j = 161 := by omega
                  subst e; exact zm_161
              · skip
                rcases Nat.lt_or_ge j 163 with h163 | h163
                · have e : j = 162 := by omega
                  subst e; exact zm_162
                · skip
                  rcases Nat.lt_or_ge j 164 with h164 | h164
                  · have e : j = 163 := by omega
                    subst e; exact zm_163
                  · have e : j = 164 := by omega
                    subst e; exact zm_164
            · skip
              rcases Nat.lt_or_ge j 168 with h168 | h168
              · skip
                rcases Nat.lt_or_ge j 166 with h166 | h166
                · have e : j = 165 := by omega
                  subst e; exact zm_165
                · skip
                  rcases Nat.lt_or_ge j 167 with h167 | h167
                  · have e : j = 166 := by omega
                    subst e; exact zm_166
                  · have e : j = 167 := by omega
                    subst e; exact zm_167
              · skip
                rcases Nat.lt_or_ge j 169 with h169 | h169
                · have e : j = 168 := by omega
                  subst e; exact zm_168
                · skip
                  rcases Nat.lt_or_ge j 170 with h170 | h170
                  · have e : j = 169 := by omega
                    subst e; exact zm_169
                  · have e : j = 170 := by omega
                    subst e; exact zm_170
  · skip
    rcases Nat.lt_or_ge j 256 with h256 | h256
    · skip
      rcases Nat.lt_or_ge j 213 with h213 | h213
      · skip
        rcases Nat.lt_or_ge j 192 with h192 | h192
        · skip
          rcases Nat.lt_or_ge j 181 with h181 | h181
          · skip
            rcases Nat.lt_or_ge j 176 with h176 | h176
            · skip
              rcases Nat.lt_or_ge j 173 with h173 | h173
              · skip
                rcases Nat.lt_or_ge j 172 with h172 | h172
                · have e : j = 171 := by omega
                  subst e; exact zm_171
                · have e : j = 172 := by omega
                  subst e; exact zm_172
              · skip
                rcases Nat.lt_or_ge j 174 with h174 | h174
                · have e : j = 173 := by omega
                  subst e; exact zm_173
                · skip
                  rcases Nat.lt_or_ge j 175 with h175 | h175
                  · have e : j = 174 := by omega
                    subst e; exact zm_174
                  · have e : j = 175 := by omega
                    subst e; exact zm_175
            · skip
              rcases Nat.lt_or_ge j 178 with h178 | h178
              · skip
                rcases Nat.lt_or_ge j 177 with h177 | h177
                · have e : j = 176 := by omega
                  subst e; exact zm_176
                · have e : j = 177 := by omega
                  subst e; exact zm_177
              · skip
                rcases Nat.lt_or_ge j 179 with h179 | h179
                · have e : j = 178 := by omega
                  subst e; exact zm_178
                · skip
                  rcases Nat.lt_or_ge j 180 with h180 | h180
                  · have e : j = 179 := by omega
                    subst e; exact zm_179
                  · have e : j = 180 := by omega
                    subst e; exact zm_180
          · skip
            rcases Nat.lt_or_ge j 186 with h186 | h186
            · skip
              rcases Nat.lt_or_ge j 183 with h183 | h183
              · skip
                rcases Nat.lt_or_ge j 182 with h182 | h182
                · have e : j = 181 := by omega
                  subst e; exact zm_181
                · have e : j = 182 := by omega
                  subst e; exact zm_182
              · skip
                rcases Nat.lt_or_ge j 184 with h184 | h184
                · have e : j = 183 := by omega
                  subst e; exact zm_183
                · skip
                  rcases Nat.lt_or_ge j 185 with h185 | h185
                  · have e : j = 184 := by omega
                    subst e; exact zm_184
                  · have e : j = 185 := by omega
                    subst e; exact zm_185
            · skip
              rcases Nat.lt_or_ge j 189 with h189 | h189
              · skip
                rcases Nat.lt_or_ge j 187 with h187 | h187
                · have e : j = 186 := by omega
                  subst e; exact zm_186
                · skip
                  rcases Nat.lt_or_ge j 188 with h188 | h188
                  · have e : j = 187 := by omega
                    subst e; exact zm_187
                  · have e : j = 188 := by omega
                    subst e; exact zm_188
              · skip
                rcases Nat.lt_or_ge j 190 with h190 | h190
                · have e : j = 189 := by omega
                  subst e; exact zm_189
                · skip
                  rcases Nat.lt_or_ge j 191 with h191 | h191
                  · have e : j = 190 := by omega
                    subst e; exact zm_190
                  · have e : j = 191 := by omega
                    subst e; exact zm_191
        · skip
          rcases Nat.lt_or_ge j 202 with h202 | h202
          · skip
            rcases Nat.lt_or_ge j 197 with h197 | h197
            · skip
              rcases Nat.lt_or_ge j 194 with h194 | h194
              · skip
                rcases Nat.lt_or_ge j 193 with h193 | h193
                · have e : j = 192 := by omega
                  subst e; exact zm_192
                · have e : j = 193 := by omega
                  subst e; exact zm_193
              · skip
                rcases Nat.lt_or_ge j 195 with h195 | h195
                · have e : j = 194 := by omega
                  subst e; exact zm_194
                · skip
                  rcases Nat.lt_or_ge j 196 with h196 | h196
                  · have e : j = 195 := by omega
                    subst e; exact zm_195
                  · have e : j = 196 := by omega
                    subst e; exact zm_196
            · skip
              rcases Nat.lt_or_ge j 199 with h199 | h199
              · skip
                rcases Nat.lt_or_ge j 198 with h198 | h198
                · have e : j = 197 := by omega
                  subst e; exact zm_197
                · have e : j = 198 := by omega
                  subst e; exact zm_198
              · skip
                rcases Nat.lt_or_ge j 200 with h200 | h200
                · have e : j = 199 := by omega
                  subst e; exact zm_199
                · skip
                  rcases Nat.lt_or_ge j 201 with h201 | h201
                  · have e : j = 200 := by omega
                    subst e; exact zm_200
                  · have e : j = 201 := by omega
                    subst e; exact zm_201
          · skip
            rcases Nat.lt_or_ge j 207 with h207 | h207
            · skip
              rcases Nat.lt_or_ge j 204 with h204 | h204
              · skip
                rcases Nat.lt_or_ge j 203 with h203 | h203
                · have e : j = 202 := by omega
                  subst e; exact zm_202
                · have e : j = 203 := by omega
                  subst e; exact zm_203
              · skip
                rcases Nat.lt_or_ge j 205 with h205 | h205
                · have e : j = 204 := by omega
                  subst e; exact zm_204
                · skip
                  rcases Nat.lt_or_ge j 206 with h206 | h206
                  · have e : j = 205 := by omega
                    subst e; exact zm_205
                  · have e : j = 206 := by omega
                    subst e; exact zm_206
            · skip
              rcases Nat.lt_or_ge j 210 with h210 | h210
              · skip
                rcases Nat.lt_or_ge j 208 with h208 | h208
                · have e : j = 207 := by omega
                  subst e; exact zm_207
                · skip
                  rcases Nat.lt_or_ge j 209 with h209 | h209
                  · have e : j = 208 := by omega
                    subst e; exact zm_208
                  · have e : j = 209 := by omega
                    subst e; exact zm_209
              · skip
                rcases Nat.lt_or_ge j 211 with h211 | h211
                · have e : j = 210 := by omega
                  subst e; exact zm_210
                · skip
                  rcases Nat.lt_or_ge j 212 with h212 | h212
                  · have e : j = 211 := by omega
                    subst e; exact zm_211
                  · have e : j = 212 := by omega
                    subst e; exact zm_212
      · skip
        rcases Nat.lt_or_ge j 234 with h234 | h234
        · skip
          rcases Nat.lt_or_ge j 223 with h223 | h223
          · skip
            rcases Nat.lt_or_ge j 218 with h218 | h218
            · skip
              rcases Nat.lt_or_ge j 215 with h215 | h215
              · skip
                rcases Nat.lt_or_ge j 214 with h214 | h214
                · have e : j = 213 := by omega
                  subst e; exact zm_213
                · have e : j = 214 := by omega
                  subst e; exact zm_214
              · skip
                rcases Nat.lt_or_ge j 216 with h216 | h216
                · have e : j = 215 := by omega
                  subst e; exact zm_215
                · skip
                  rcases Nat.lt_or_ge j 217 with h217 | h217
                  · have e : j = 216 := by omega
                    subst e; exact zm_216
                  · have e : j = 217 := by omega
                    subst e; exact zm_217
            · skip
              rcases Nat.lt_or_ge j 220 with h220 | h220
              · skip
                rcases Nat.lt_or_ge j 219 with h219 | h219
                · have e : j = 218 := by omega
                  subst e; exact zm_218
                · have e : j = 219 := by omega
                  subst e; exact zm_219
              · skip
                rcases Nat.lt_or_ge j 221 with h221 | h221
                · have e : j = 220 := by omega
                  subst e; exact zm_220
                · skip
                  rcases Nat.lt_or_ge j 222 with h222 | h222
                  · have e : j = 221 := by omega
                    subst e; exact zm_221
                  · have e : j = 222 := by omega
                    subst e; exact zm_222
          · skip
            rcases Nat.lt_or_ge j 228 with h228 | h228
            · skip
              rcases Nat.lt_or_ge j 225 with h225 | h225
              · skip
                rcases Nat.lt_or_ge j 224 with h224 | h224
                · have e : j = 223 := by omega
                  subst e; exact zm_223
                · have e : j = 224 := by omega
                  subst e; exact zm_224
              · skip
                rcases Nat.lt_or_ge j 226 with h226 | h226
                · have e : j = 225 := by omega
                  subst e; exact zm_225
                · skip
                  rcases Nat.lt_or_ge j 227 with h227 | h227
                  · have e : j = 226 := by omega
                    subst e; exact zm_226
                  · have e : j = 227 := by omega
                    subst e; exact zm_227
            · skip
              rcases Nat.lt_or_ge j 231 with h231 | h231
              · skip
                rcases Nat.lt_or_ge j 229 with h229 | h229
                · have e : j = 228 := by omega
                  subst e; exact zm_228
                · skip
                  rcases Nat.lt_or_ge j 230 with h230 | h230
                  · have e : j = 229 := by omega
                    subst e; exact zm_229
                  · have e : j = 230 := by omega
                    subst e; exact zm_230
              · skip
                rcases Nat.lt_or_ge j 232 with h232 | h232
                · have e : j = 231 := by omega
                  subst e; exact zm_231
                · skip
                  rcases Nat.lt_or_ge j 233 with h233 | h233
                  · have e : j = 232 := by omega
                    subst e; exact zm_232
                  · have e : j = 233 := by omega
                    subst e; exact zm_233
        · skip
          rcases Nat.lt_or_ge j 245 with h245 | h245
          · skip
            rcases Nat.lt_or_ge j 239 with h239 | h239
            · skip
              rcases Nat.lt_or_ge j 236 with h236 | h236
              · skip
                rcases Nat.lt_or_ge j 235 with h235 | h235
                · have e : j = 234 := by omega
                  subst e; exact zm_234
                · have e : j = 235 := by omega
                  subst e; exact zm_235
              · skip
                rcases Nat.lt_or_ge j 237 with h237 | h237
                · have e : j = 236 := by omega
                  subst e; exact zm_236
                · skip
                  rcases Nat.lt_or_ge j 238 with h238 | h238
                  · have e : j = 237 := by omega
                    subst e; exact zm_237
                  · have e : j = 238 := by omega
                    subst e; exact zm_238
            · skip
              rcases Nat.lt_or_ge j 242 with h242 | h242
              · skip
                rcases Nat.lt_or_ge j 240 with h240 | h240
                · have e : j = 239 := by omega
                  subst e; exact zm_239
                · skip
                  rcases Nat.lt_or_ge j 241 with h241 | h241
                  · have e : j = 240 := by omega
                    subst e; exact zm_240
                  · have e : j = 241 := by omega
                    subst e; exact zm_241
              · skip
                rcases Nat.lt_or_ge j 243 with h243 | h243
                · have e : j = 242 := by omega
                  subst e; exact zm_242
                · skip
                  rcases Nat.lt_or_ge j 244 with h244 | h244
                  · have e : j = 243 := by omega
                    subst e; exact zm_243
                  · have e : j = 244 := by omega
                    subst e; exact zm_244
          · skip
            rcases Nat.lt_or_ge j 250 with h250 | h250
            · skip
              rcases Nat.lt_or_ge j 247 with h247 | h247
              · skip
                rcases Nat.lt_or_ge j 246 with h246 | h246
                · have e : j = 245 := by omega
                  subst e; exact zm_245
                · have e : j = 246 := by omega
                  subst e; exact zm_246
              · skip
                rcases Nat.lt_or_ge j 248 with h248 | h248
                · have e : j = 247 := by omega
                  subst e; exact zm_247
                · skip
                  rcases Nat.lt_or_ge j 249 with h249 | h249
                  · have e : j = 248 := by omega
                    subst e; exact zm_248
                  · have e : j = 249 := by omega
                    subst e; exact zm_249
            · skip
              rcases Nat.lt_or_ge j 253 with h253 | h253
              · skip
                rcases Nat.lt_or_ge j 251 with h251 | h251
                · have e : j = 250 := by omega
                  subst e; exact zm_250
                · skip
                  rcases Nat.lt_or_ge j 252 with h252 | h252
                  · have e : j = 251 := by omega
                    subst e; exact zm_251
                  · have e : j = 252 := by omega
                    subst e; exact zm_252
              · skip
                rcases Nat.lt_or_ge j 254 with h254 | h254
                · have e : j = 253 := by omega
                  subst e; exact zm_253
                · skip
                  rcases Nat.lt_or_ge j 255 with h255 | h255
                  · have e : j = 254 := by omega
                    subst e; exact zm_254
                  · have e : j = 255 := by omega
                    subst e; exact zm_255
    · skip
      rcases Nat.lt_or_ge j 299 with h299 | h299
      · skip
        rcases Nat.lt_or_ge j 277 with h277 | h277
        · skip
          rcases Nat.lt_or_ge j 266 with h266 | h266
          · skip
            rcases Nat.lt_or_ge j 261 with h261 | h261
            · skip
              rcases Nat.lt_or_ge j 258 with h258 | h258
              · skip
                rcases Nat.lt_or_ge j 257 with h257 | h257
                · have e : j = 256 := by omega
                  subst e; exact zm_256
                · have e : j = 257 := by omega
                  subst e; exact zm_257
              · skip
                rcases Nat.lt_or_ge j 259 with h259 | h259
                · have e : j = 258 := by omega
                  subst e; exact zm_258
                · skip
                  rcases Nat.lt_or_ge j 260 with h260 | h260
                  · have e : j = 259 := by omega
                    subst e; exact zm_259
                  · have e : j = 260 := by omega
                    subst e; exact zm_260
            · skip
              rcases Nat.lt_or_ge j 263 with h263 | h263
              · skip
                rcases Nat.lt_or_ge j 262 with h262 | h262
                · have e : j = 261 := by omega
                  subst e; exact zm_261
                · have e : j = 262 := by omega
                  subst e; exact zm_262
              · skip
                rcases Nat.lt_or_ge j 264 with h264 | h264
                · have e : j = 263 := by omega
                  subst e; exact zm_263
                · skip
                  rcases Nat.lt_or_ge j 265 with h265 | h265
                  · have e : j = 264 := by omega
                    subst e; exact zm_264
                  · have e : j = 265 := by omega
                    subst e; exact zm_265
          · skip
            rcases Nat.lt_or_ge j 271 with h271 | h271
            · skip
              rcases Nat.lt_or_ge j 268 with h268 | h268
              · skip
                rcases Nat.lt_or_ge j 267 with h267 | h267
                · have e : j = 266 := by omega
                  subst e; exact zm_266
                · have e : j = 267 := by omega
                  subst e; exact zm_267
              · skip
                rcases Nat.lt_or_ge j 269 with h269 | h269
                · have e : j = 268 := by omega
                  subst e; exact zm_268
                · skip
                  rcases Nat.lt_or_ge j 270 with h270 | h270
                  · have e : j = 269 := by omega
                    subst e; exact zm_269
                  · have e : j = 270 := by omega
                    subst e; exact zm_270
            · skip
              rcases Nat.lt_or_ge j 274 with h274 | h274
              · skip
                rcases Nat.lt_or_ge j 272 with h272 | h272
                · have e : j = 271 := by omega
                  subst e; exact zm_271
                · skip
                  rcases Nat.lt_or_ge j 273 with h273 | h273
                  · have e : j = 272 := by omega
                    subst e; exact zm_272
                  · have e : j = 273 := by omega
                    subst e; exact zm_273
              · skip
                rcases Nat.lt_or_ge j 275 with h275 | h275
                · have e : j = 274 := by omega
                  subst e; exact zm_274
                · skip
                  rcases Nat.lt_or_ge j 276 with h276 | h276
                  · have e : j = 275 := by omega
                    subst e; exact zm_275
                  · have e : j = 276 := by omega
                    subst e; exact zm_276
        · skip
          rcases Nat.lt_or_ge j 288 with h288 | h288
          · skip
            rcases Nat.lt_or_ge j 282 with h282 | h282
            · skip
              rcases Nat.lt_or_ge j 279 with h279 | h279
              · skip
                rcases Nat.lt_or_ge j 278 with h278 | h278
                · have e : j = 277 := by omega
                  subst e; exact zm_277
                · have e : j = 278 := by omega
                  subst e; exact zm_278
              · skip
                rcases Nat.lt_or_ge j 280 with h280 | h280
                · have e : j = 279 := by omega
                  subst e; exact zm_279
                · skip
                  rcases Nat.lt_or_ge j 281 with h281 | h281
                  · have e : j = 280 := by omega
                    subst e; exact zm_280
                  · have e : j = 281 := by omega
                    subst e; exact zm_281
            · skip
              rcases Nat.lt_or_ge j 285 with h285 | h285
              · skip
                rcases Nat.lt_or_ge j 283 with h283 | h283
                · have e : j = 282 := by omega
                  subst e; exact zm_282
                · skip
                  rcases Nat.lt_or_ge j 284 with h284 | h284
                  · have e : j = 283 := by omega
                    subst e; exact zm_283
                  · have e : j = 284 := by omega
                    subst e; exact zm_284
              · skip
                rcases Nat.lt_or_ge j 286 with h286 | h286
                · have e : j = 285 := by omega
                  subst e; exact zm_285
                · skip
                  rcases Nat.lt_or_ge j 287 with h287 | h287
                  · have e : j = 286 := by omega
                    subst e; exact zm_286
                  · have e : j = 287 := by omega
                    subst e; exact zm_287
          · skip
            rcases Nat.lt_or_ge j 293 with h293 | h293
            · skip
              rcases Nat.lt_or_ge j 290 with h290 | h290
              · skip
                rcases Nat.lt_or_ge j 289 with h289 | h289
                · have e : j = 288 := by omega
                  subst e; exact zm_288
                · have e : j = 289 := by omega
                  subst e; exact zm_289
              · skip
                rcases Nat.lt_or_ge j 291 with h291 | h291
                · have e : j = 290 := by omega
                  subst e; exact zm_290
                · skip
                  rcases Nat.lt_or_ge j 292 with h292 | h292
                  · have e : j = 291 := by omega
                    subst e; exact zm_291
                  · have e : j = 292 := by omega
                    subst e; exact zm_292
            · skip
              rcases Nat.lt_or_ge j 296 with h296 | h296
              · skip
                rcases Nat.lt_or_ge j 294 with h294 | h294
                · have e : j = 293 := by omega
                  subst e; exact zm_293
                · skip
                  rcases Nat.lt_or_ge j 295 with h295 | h295
                  · have e : j = 294 := by omega
                    subst e; exact zm_294
                  · have e : j = 295 := by omega
                    subst e; exact zm_295
              · skip
                rcases Nat.lt_or_ge j 297 with h297 | h297
                · have e : j = 296 := by omega
                  subst e; exact zm_296
                · skip
                  rcases Nat.lt_or_ge j 298 with h298 | h298
                  · have e : j = 297 := by omega
                    subst e; exact zm_297
                  · have e : j = 298 := by omega
                    subst e; exact zm_298
      · skip
        rcases Nat.lt_or_ge j 320 with h320 | h320
        · skip
          rcases Nat.lt_or_ge j 309 with h309 | h309
          · skip
            rcases Nat.lt_or_ge j 304 with h304 | h304
            · skip
              rcases Nat.lt_or_ge j 301 with h301 | h301
              · skip
                rcases Nat.lt_or_ge j 300 with h300 | h300
                · have e : j = 299 := by omega
                  subst e; exact zm_299
                · have e : j = 300 := by omega
                  subst e; exact zm_300
              · skip
                rcases Nat.lt_or_ge j 302 with h302 | h302
                · have e : j = 301 := by omega
                  subst e; exact zm_301
                · skip
                  rcases Nat.lt_or_ge j 303 with h303 | h303
                  · have e : j = 302 := by omega
                    subst e; exact zm_302
                  · have e : j = 303 := by omega
                    subst e; exact zm_303
            · skip
              rcases Nat.lt_or_ge j 306 with h306 | h306
              · skip
                rcases Nat.lt_or_ge j 305 with h305 | h305
                · have e : j = 304 := by omega
                  subst e; exact zm_304
                · have e : j = 305 := by omega
                  subst e; exact zm_305
              · skip
                rcases Nat.lt_or_ge j 307 with h307 | h307
                · have e : j = 306 := by omega
                  subst e; exact zm_306
                · skip
                  rcases Nat.lt_or_ge j 308 with h308 | h308
                  · have e : j = 307 := by omega
                    subst e; exact zm_307
                  · have e : j = 308 := by omega
                    subst e; exact zm_308
          · skip
            rcases Nat.lt_or_ge j 314 with h314 | h314
            · skip
              rcases Nat.lt_or_ge j 311 with h311 | h311
              · skip
                rcases Nat.lt_or_ge j 310 with h310 | h310
                · have e : j = 309 := by omega
                  subst e; exact zm_309
                · have e : j = 310 := by omega
                  subst e; exact zm_310
              · skip
                rcases Nat.lt_or_ge j 312 with h312 | h312
                · have e : j = 311 := by omega
                  subst e; exact zm_311
                · skip
                  rcases Nat.lt_or_ge j 313 with h313 | h313
                  · have e : j = 312 := by omega
                    subst e; exact zm_312
                  · have e : j = 313 := by omega
                    subst e; exact zm_313
            · skip
              rcases Nat.lt_or_ge j 317 with h317 | h317
              · skip
                rcases Nat.lt_or_ge j 315 with h315 | h315
                · have e : j = 314 := by omega
                  subst e; exact zm_314
                · skip
                  rcases Nat.lt_or_ge j 316 with h316 | h316
                  · have e : j = 315 := by omega
                    subst e; exact zm_315
                  · have e : j = 316 := by omega
                    subst e; exact zm_316
              · skip
                rcases Nat.lt_or_ge j 318 with h318 | h318
                · have e : j = 317 := by omega
                  subst e; exact zm_317
                · skip
                  rcases Nat.lt_or_ge j 319 with h319 | h319
                  · have e : j = 318 := by omega
                    subst e; exact zm_318
                  · have e : j = 319 := by omega
                    subst e; exact zm_319
        · skip
          rcases Nat.lt_or_ge j 331 with h331 | h331
          · skip
            rcases Nat.lt_or_ge j 325 with h325 | h325
            · skip
              rcases Nat.lt_or_ge j 322 with h322 | h322
              · skip
                rcases Nat.lt_or_ge j 321 with h321 | h321
                · have e : j = 320 := by omega
                  subst e; exact zm_320
                · have e : j = 321 := by omega
                  subst e; exact zm_321
              · skip
                rcases Nat.lt_or_ge j 323 with h323 | h323
                · have e : j = 322 := by omega
                  subst e; exact zm_322
                · skip
                  rcases Nat.lt_or_ge j 324 with h324 | h324
                  · have e : j = 323 := by omega
                    subst e; exact zm_323
                  · have e : j = 324 := by omega
                    subst e; exact zm_324
            · skip
              rcases Nat.lt_or_ge j 328 with h328 | h328
              · skip
                rcases Nat.lt_or_ge j 326 with h326 | h326
                · have e : j = 325 := by omega
                  subst e; exact zm_325
                · skip
                  rcases Nat.lt_or_ge j 327 with h327 | h327
                  · have e : j = 326 := by omega
                    subst e; exact zm_326
                  · have e : j = 327 := by omega
                    subst e; exact zm_327
              · skip
                rcases Nat.lt_or_ge j 329 with h329 | h329
                · have e : j = 328 := by omega
                  subst e; exact zm_328
                · skip
                  rcases Nat.lt_or_ge j 330 with h330 | h330
                  · have e : j = 329 := by omega
                    subst e; exact zm_329
                  · have e : j = 330 := by omega
                    subst e; exact zm_330
          · skip
            rcases Nat.lt_or_ge j 336 with h336 | h336
            · skip
              rcases Nat.lt_or_ge j 333 with h333 | h333
              · skip
                rcases Nat.lt_or_ge j 332 with h332 | h332
                · have e : j = 331 := by omega
                  subst e; exact zm_331
                · have e : j = 332 := by omega
                  subst e; exact zm_332
              · skip
                rcases Nat.lt_or_ge j 334 with h334 | h334
                · have e : j = 333 := by omega
                  subst e; exact zm_333
                · skip
                  rcases Nat.lt_or_ge j 335 with h335 | h335
                  · have e : j = 334 := by omega
                    subst e; exact zm_334
                  · have e : j = 335 := by omega
                    subst e; exact zm_335
            · skip
              rcases Nat.lt_or_ge j 339 with h339 | h339
              · skip
                rcases Nat.lt_or_ge j 337 with h337 | h337
                · have e : j = 336 := by omega
                  subst e; exact zm_336
                · skip
                  rcases Nat.lt_or_ge j 338 with h338 | h338
                  · have e : j = 337 := by omega
                    subst e; exact zm_337
                  · have e : j = 338 := by omega
                    subst e; exact zm_338
              · skip
                rcases Nat.lt_or_ge j 340 with h340 | h340
                · have e : j = 339 := by omega
                  subst e; exact zm_339
                · skip
                  rcases Nat.lt_or_ge j 341 with h341 | h341
                  · have e : j = 340 := by omega
                    subst e; exact zm_340
                  · have e : j = 341 := by omega
                    subst e; exact zm_341

