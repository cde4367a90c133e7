/-! FIELDS AND ROWS, each by its own name -/
theorem zfa_2 : zfinA 2 = true := by decide +kernel
theorem zfa_4 : zfinA 4 = true := by decide +kernel
theorem zfa_5 : zfinA 5 = true := by decide +kernel
theorem zfa_7 : zfinA 7 = true := by decide +kernel
theorem zfa_8 : zfinA 8 = true := by decide +kernel
theorem zfa_10 : zfinA 10 = true := by decide +kernel
theorem zfa_11 : zfinA 11 = true := by decide +kernel
theorem zfa_13 : zfinA 13 = true := by decide +kernel
theorem zfa_14 : zfinA 14 = true := by decide +kernel
theorem zfa_16 : zfinA 16 = true := by decide +kernel
theorem zfa_17 : zfinA 17 = true := by decide +kernel
theorem zfa_19 : zfinA 19 = true := by decide +kernel
theorem zfa_20 : zfinA 20 = true := by decide +kernel
theorem zfa_22 : zfinA 22 = true := by decide +kernel
theorem zfa_23 : zfinA 23 = true := by decide +kernel
theorem zfa_25 : zfinA 25 = true := by decide +kernel
theorem zfa_26 : zfinA 26 = true := by decide +kernel
theorem zfa_27 : zfinA 27 = true := by decide +kernel
theorem zfa_29 : zfinA 29 = true := by decide +kernel
theorem zfa_30 : zfinA 30 = true := by decide +kernel
theorem zfa_31 : zfinA 31 = true := by decide +kernel
theorem zfa_32 : zfinA 32 = true := by decide +kernel
theorem zfa_33 : zfinA 33 = true := by decide +kernel
theorem zfa_35 : zfinA 35 = true := by decide +kernel
theorem zfa_36 : zfinA 36 = true := by decide +kernel
theorem zfa_37 : zfinA 37 = true := by decide +kernel
theorem zfa_38 : zfinA 38 = true := by decide +kernel
theorem zfa_39 : zfinA 39 = true := by decide +kernel
theorem zfa_42 : zfinA 42 = true := by decide +kernel
theorem zfa_43 : zfinA 43 = true := by decide +kernel
theorem zfa_44 : zfinA 44 = true := by decide +kernel
theorem zfa_45 : zfinA 45 = true := by decide +kernel
theorem zfa_46 : zfinA 46 = true := by decide +kernel
theorem zfa_47 : zfinA 47 = true := by decide +kernel
theorem zfa_48 : zfinA 48 = true := by decide +kernel
theorem zfa_49 : zfinA 49 = true := by decide +kernel
theorem zfa_50 : zfinA 50 = true := by decide +kernel
theorem zfa_51 : zfinA 51 = true := by decide +kernel
theorem zfa_52 : zfinA 52 = true := by decide +kernel
theorem zfa_53 : zfinA 53 = true := by decide +kernel
theorem zfa_55 : zfinA 55 = true := by decide +kernel
theorem zfa_56 : zfinA 56 = true := by decide +kernel
theorem zfa_57 : zfinA 57 = true := by decide +kernel
theorem zfa_59 : zfinA 59 = true := by decide +kernel
theorem zfa_60 : zfinA 60 = true := by decide +kernel
theorem zfa_61 : zfinA 61 = true := by decide +kernel
theorem zfa_63 : zfinA 63 = true := by decide +kernel
theorem zfa_64 : zfinA 64 = true := by decide +kernel
theorem zfa_65 : zfinA 65 = true := by decide +kernel
theorem zfa_66 : zfinA 66 = true := by decide +kernel
theorem zfa_67 : zfinA 67 = true := by decide +kernel
theorem zfa_69 : zfinA 69 = true := by decide +kernel
theorem zfa_70 : zfinA 70 = true := by decide +kernel
theorem zfa_71 : zfinA 71 = true := by decide +kernel
theorem zfa_72 : zfinA 72 = true := by decide +kernel
theorem zfa_73 : zfinA 73 = true := by decide +kernel
theorem zfa_74 : zfinA 74 = true := by decide +kernel
theorem zfa_77 : zfinA 77 = true := by decide +kernel
theorem zfa_78 : zfinA 78 = true := by decide +kernel
theorem zfa_79 : zfinA 79 = true := by decide +kernel
theorem zfa_81 : zfinA 81 = true := by decide +kernel
theorem zfa_82 : zfinA 82 = true := by decide +kernel
theorem zfa_84 : zfinA 84 = true := by decide +kernel
theorem zfa_85 : zfinA 85 = true := by decide +kernel
theorem zfa_87 : zfinA 87 = true := by decide +kernel
theorem zfa_88 : zfinA 88 = true := by decide +kernel
theorem zfa_90 : zfinA 90 = true := by decide +kernel
theorem zfa_91 : zfinA 91 = true := by decide +kernel
theorem zfa_93 : zfinA 93 = true := by decide +kernel
theorem zfa_94 : zfinA 94 = true := by decide +kernel
theorem zfa_96 : zfinA 96 = true := by decide +kernel
theorem zfa_97 : zfinA 97 = true := by decide +kernel
theorem zfa_99 : zfinA 99 = true := by decide +kernel
theorem zfa_100 : zfinA 100 = true := by decide +kernel
theorem zfa_102 : zfinA 102 = true := by decide +kernel
theorem zfa_103 : zfinA 103 = true := by decide +kernel
theorem zfa_104 : zfinA 104 = true := by decide +kernel
theorem zfa_105 : zfinA 105 = true := by decide +kernel
theorem zfa_106 : zfinA 106 = true := by decide +kernel
theorem zfa_107 : zfinA 107 = true := by decide +kernel
theorem zfa_109 : zfinA 109 = true := by decide +kernel
theorem zfa_110 : zfinA 110 = true := by decide +kernel
theorem zfa_111 : zfinA 111 = true := by decide +kernel
theorem zfa_112 : zfinA 112 = true := by decide +kernel
theorem zfa_113 : zfinA 113 = true := by decide +kernel
theorem zfa_114 : zfinA 114 = true := by decide +kernel
theorem zfa_115 : zfinA 115 = true := by decide +kernel
theorem zfa_116 : zfinA 116 = true := by decide +kernel
theorem zfa_117 : zfinA 117 = true := by decide +kernel
theorem zfa_118 : zfinA 118 = true := by decide +kernel
theorem zfa_119 : zfinA 119 = true := by decide +kernel
theorem zfa_120 : zfinA 120 = true := by decide +kernel
theorem zfa_121 : zfinA 121 = true := by decide +kernel
theorem zfa_122 : zfinA 122 = true := by decide +kernel
theorem zfa_123 : zfinA 123 = true := by decide +kernel
theorem zfa_124 : zfinA 124 = true := by decide +kernel
theorem zfa_125 : zfinA 125 = true := by decide +kernel
theorem zfa_126 : zfinA 126 = true := by decide +kernel
theorem zfa_127 : zfinA 127 = true := by decide +kernel
theorem zfa_128 : zfinA 128 = true := by decide +kernel
theorem zfa_129 : zfinA 129 = true := by decide +kernel
theorem zfa_130 : zfinA 130 = true := by decide +kernel
theorem zfa_131 : zfinA 131 = true := by decide +kernel
theorem zfa_132 : zfinA 132 = true := by decide +kernel
theorem zfa_133 : zfinA 133 = true := by decide +kernel
theorem zfa_134 : zfinA 134 = true := by decide +kernel
theorem zfa_135 : zfinA 135 = true := by decide +kernel
theorem zfa_136 : zfinA 136 = true := by decide +kernel
theorem zfa_137 : zfinA 137 = true := by decide +kernel
theorem zfa_138 : zfinA 138 = true := by decide +kernel
theorem zfa_139 : zfinA 139 = true := by decide +kernel
theorem zfa_140 : zfinA 140 = true := by decide +kernel
theorem zfa_141 : zfinA 141 = true := by decide +kernel
theorem zfa_142 : zfinA 142 = true := by decide +kernel
theorem zfa_143 : zfinA 143 = true := by decide +kernel
theorem zfa_144 : zfinA 144 = true := by decide +kernel
theorem zfa_145 : zfinA 145 = true := by decide +kernel
theorem zfa_146 : zfinA 146 = true := by decide +kernel
theorem zfa_147 : zfinA 147 = true := by decide +kernel
theorem zfa_148 : zfinA 148 = true := by decide +kernel
theorem zfa_149 : zfinA 149 = true := by decide +kernel
theorem zfa_150 : zfinA 150 = true := by decide +kernel
theorem zfa_151 : zfinA 151 = true := by decide +kernel
theorem zfa_152 : zfinA 152 = true := by decide +kernel
theorem zfa_153 : zfinA 153 = true := by decide +kernel
theorem zfa_154 : zfinA 154 = true := by decide +kernel
theorem zfn_0_12 : zfinN 0 12 = true := by decide +kernel
theorem zfn_0_13 : zfinN 0 13 = true := by decide +kernel
theorem zfn_0_14 : zfinN 0 14 = true := by decide +kernel
theorem zfn_1_1 : zfinN 1 1 = true := by decide +kernel
theorem zfn_3_2 : zfinN 3 2 = true := by decide +kernel
theorem zfn_6_2 : zfinN 6 2 = true := by decide +kernel
theorem zfn_6_3 : zfinN 6 3 = true := by decide +kernel
theorem zfn_6_4 : zfinN 6 4 = true := by decide +kernel
theorem zfn_6_5 : zfinN 6 5 = true := by decide +kernel
theorem zfn_9_2 : zfinN 9 2 = true := by decide +kernel
theorem zfn_9_3 : zfinN 9 3 = true := by decide +kernel
theorem zfn_9_4 : zfinN 9 4 = true := by decide +kernel
theorem zfn_9_5 : zfinN 9 5 = true := by decide +kernel
theorem zfn_12_2 : zfinN 12 2 = true := by decide +kernel
theorem zfn_12_3 : zfinN 12 3 = true := by decide +kernel
theorem zfn_12_4 : zfinN 12 4 = true := by decide +kernel
theorem zfn_12_5 : zfinN 12 5 = true := by decide +kernel
theorem zfn_15_2 : zfinN 15 2 = true := by decide +kernel
theorem zfn_15_3 : zfinN 15 3 = true := by decide +kernel
theorem zfn_15_4 : zfinN 15 4 = true := by decide +kernel
theorem zfn_15_5 : zfinN 15 5 = true := by decide +kernel
theorem zfn_18_2 : zfinN 18 2 = true := by decide +kernel
theorem zfn_18_3 : zfinN 18 3 = true := by decide +kernel
theorem zfn_18_4 : zfinN 18 4 = true := by decide +kernel
theorem zfn_18_5 : zfinN 18 5 = true := by decide +kernel
theorem zfn_21_2 : zfinN 21 2 = true := by decide +kernel
theorem zfn_21_3 : zfinN 21 3 = true := by decide +kernel
theorem zfn_21_4 : zfinN 21 4 = true := by decide +kernel
theorem zfn_21_5 : zfinN 21 5 = true := by decide +kernel
theorem zfn_24_5 : zfinN 24 5 = true := by decide +kernel
theorem zfn_24_6 : zfinN 24 6 = true := by decide +kernel
theorem zfn_24_7 : zfinN 24 7 = true := by decide +kernel
theorem zfn_24_8 : zfinN 24 8 = true := by decide +kernel
theorem zfn_24_9 : zfinN 24 9 = true := by decide +kernel
theorem zfn_28_6 : zfinN 28 6 = true := by decide +kernel
theorem zfn_34_1 : zfinN 34 1 = true := by decide +kernel
theorem zfn_34_2 : zfinN 34 2 = true := by decide +kernel
theorem zfn_34_3 : zfinN 34 3 = true := by decide +kernel
theorem zfn_34_4 : zfinN 34 4 = true := by decide +kernel
theorem zfn_34_6 : zfinN 34 6 = true := by decide +kernel
theorem zfn_34_7 : zfinN 34 7 = true := by decide +kernel
theorem zfn_34_8 : zfinN 34 8 = true := by decide +kernel
theorem zfn_34_9 : zfinN 34 9 = true := by decide +kernel
theorem zfn_34_10 : zfinN 34 10 = true := by decide +kernel
theorem zfn_40_9 : zfinN 40 9 = true := by decide +kernel
theorem zfn_40_10 : zfinN 40 10 = true := by decide +kernel
theorem zfn_40_11 : zfinN 40 11 = true := by decide +kernel
theorem zfn_41_1 : zfinN 41 1 = true := by decide +kernel
theorem zfn_41_2 : zfinN 41 2 = true := by decide +kernel
theorem zfn_41_3 : zfinN 41 3 = true := by decide +kernel
theorem zfn_41_4 : zfinN 41 4 = true := by decide +kernel
theorem zfn_41_6 : zfinN 41 6 = true := by decide +kernel
theorem zfn_41_7 : zfinN 41 7 = true := by decide +kernel
theorem zfn_41_8 : zfinN 41 8 = true := by decide +kernel
theorem zfn_41_9 : zfinN 41 9 = true := by decide +kernel
theorem zfn_41_10 : zfinN 41 10 = true := by decide +kernel
theorem zfn_54_3 : zfinN 54 3 = true := by decide +kernel
theorem zfn_54_4 : zfinN 54 4 = true := by decide +kernel
theorem zfn_54_5 : zfinN 54 5 = true := by decide +kernel
theorem zfn_58_3 : zfinN 58 3 = true := by decide +kernel
theorem zfn_58_4 : zfinN 58 4 = true := by decide +kernel
theorem zfn_58_5 : zfinN 58 5 = true := by decide +kernel
theorem zfn_62_5 : zfinN 62 5 = true := by decide +kernel
theorem zfn_62_6 : zfinN 62 6 = true := by decide +kernel
theorem zfn_62_7 : zfinN 62 7 = true := by decide +kernel
theorem zfn_68_6 : zfinN 68 6 = true := by decide +kernel
theorem zfn_68_7 : zfinN 68 7 = true := by decide +kernel
theorem zfn_68_8 : zfinN 68 8 = true := by decide +kernel
theorem zfn_68_9 : zfinN 68 9 = true := by decide +kernel
theorem zfn_68_10 : zfinN 68 10 = true := by decide +kernel
theorem zfn_68_11 : zfinN 68 11 = true := by decide +kernel
theorem zfn_68_12 : zfinN 68 12 = true := by decide +kernel
theorem zfn_68_13 : zfinN 68 13 = true := by decide +kernel
theorem zfn_68_14 : zfinN 68 14 = true := by decide +kernel
theorem zfn_68_15 : zfinN 68 15 = true := by decide +kernel
theorem zfn_68_16 : zfinN 68 16 = true := by decide +kernel
theorem zfn_75_6 : zfinN 75 6 = true := by decide +kernel
theorem zfn_75_7 : zfinN 75 7 = true := by decide +kernel
theorem zfn_75_8 : zfinN 75 8 = true := by decide +kernel
theorem zfn_75_9 : zfinN 75 9 = true := by decide +kernel
theorem zfn_75_10 : zfinN 75 10 = true := by decide +kernel
theorem zfn_75_11 : zfinN 75 11 = true := by decide +kernel
theorem zfn_75_12 : zfinN 75 12 = true := by decide +kernel
theorem zfn_75_13 : zfinN 75 13 = true := by decide +kernel
theorem zfn_75_14 : zfinN 75 14 = true := by decide +kernel
theorem zfn_75_15 : zfinN 75 15 = true := by decide +kernel
theorem zfn_76_2 : zfinN 76 2 = true := by decide +kernel
theorem zfn_76_3 : zfinN 76 3 = true := by decide +kernel
theorem zfn_76_4 : zfinN 76 4 = true := by decide +kernel
theorem zfn_76_5 : zfinN 76 5 = true := by decide +kernel
theorem zfn_80_2 : zfinN 80 2 = true := by decide +kernel
theorem zfn_80_3 : zfinN 80 3 = true := by decide +kernel
theorem zfn_80_4 : zfinN 80 4 = true := by decide +kernel
theorem zfn_80_5 : zfinN 80 5 = true := by decide +kernel
theorem zfn_83_2 : zfinN 83 2 = true := by decide +kernel
theorem zfn_83_3 : zfinN 83 3 = true := by decide +kernel
theorem zfn_83_4 : zfinN 83 4 = true := by decide +kernel
theorem zfn_83_5 : zfinN 83 5 = true := by decide +kernel
theorem zfn_86_2 : zfinN 86 2 = true := by decide +kernel
theorem zfn_86_3 : zfinN 86 3 = true := by decide +kernel
theorem zfn_86_4 : zfinN 86 4 = true := by decide +kernel
theorem zfn_86_5 : zfinN 86 5 = true := by decide +kernel
theorem zfn_89_2 : zfinN 89 2 = true := by decide +kernel
theorem zfn_89_3 : zfinN 89 3 = true := by decide +kernel
theorem zfn_89_4 : zfinN 89 4 = true := by decide +kernel
theorem zfn_89_5 : zfinN 89 5 = true := by decide +kernel
theorem zfn_92_2 : zfinN 92 2 = true := by decide +kernel
theorem zfn_92_3 : zfinN 92 3 = true := by decide +kernel
theorem zfn_92_4 : zfinN 92 4 = true := by decide +kernel
theorem zfn_92_5 : zfinN 92 5 = true := by decide +kernel
theorem zfn_95_2 : zfinN 95 2 = true := by decide +kernel
theorem zfn_95_3 : zfinN 95 3 = true := by decide +kernel
theorem zfn_95_4 : zfinN 95 4 = true := by decide +kernel
theorem zfn_95_5 : zfinN 95 5 = true := by decide +kernel
theorem zfn_98_2 : zfinN 98 2 = true := by decide +kernel
theorem zfn_98_3 : zfinN 98 3 = true := by decide +kernel
theorem zfn_98_4 : zfinN 98 4 = true := by decide +kernel
theorem zfn_98_5 : zfinN 98 5 = true := by decide +kernel
theorem zfn_101_2 : zfinN 101 2 = true := by decide +kernel
theorem zfn_101_3 : zfinN 101 3 = true := by decide +kernel
theorem zfn_101_4 : zfinN 101 4 = true := by decide +kernel
theorem zfn_101_5 : zfinN 101 5 = true := by decide +kernel
theorem zfn_108_0 : zfinN 108 0 = true := by decide +kernel
theorem zfn_108_7 : zfinN 108 7 = true := by decide +kernel
theorem zfn_108_12 : zfinN 108 12 = true := by decide +kernel
theorem zfn_108_14 : zfinN 108 14 = true := by decide +kernel
theorem zfn_108_19 : zfinN 108 19 = true := by decide +kernel
theorem zfn_108_20 : zfinN 108 20 = true := by decide +kernel
theorem zfn_108_21 : zfinN 108 21 = true := by decide +kernel
theorem zfn_108_22 : zfinN 108 22 = true := by decide +kernel
theorem zfn_108_31 : zfinN 108 31 = true := by decide +kernel
theorem zfn_108_34 : zfinN 108 34 = true := by decide +kernel
theorem zfn_108_35 : zfinN 108 35 = true := by decide +kernel
theorem zfn_108_38 : zfinN 108 38 = true := by decide +kernel
theorem zfn_108_39 : zfinN 108 39 = true := by decide +kernel
theorem zfn_108_48 : zfinN 108 48 = true := by decide +kernel
theorem zfg_1_0 {h : zHP} (F : zFin h) : h 1 0 = 2 := F (1, 0, 2) (List.mem_of_getElem? (i := 0) (by decide +kernel))
theorem zfg_3_0 {h : zHP} (F : zFin h) : h 3 0 = 1 := F (3, 0, 1) (List.mem_of_getElem? (i := 1) (by decide +kernel))
theorem zfg_3_1 {h : zHP} (F : zFin h) : h 3 1 = 4 := F (3, 1, 4) (List.mem_of_getElem? (i := 2) (by decide +kernel))
theorem zfg_6_0 {h : zHP} (F : zFin h) : h 6 0 = 7 := F (6, 0, 7) (List.mem_of_getElem? (i := 3) (by decide +kernel))
theorem zfg_6_1 {h : zHP} (F : zFin h) : h 6 1 = 8 := F (6, 1, 8) (List.mem_of_getElem? (i := 4) (by decide +kernel))
theorem zfg_9_0 {h : zHP} (F : zFin h) : h 9 0 = 10 := F (9, 0, 10) (List.mem_of_getElem? (i := 5) (by decide +kernel))
theorem zfg_9_1 {h : zHP} (F : zFin h) : h 9 1 = 11 := F (9, 1, 11) (List.mem_of_getElem? (i := 6) (by decide +kernel))
theorem zfg_12_0 {h : zHP} (F : zFin h) : h 12 0 = 13 := F (12, 0, 13) (List.mem_of_getElem? (i := 7) (by decide +kernel))
theorem zfg_12_1 {h : zHP} (F : zFin h) : h 12 1 = 14 := F (12, 1, 14) (List.mem_of_getElem? (i := 8) (by decide +kernel))
theorem zfg_15_0 {h : zHP} (F : zFin h) : h 15 0 = 16 := F (15, 0, 16) (List.mem_of_getElem? (i := 9) (by decide +kernel))
theorem zfg_15_1 {h : zHP} (F : zFin h) : h 15 1 = 17 := F (15, 1, 17) (List.mem_of_getElem? (i := 10) (by decide +kernel))
theorem zfg_18_0 {h : zHP} (F : zFin h) : h 18 0 = 19 := F (18, 0, 19) (List.mem_of_getElem? (i := 11) (by decide +kernel))
theorem zfg_18_1 {h : zHP} (F : zFin h) : h 18 1 = 20 := F (18, 1, 20) (List.mem_of_getElem? (i := 12) (by decide +kernel))
theorem zfg_21_0 {h : zHP} (F : zFin h) : h 21 0 = 22 := F (21, 0, 22) (List.mem_of_getElem? (i := 13) (by decide +kernel))
theorem zfg_21_1 {h : zHP} (F : zFin h) : h 21 1 = 23 := F (21, 1, 23) (List.mem_of_getElem? (i := 14) (by decide +kernel))
theorem zfg_24_0 {h : zHP} (F : zFin h) : h 24 0 = 1 := F (24, 0, 1) (List.mem_of_getElem? (i := 15) (by decide +kernel))
theorem zfg_24_1 {h : zHP} (F : zFin h) : h 24 1 = 3 := F (24, 1, 3) (List.mem_of_getElem? (i := 16) (by decide +kernel))
theorem zfg_24_2 {h : zHP} (F : zFin h) : h 24 2 = 25 := F (24, 2, 25) (List.mem_of_getElem? (i := 17) (by decide +kernel))
theorem zfg_24_3 {h : zHP} (F : zFin h) : h 24 3 = 26 := F (24, 3, 26) (List.mem_of_getElem? (i := 18) (by decide +kernel))
theorem zfg_24_4 {h : zHP} (F : zFin h) : h 24 4 = 27 := F (24, 4, 27) (List.mem_of_getElem? (i := 19) (by decide +kernel))
theorem zfg_28_0 {h : zHP} (F : zFin h) : h 28 0 = 1 := F (28, 0, 1) (List.mem_of_getElem? (i := 20) (by decide +kernel))
theorem zfg_28_1 {h : zHP} (F : zFin h) : h 28 1 = 29 := F (28, 1, 29) (List.mem_of_getElem? (i := 21) (by decide +kernel))
theorem zfg_28_2 {h : zHP} (F : zFin h) : h 28 2 = 30 := F (28, 2, 30) (List.mem_of_getElem? (i := 22) (by decide +kernel))
theorem zfg_28_3 {h : zHP} (F : zFin h) : h 28 3 = 31 := F (28, 3, 31) (List.mem_of_getElem? (i := 23) (by decide +kernel))
theorem zfg_28_4 {h : zHP} (F : zFin h) : h 28 4 = 32 := F (28, 4, 32) (List.mem_of_getElem? (i := 24) (by decide +kernel))
theorem zfg_28_5 {h : zHP} (F : zFin h) : h 28 5 = 33 := F (28, 5, 33) (List.mem_of_getElem? (i := 25) (by decide +kernel))
theorem zfg_34_0 {h : zHP} (F : zFin h) : h 34 0 = 1 := F (34, 0, 1) (List.mem_of_getElem? (i := 26) (by decide +kernel))
theorem zfg_34_5 {h : zHP} (F : zFin h) : h 34 5 = 39 := F (34, 5, 39) (List.mem_of_getElem? (i := 27) (by decide +kernel))
theorem zfg_40_0 {h : zHP} (F : zFin h) : h 40 0 = 1 := F (40, 0, 1) (List.mem_of_getElem? (i := 28) (by decide +kernel))
theorem zfg_41_0 {h : zHP} (F : zFin h) : h 41 0 = 1 := F (41, 0, 1) (List.mem_of_getElem? (i := 29) (by decide +kernel))
theorem zfg_41_5 {h : zHP} (F : zFin h) : h 41 5 = 46 := F (41, 5, 46) (List.mem_of_getElem? (i := 30) (by decide +kernel))
theorem zfg_40_1 {h : zHP} (F : zFin h) : h 40 1 = 41 := F (40, 1, 41) (List.mem_of_getElem? (i := 31) (by decide +kernel))
theorem zfg_40_2 {h : zHP} (F : zFin h) : h 40 2 = 47 := F (40, 2, 47) (List.mem_of_getElem? (i := 32) (by decide +kernel))
theorem zfg_40_3 {h : zHP} (F : zFin h) : h 40 3 = 48 := F (40, 3, 48) (List.mem_of_getElem? (i := 33) (by decide +kernel))
theorem zfg_40_4 {h : zHP} (F : zFin h) : h 40 4 = 49 := F (40, 4, 49) (List.mem_of_getElem? (i := 34) (by decide +kernel))
theorem zfg_40_5 {h : zHP} (F : zFin h) : h 40 5 = 50 := F (40, 5, 50) (List.mem_of_getElem? (i := 35) (by decide +kernel))
theorem zfg_40_6 {h : zHP} (F : zFin h) : h 40 6 = 51 := F (40, 6, 51) (List.mem_of_getElem? (i := 36) (by decide +kernel))
theorem zfg_40_7 {h : zHP} (F : zFin h) : h 40 7 = 52 := F (40, 7, 52) (List.mem_of_getElem? (i := 37) (by decide +kernel))
theorem zfg_40_8 {h : zHP} (F : zFin h) : h 40 8 = 53 := F (40, 8, 53) (List.mem_of_getElem? (i := 38) (by decide +kernel))
theorem zfg_54_0 {h : zHP} (F : zFin h) : h 54 0 = 55 := F (54, 0, 55) (List.mem_of_getElem? (i := 39) (by decide +kernel))
theorem zfg_54_1 {h : zHP} (F : zFin h) : h 54 1 = 56 := F (54, 1, 56) (List.mem_of_getElem? (i := 40) (by decide +kernel))
theorem zfg_54_2 {h : zHP} (F : zFin h) : h 54 2 = 57 := F (54, 2, 57) (List.mem_of_getElem? (i := 41) (by decide +kernel))
theorem zfg_58_0 {h : zHP} (F : zFin h) : h 58 0 = 59 := F (58, 0, 59) (List.mem_of_getElem? (i := 42) (by decide +kernel))
theorem zfg_58_1 {h : zHP} (F : zFin h) : h 58 1 = 60 := F (58, 1, 60) (List.mem_of_getElem? (i := 43) (by decide +kernel))
theorem zfg_58_2 {h : zHP} (F : zFin h) : h 58 2 = 61 := F (58, 2, 61) (List.mem_of_getElem? (i := 44) (by decide +kernel))
theorem zfg_62_0 {h : zHP} (F : zFin h) : h 62 0 = 63 := F (62, 0, 63) (List.mem_of_getElem? (i := 45) (by decide +kernel))
theorem zfg_62_1 {h : zHP} (F : zFin h) : h 62 1 = 64 := F (62, 1, 64) (List.mem_of_getElem? (i := 46) (by decide +kernel))
theorem zfg_62_2 {h : zHP} (F : zFin h) : h 62 2 = 65 := F (62, 2, 65) (List.mem_of_getElem? (i := 47) (by decide +kernel))
theorem zfg_62_3 {h : zHP} (F : zFin h) : h 62 3 = 66 := F (62, 3, 66) (List.mem_of_getElem? (i := 48) (by decide +kernel))
theorem zfg_62_4 {h : zHP} (F : zFin h) : h 62 4 = 67 := F (62, 4, 67) (List.mem_of_getElem? (i := 49) (by decide +kernel))
theorem zfg_68_0 {h : zHP} (F : zFin h) : h 68 0 = 69 := F (68, 0, 69) (List.mem_of_getElem? (i := 50) (by decide +kernel))
theorem zfg_68_1 {h : zHP} (F : zFin h) : h 68 1 = 70 := F (68, 1, 70) (List.mem_of_getElem? (i := 51) (by decide +kernel))
theorem zfg_68_2 {h : zHP} (F : zFin h) : h 68 2 = 71 := F (68, 2, 71) (List.mem_of_getElem? (i := 52) (by decide +kernel))
theorem zfg_68_3 {h : zHP} (F : zFin h) : h 68 3 = 72 := F (68, 3, 72) (List.mem_of_getElem? (i := 53) (by decide +kernel))
theorem zfg_68_4 {h : zHP} (F : zFin h) : h 68 4 = 73 := F (68, 4, 73) (List.mem_of_getElem? (i := 54) (by decide +kernel))
theorem zfg_68_5 {h : zHP} (F : zFin h) : h 68 5 = 74 := F (68, 5, 74) (List.mem_of_getElem? (i := 55) (by decide +kernel))
theorem zfg_76_0 {h : zHP} (F : zFin h) : h 76 0 = 77 := F (76, 0, 77) (List.mem_of_getElem? (i := 56) (by decide +kernel))
theorem zfg_76_1 {h : zHP} (F : zFin h) : h 76 1 = 78 := F (76, 1, 78) (List.mem_of_getElem? (i := 57) (by decide +kernel))
theorem zfg_75_0 {h : zHP} (F : zFin h) : h 75 0 = 76 := F (75, 0, 76) (List.mem_of_getElem? (i := 58) (by decide +kernel))
theorem zfg_75_1 {h : zHP} (F : zFin h) : h 75 1 = 79 := F (75, 1, 79) (List.mem_of_getElem? (i := 59) (by decide +kernel))
theorem zfg_80_0 {h : zHP} (F : zFin h) : h 80 0 = 81 := F (80, 0, 81) (List.mem_of_getElem? (i := 60) (by decide +kernel))
theorem zfg_80_1 {h : zHP} (F : zFin h) : h 80 1 = 82 := F (80, 1, 82) (List.mem_of_getElem? (i := 61) (by decide +kernel))
theorem zfg_83_0 {h : zHP} (F : zFin h) : h 83 0 = 84 := F (83, 0, 84) (List.mem_of_getElem? (i := 62) (by decide +kernel))
theorem zfg_83_1 {h : zHP} (F : zFin h) : h 83 1 = 85 := F (83, 1, 85) (List.mem_of_getElem? (i := 63) (by decide +kernel))
theorem zfg_86_0 {h : zHP} (F : zFin h) : h 86 0 = 87 := F (86, 0, 87) (List.mem_of_getElem? (i := 64) (by decide +kernel))
theorem zfg_86_1 {h : zHP} (F : zFin h) : h 86 1 = 88 := F (86, 1, 88) (List.mem_of_getElem? (i := 65) (by decide +kernel))
theorem zfg_89_0 {h : zHP} (F : zFin h) : h 89 0 = 90 := F (89, 0, 90) (List.mem_of_getElem? (i := 66) (by decide +kernel))
theorem zfg_89_1 {h : zHP} (F : zFin h) : h 89 1 = 91 := F (89, 1, 91) (List.mem_of_getElem? (i := 67) (by decide +kernel))
theorem zfg_92_0 {h : zHP} (F : zFin h) : h 92 0 = 93 := F (92, 0, 93) (List.mem_of_getElem? (i := 68) (by decide +kernel))
theorem zfg_92_1 {h : zHP} (F : zFin h) : h 92 1 = 94 := F (92, 1, 94) (List.mem_of_getElem? (i := 69) (by decide +kernel))
theorem zfg_95_0 {h : zHP} (F : zFin h) : h 95 0 = 96 := F (95, 0, 96) (List.mem_of_getElem? (i := 70) (by decide +kernel))
theorem zfg_95_1 {h : zHP} (F : zFin h) : h 95 1 = 97 := F (95, 1, 97) (List.mem_of_getElem? (i := 71) (by decide +kernel))
theorem zfg_98_0 {h : zHP} (F : zFin h) : h 98 0 = 99 := F (98, 0, 99) (List.mem_of_getElem? (i := 72) (by decide +kernel))
theorem zfg_98_1 {h : zHP} (F : zFin h) : h 98 1 = 100 := F (98, 1, 100) (List.mem_of_getElem? (i := 73) (by decide +kernel))
theorem zfg_101_0 {h : zHP} (F : zFin h) : h 101 0 = 102 := F (101, 0, 102) (List.mem_of_getElem? (i := 74) (by decide +kernel))
theorem zfg_101_1 {h : zHP} (F : zFin h) : h 101 1 = 103 := F (101, 1, 103) (List.mem_of_getElem? (i := 75) (by decide +kernel))
theorem zfg_75_2 {h : zHP} (F : zFin h) : h 75 2 = 104 := F (75, 2, 104) (List.mem_of_getElem? (i := 76) (by decide +kernel))
theorem zfg_75_3 {h : zHP} (F : zFin h) : h 75 3 = 105 := F (75, 3, 105) (List.mem_of_getElem? (i := 77) (by decide +kernel))
theorem zfg_75_4 {h : zHP} (F : zFin h) : h 75 4 = 106 := F (75, 4, 106) (List.mem_of_getElem? (i := 78) (by decide +kernel))
theorem zfg_75_5 {h : zHP} (F : zFin h) : h 75 5 = 107 := F (75, 5, 107) (List.mem_of_getElem? (i := 79) (by decide +kernel))
theorem zfg_0_0 {h : zHP} (F : zFin h) : h 0 0 = 5 := F (0, 0, 5) (List.mem_of_getElem? (i := 80) (by decide +kernel))
theorem zfg_0_1 {h : zHP} (F : zFin h) : h 0 1 = 1 := F (0, 1, 1) (List.mem_of_getElem? (i := 81) (by decide +kernel))
theorem zfg_0_2 {h : zHP} (F : zFin h) : h 0 2 = 3 := F (0, 2, 3) (List.mem_of_getElem? (i := 82) (by decide +kernel))
theorem zfg_0_3 {h : zHP} (F : zFin h) : h 0 3 = 24 := F (0, 3, 24) (List.mem_of_getElem? (i := 83) (by decide +kernel))
theorem zfg_0_4 {h : zHP} (F : zFin h) : h 0 4 = 28 := F (0, 4, 28) (List.mem_of_getElem? (i := 84) (by decide +kernel))
theorem zfg_0_5 {h : zHP} (F : zFin h) : h 0 5 = 34 := F (0, 5, 34) (List.mem_of_getElem? (i := 85) (by decide +kernel))
theorem zfg_0_6 {h : zHP} (F : zFin h) : h 0 6 = 40 := F (0, 6, 40) (List.mem_of_getElem? (i := 86) (by decide +kernel))
theorem zfg_0_7 {h : zHP} (F : zFin h) : h 0 7 = 54 := F (0, 7, 54) (List.mem_of_getElem? (i := 87) (by decide +kernel))
theorem zfg_0_8 {h : zHP} (F : zFin h) : h 0 8 = 58 := F (0, 8, 58) (List.mem_of_getElem? (i := 88) (by decide +kernel))
theorem zfg_0_9 {h : zHP} (F : zFin h) : h 0 9 = 62 := F (0, 9, 62) (List.mem_of_getElem? (i := 89) (by decide +kernel))
theorem zfg_0_10 {h : zHP} (F : zFin h) : h 0 10 = 68 := F (0, 10, 68) (List.mem_of_getElem? (i := 90) (by decide +kernel))
theorem zfg_0_11 {h : zHP} (F : zFin h) : h 0 11 = 75 := F (0, 11, 75) (List.mem_of_getElem? (i := 91) (by decide +kernel))
theorem zfg_108_1 {h : zHP} (F : zFin h) : h 108 1 = 109 := F (108, 1, 109) (List.mem_of_getElem? (i := 92) (by decide +kernel))
theorem zfg_108_2 {h : zHP} (F : zFin h) : h 108 2 = 110 := F (108, 2, 110) (List.mem_of_getElem? (i := 93) (by decide +kernel))
theorem zfg_108_3 {h : zHP} (F : zFin h) : h 108 3 = 111 := F (108, 3, 111) (List.mem_of_getElem? (i := 94) (by decide +kernel))
theorem zfg_108_4 {h : zHP} (F : zFin h) : h 108 4 = 112 := F (108, 4, 112) (List.mem_of_getElem? (i := 95) (by decide +kernel))
theorem zfg_108_5 {h : zHP} (F : zFin h) : h 108 5 = 113 := F (108, 5, 113) (List.mem_of_getElem? (i := 96) (by decide +kernel))
theorem zfg_108_6 {h : zHP} (F : zFin h) : h 108 6 = 114 := F (108, 6, 114) (List.mem_of_getElem? (i := 97) (by decide +kernel))
theorem zfg_108_8 {h : zHP} (F : zFin h) : h 108 8 = 115 := F (108, 8, 115) (List.mem_of_getElem? (i := 98) (by decide +kernel))
theorem zfg_108_9 {h : zHP} (F : zFin h) : h 108 9 = 116 := F (108, 9, 116) (List.mem_of_getElem? (i := 99) (by decide +kernel))
theorem zfg_108_10 {h : zHP} (F : zFin h) : h 108 10 = 117 := F (108, 10, 117) (List.mem_of_getElem? (i := 100) (by decide +kernel))
theorem zfg_108_11 {h : zHP} (F : zFin h) : h 108 11 = 118 := F (108, 11, 118) (List.mem_of_getElem? (i := 101) (by decide +kernel))
theorem zfg_108_13 {h : zHP} (F : zFin h) : h 108 13 = 119 := F (108, 13, 119) (List.mem_of_getElem? (i := 102) (by decide +kernel))
theorem zfg_108_15 {h : zHP} (F : zFin h) : h 108 15 = 120 := F (108, 15, 120) (List.mem_of_getElem? (i := 103) (by decide +kernel))
theorem zfg_108_16 {h : zHP} (F : zFin h) : h 108 16 = 121 := F (108, 16, 121) (List.mem_of_getElem? (i := 104) (by decide +kernel))
theorem zfg_108_17 {h : zHP} (F : zFin h) : h 108 17 = 122 := F (108, 17, 122) (List.mem_of_getElem? (i := 105) (by decide +kernel))
theorem zfg_108_18 {h : zHP} (F : zFin h) : h 108 18 = 123 := F (108, 18, 123) (List.mem_of_getElem? (i := 106) (by decide +kernel))
theorem zfg_108_23 {h : zHP} (F : zFin h) : h 108 23 = 124 := F (108, 23, 124) (List.mem_of_getElem? (i := 107) (by decide +kernel))
theorem zfg_108_24 {h : zHP} (F : zFin h) : h 108 24 = 125 := F (108, 24, 125) (List.mem_of_getElem? (i := 108) (by decide +kernel))
theorem zfg_108_25 {h : zHP} (F : zFin h) : h 108 25 = 126 := F (108, 25, 126) (List.mem_of_getElem? (i := 109) (by decide +kernel))
theorem zfg_108_26 {h : zHP} (F : zFin h) : h 108 26 = 127 := F (108, 26, 127) (List.mem_of_getElem? (i := 110) (by decide +kernel))
theorem zfg_108_27 {h : zHP} (F : zFin h) : h 108 27 = 128 := F (108, 27, 128) (List.mem_of_getElem? (i := 111) (by decide +kernel))
theorem zfg_108_28 {h : zHP} (F : zFin h) : h 108 28 = 129 := F (108, 28, 129) (List.mem_of_getElem? (i := 112) (by decide +kernel))
theorem zfg_108_29 {h : zHP} (F : zFin h) : h 108 29 = 130 := F (108, 29, 130) (List.mem_of_getElem? (i := 113) (by decide +kernel))
theorem zfg_108_30 {h : zHP} (F : zFin h) : h 108 30 = 131 := F (108, 30, 131) (List.mem_of_getElem? (i := 114) (by decide +kernel))
theorem zfg_108_32 {h : zHP} (F : zFin h) : h 108 32 = 132 := F (108, 32, 132) (List.mem_of_getElem? (i := 115) (by decide +kernel))
theorem zfg_108_33 {h : zHP} (F : zFin h) : h 108 33 = 133 := F (108, 33, 133) (List.mem_of_getElem? (i := 116) (by decide +kernel))
theorem zfg_108_36 {h : zHP} (F : zFin h) : h 108 36 = 134 := F (108, 36, 134) (List.mem_of_getElem? (i := 117) (by decide +kernel))
theorem zfg_108_37 {h : zHP} (F : zFin h) : h 108 37 = 135 := F (108, 37, 135) (List.mem_of_getElem? (i := 118) (by decide +kernel))
theorem zfg_108_40 {h : zHP} (F : zFin h) : h 108 40 = 136 := F (108, 40, 136) (List.mem_of_getElem? (i := 119) (by decide +kernel))
theorem zfg_108_41 {h : zHP} (F : zFin h) : h 108 41 = 137 := F (108, 41, 137) (List.mem_of_getElem? (i := 120) (by decide +kernel))
theorem zfg_108_42 {h : zHP} (F : zFin h) : h 108 42 = 138 := F (108, 42, 138) (List.mem_of_getElem? (i := 121) (by decide +kernel))
theorem zfg_108_43 {h : zHP} (F : zFin h) : h 108 43 = 139 := F (108, 43, 139) (List.mem_of_getElem? (i := 122) (by decide +kernel))
theorem zfg_108_44 {h : zHP} (F : zFin h) : h 108 44 = 140 := F (108, 44, 140) (List.mem_of_getElem? (i := 123) (by decide +kernel))
theorem zfg_108_45 {h : zHP} (F : zFin h) : h 108 45 = 141 := F (108, 45, 141) (List.mem_of_getElem? (i := 124) (by decide +kernel))
theorem zfg_108_46 {h : zHP} (F : zFin h) : h 108 46 = 142 := F (108, 46, 142) (List.mem_of_getElem? (i := 125) (by decide +kernel))
theorem zfg_108_47 {h : zHP} (F : zFin h) : h 108 47 = 143 := F (108, 47, 143) (List.mem_of_getElem? (i := 126) (by decide +kernel))
theorem zfg_108_49 {h : zHP} (F : zFin h) : h 108 49 = 144 := F (108, 49, 144) (List.mem_of_getElem? (i := 127) (by decide +kernel))
theorem zfg_108_50 {h : zHP} (F : zFin h) : h 108 50 = 145 := F (108, 50, 145) (List.mem_of_getElem? (i := 128) (by decide +kernel))
theorem zfg_108_51 {h : zHP} (F : zFin h) : h 108 51 = 146 := F (108, 51, 146) (List.mem_of_getElem? (i := 129) (by decide +kernel))
theorem zfg_108_52 {h : zHP} (F : zFin h) : h 108 52 = 147 := F (108, 52, 147) (List.mem_of_getElem? (i := 130) (by decide +kernel))
theorem zfg_108_53 {h : zHP} (F : zFin h) : h 108 53 = 148 := F (108, 53, 148) (List.mem_of_getElem? (i := 131) (by decide +kernel))
theorem zfg_108_54 {h : zHP} (F : zFin h) : h 108 54 = 149 := F (108, 54, 149) (List.mem_of_getElem? (i := 132) (by decide +kernel))
theorem zfg_108_55 {h : zHP} (F : zFin h) : h 108 55 = 150 := F (108, 55, 150) (List.mem_of_getElem? (i := 133) (by decide +kernel))
theorem zfg_108_56 {h : zHP} (F : zFin h) : h 108 56 = 151 := F (108, 56, 151) (List.mem_of_getElem? (i := 134) (by decide +kernel))
theorem zfg_108_57 {h : zHP} (F : zFin h) : h 108 57 = 152 := F (108, 57, 152) (List.mem_of_getElem? (i := 135) (by decide +kernel))
theorem zfg_108_58 {h : zHP} (F : zFin h) : h 108 58 = 153 := F (108, 58, 153) (List.mem_of_getElem? (i := 136) (by decide +kernel))
theorem zfg_108_59 {h : zHP} (F : zFin h) : h 108 59 = 154 := F (108, 59, 154) (List.mem_of_getElem? (i := 137) (by decide +kernel))
