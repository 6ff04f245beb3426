/-! CELLS, LINKS and DECODE ROWS of the class -/
theorem fl_0_9 : ax_fld 0 9 = some (0, 0) := by decide +kernel
theorem fl_0_15 : ax_fld 0 15 = some (0, 1) := by decide +kernel
theorem fl_0_18 : ax_fld 0 18 = some (0, 2) := by decide +kernel
theorem fl_0_21 : ax_fld 0 21 = some (0, 3) := by decide +kernel
theorem fl_0_24 : ax_fld 0 24 = some (0, 4) := by decide +kernel
theorem fl_0_32 : ax_fld 0 32 = some (7, 3) := by decide +kernel
theorem fl_0_37 : ax_fld 0 37 = some (7, 8) := by decide +kernel
theorem fl_0_41 : ax_fld 0 41 = some (7, 0) := by decide +kernel
theorem fl_0_44 : ax_fld 0 44 = some (7, 1) := by decide +kernel
theorem fl_1_12 : ax_fld 1 12 = some (1, 0) := by decide +kernel
theorem fl_1_21 : ax_fld 1 21 = some (1, 1) := by decide +kernel
theorem fl_1_27 : ax_fld 1 27 = some (1, 2) := by decide +kernel
theorem fl_1_33 : ax_fld 1 33 = some (1, 3) := by decide +kernel
theorem fl_1_37 : ax_fld 1 37 = some (1, 4) := by decide +kernel
theorem fl_1_41 : ax_fld 1 41 = some (1, 5) := by decide +kernel
theorem fl_1_44 : ax_fld 1 44 = some (1, 6) := by decide +kernel
theorem fl_1_48 : ax_fld 1 48 = some (1, 7) := by decide +kernel
theorem fl_1_56 : ax_fld 1 56 = some (2, 2) := by decide +kernel
theorem fl_1_74 : ax_fld 1 74 = some (6, 2) := by decide +kernel
theorem fl_2_9 : ax_fld 2 9 = some (2, 0) := by decide +kernel
theorem fl_2_15 : ax_fld 2 15 = some (2, 1) := by decide +kernel
theorem fl_2_18 : ax_fld 2 18 = some (2, 2) := by decide +kernel
theorem fl_3_9 : ax_fld 3 9 = some (3, 0) := by decide +kernel
theorem fl_3_15 : ax_fld 3 15 = some (3, 1) := by decide +kernel
theorem fl_3_18 : ax_fld 3 18 = some (3, 2) := by decide +kernel
theorem fl_3_22 : ax_fld 3 22 = some (3, 3) := by decide +kernel
theorem fl_3_26 : ax_fld 3 26 = some (3, 4) := by decide +kernel
theorem fl_3_29 : ax_fld 3 29 = some (3, 5) := by decide +kernel
theorem fl_3_32 : ax_fld 3 32 = some (3, 6) := by decide +kernel
theorem fl_3_35 : ax_fld 3 35 = some (3, 7) := by decide +kernel
theorem fl_3_38 : ax_fld 3 38 = some (3, 8) := by decide +kernel
theorem fl_3_45 : ax_fld 3 45 = some (1, 0) := by decide +kernel
theorem fl_3_57 : ax_fld 3 57 = some (7, 4) := by decide +kernel
theorem fl_3_60 : ax_fld 3 60 = some (6, 0) := by decide +kernel
theorem fl_3_72 : ax_fld 3 72 = some (6, 1) := by decide +kernel
theorem fl_3_82 : ax_fld 3 82 = some (7, 8) := by decide +kernel
theorem fl_3_85 : ax_fld 3 85 = some (7, 3) := by decide +kernel
theorem fl_3_134 : ax_fld 3 134 = some (4, 3) := by decide +kernel
theorem fl_3_140 : ax_fld 3 140 = some (4, 0) := by decide +kernel
theorem fl_4_9 : ax_fld 4 9 = some (4, 0) := by decide +kernel
theorem fl_4_15 : ax_fld 4 15 = some (4, 1) := by decide +kernel
theorem fl_4_18 : ax_fld 4 18 = some (4, 2) := by decide +kernel
theorem fl_4_21 : ax_fld 4 21 = some (4, 3) := by decide +kernel
theorem fl_4_25 : ax_fld 4 25 = some (4, 4) := by decide +kernel
theorem fl_4_28 : ax_fld 4 28 = some (4, 5) := by decide +kernel
theorem fl_4_31 : ax_fld 4 31 = some (7, 3) := by decide +kernel
theorem fl_4_44 : ax_fld 4 44 = some (7, 5) := by decide +kernel
theorem fl_4_70 : ax_fld 4 70 = some (7, 8) := by decide +kernel
theorem fl_5_9 : ax_fld 5 9 = some (5, 0) := by decide +kernel
theorem fl_5_15 : ax_fld 5 15 = some (5, 1) := by decide +kernel
theorem fl_5_18 : ax_fld 5 18 = some (5, 2) := by decide +kernel
theorem fl_6_7 : ax_fld 6 7 = some (6, 0) := by decide +kernel
theorem fl_6_13 : ax_fld 6 13 = some (6, 1) := by decide +kernel
theorem fl_6_17 : ax_fld 6 17 = some (6, 2) := by decide +kernel
theorem fl_7_9 : ax_fld 7 9 = some (7, 0) := by decide +kernel
theorem fl_7_15 : ax_fld 7 15 = some (7, 1) := by decide +kernel
theorem fl_7_21 : ax_fld 7 21 = some (7, 2) := by decide +kernel
theorem fl_7_25 : ax_fld 7 25 = some (7, 3) := by decide +kernel
theorem fl_7_28 : ax_fld 7 28 = some (7, 4) := by decide +kernel
theorem fl_7_31 : ax_fld 7 31 = some (7, 5) := by decide +kernel
theorem fl_7_36 : ax_fld 7 36 = some (7, 6) := by decide +kernel
theorem fl_7_39 : ax_fld 7 39 = some (7, 7) := by decide +kernel
theorem fl_7_42 : ax_fld 7 42 = some (7, 8) := by decide +kernel
theorem fl_7_71 : ax_fld 7 71 = some (6, 0) := by decide +kernel
theorem fl_7_81 : ax_fld 7 81 = some (6, 1) := by decide +kernel
theorem fl_7_91 : ax_fld 7 91 = some (6, 2) := by decide +kernel
theorem fl_8_9 : ax_fld 8 9 = some (8, 0) := by decide +kernel
theorem fl_8_15 : ax_fld 8 15 = some (8, 1) := by decide +kernel
theorem fl_8_19 : ax_fld 8 19 = some (8, 2) := by decide +kernel
theorem fl_8_22 : ax_fld 8 22 = some (8, 3) := by decide +kernel
theorem fl_8_25 : ax_fld 8 25 = some (8, 4) := by decide +kernel
theorem fl_8_28 : ax_fld 8 28 = some (8, 5) := by decide +kernel
theorem fl_8_52 : ax_fld 8 52 = some (12, 2) := by decide +kernel
theorem fl_8_62 : ax_fld 8 62 = some (12, 3) := by decide +kernel
theorem fl_8_78 : ax_fld 8 78 = some (12, 1) := by decide +kernel
theorem fl_9_9 : ax_fld 9 9 = some (9, 0) := by decide +kernel
theorem fl_9_15 : ax_fld 9 15 = some (9, 1) := by decide +kernel
theorem fl_9_18 : ax_fld 9 18 = some (9, 2) := by decide +kernel
theorem fl_9_21 : ax_fld 9 21 = some (9, 3) := by decide +kernel
theorem fl_9_29 : ax_fld 9 29 = some (7, 3) := by decide +kernel
theorem fl_9_34 : ax_fld 9 34 = some (7, 8) := by decide +kernel
theorem fl_10_10 : ax_fld 10 10 = some (10, 0) := by decide +kernel
theorem fl_10_16 : ax_fld 10 16 = some (10, 1) := by decide +kernel
theorem fl_10_19 : ax_fld 10 19 = some (10, 2) := by decide +kernel
theorem fl_10_26 : ax_fld 10 26 = some (10, 3) := by decide +kernel
theorem fl_10_33 : ax_fld 10 33 = some (10, 4) := by decide +kernel
theorem fl_10_40 : ax_fld 10 40 = some (10, 5) := by decide +kernel
theorem fl_10_46 : ax_fld 10 46 = some (10, 6) := by decide +kernel
theorem fl_10_50 : ax_fld 10 50 = some (10, 7) := by decide +kernel
theorem fl_10_57 : ax_fld 10 57 = some (10, 8) := by decide +kernel
theorem fl_10_61 : ax_fld 10 61 = some (10, 9) := by decide +kernel
theorem fl_10_64 : ax_fld 10 64 = some (10, 10) := by decide +kernel
theorem fl_10_69 : ax_fld 10 69 = some (10, 11) := by decide +kernel
theorem fl_10_73 : ax_fld 10 73 = some (10, 12) := by decide +kernel
theorem fl_10_77 : ax_fld 10 77 = some (1, 0) := by decide +kernel
theorem fl_10_81 : ax_fld 10 81 = some (7, 0) := by decide +kernel
theorem fl_10_91 : ax_fld 10 91 = some (7, 1) := by decide +kernel
theorem fl_10_117 : ax_fld 10 117 = some (7, 3) := by decide +kernel
theorem fl_10_124 : ax_fld 10 124 = some (6, 0) := by decide +kernel
theorem fl_10_128 : ax_fld 10 128 = some (12, 0) := by decide +kernel
theorem fl_10_133 : ax_fld 10 133 = some (6, 1) := by decide +kernel
theorem fl_10_136 : ax_fld 10 136 = some (6, 2) := by decide +kernel
theorem fl_10_139 : ax_fld 10 139 = some (7, 6) := by decide +kernel
theorem fl_10_151 : ax_fld 10 151 = some (7, 5) := by decide +kernel
theorem fl_10_161 : ax_fld 10 161 = some (7, 8) := by decide +kernel
theorem fl_10_209 : ax_fld 10 209 = some (4, 3) := by decide +kernel
theorem fl_10_212 : ax_fld 10 212 = some (4, 0) := by decide +kernel
theorem fl_10_215 : ax_fld 10 215 = some (4, 1) := by decide +kernel
theorem fl_10_218 : ax_fld 10 218 = some (4, 2) := by decide +kernel
theorem fl_10_231 : ax_fld 10 231 = some (7, 4) := by decide +kernel
theorem fl_10_234 : ax_fld 10 234 = some (1, 1) := by decide +kernel
theorem fl_10_250 : ax_fld 10 250 = some (2, 2) := by decide +kernel
theorem fl_10_253 : ax_fld 10 253 = some (1, 6) := by decide +kernel
theorem fl_10_256 : ax_fld 10 256 = some (1, 2) := by decide +kernel
theorem fl_10_267 : ax_fld 10 267 = some (1, 3) := by decide +kernel
theorem fl_10_277 : ax_fld 10 277 = some (1, 4) := by decide +kernel
theorem fl_10_280 : ax_fld 10 280 = some (1, 5) := by decide +kernel
theorem fl_10_289 : ax_fld 10 289 = some (1, 7) := by decide +kernel
theorem fl_10_322 : ax_fld 10 322 = some (8, 1) := by decide +kernel
theorem fl_10_347 : ax_fld 10 347 = some (5, 2) := by decide +kernel
theorem fl_10_350 : ax_fld 10 350 = some (5, 0) := by decide +kernel
theorem fl_10_353 : ax_fld 10 353 = some (5, 1) := by decide +kernel
theorem fl_10_372 : ax_fld 10 372 = some (12, 2) := by decide +kernel
theorem fl_10_375 : ax_fld 10 375 = some (12, 3) := by decide +kernel
theorem fl_13_9 : ax_fld 13 9 = some (13, 0) := by decide +kernel
theorem fl_13_15 : ax_fld 13 15 = some (13, 1) := by decide +kernel
theorem ow_8 : ax_own 8 = 10 := by decide +kernel
theorem ow_9 : ax_own 9 = 1 := by decide +kernel
theorem ow_10 : ax_own 10 = 7 := by decide +kernel
theorem ow_11 : ax_own 11 = 10 := by decide +kernel
theorem ow_12 : ax_own 12 = 10 := by decide +kernel
theorem ow_13 : ax_own 13 = 10 := by decide +kernel
theorem ow_15 : ax_own 15 = 7 := by decide +kernel
theorem ow_16 : ax_own 16 = 7 := by decide +kernel
theorem ow_17 : ax_own 17 = 12 := by decide +kernel
theorem ow_18 : ax_own 18 = 7 := by decide +kernel
theorem ow_19 : ax_own 19 = 7 := by decide +kernel
theorem ow_20 : ax_own 20 = 7 := by decide +kernel
theorem ow_21 : ax_own 21 = 6 := by decide +kernel
theorem ow_22 : ax_own 22 = 7 := by decide +kernel
theorem ow_24 : ax_own 24 = 7 := by decide +kernel
theorem ow_25 : ax_own 25 = 7 := by decide +kernel
theorem ow_26 : ax_own 26 = 7 := by decide +kernel
theorem ow_27 : ax_own 27 = 7 := by decide +kernel
theorem ow_28 : ax_own 28 = 12 := by decide +kernel
theorem ow_29 : ax_own 29 = 10 := by decide +kernel
theorem ow_30 : ax_own 30 = 10 := by decide +kernel
theorem ow_31 : ax_own 31 = 10 := by decide +kernel
theorem ow_32 : ax_own 32 = 10 := by decide +kernel
theorem ow_33 : ax_own 33 = 10 := by decide +kernel
theorem ow_34 : ax_own 34 = 10 := by decide +kernel
theorem ow_35 : ax_own 35 = 10 := by decide +kernel
theorem ow_36 : ax_own 36 = 10 := by decide +kernel
theorem ow_37 : ax_own 37 = 10 := by decide +kernel
theorem ow_39 : ax_own 39 = 7 := by decide +kernel
theorem ow_40 : ax_own 40 = 7 := by decide +kernel
theorem ow_41 : ax_own 41 = 12 := by decide +kernel
theorem ow_42 : ax_own 42 = 10 := by decide +kernel
theorem ow_43 : ax_own 43 = 7 := by decide +kernel
theorem ow_44 : ax_own 44 = 10 := by decide +kernel
theorem ow_45 : ax_own 45 = 7 := by decide +kernel
theorem ow_46 : ax_own 46 = 7 := by decide +kernel
theorem ow_47 : ax_own 47 = 10 := by decide +kernel
theorem ow_48 : ax_own 48 = 7 := by decide +kernel
theorem ow_49 : ax_own 49 = 10 := by decide +kernel
theorem ow_50 : ax_own 50 = 3 := by decide +kernel
theorem ow_51 : ax_own 51 = 3 := by decide +kernel
theorem ow_52 : ax_own 52 = 12 := by decide +kernel
theorem ow_53 : ax_own 53 = 1 := by decide +kernel
theorem ow_54 : ax_own 54 = 2 := by decide +kernel
theorem ow_56 : ax_own 56 = 3 := by decide +kernel
theorem ow_57 : ax_own 57 = 3 := by decide +kernel
theorem ow_58 : ax_own 58 = 10 := by decide +kernel
theorem ow_60 : ax_own 60 = 10 := by decide +kernel
theorem ow_62 : ax_own 62 = 10 := by decide +kernel
theorem ow_63 : ax_own 63 = 4 := by decide +kernel
theorem ow_64 : ax_own 64 = 7 := by decide +kernel
theorem ow_65 : ax_own 65 = 4 := by decide +kernel
theorem ow_66 : ax_own 66 = 4 := by decide +kernel
theorem ow_67 : ax_own 67 = 10 := by decide +kernel
theorem ow_68 : ax_own 68 = 10 := by decide +kernel
theorem ow_69 : ax_own 69 = 4 := by decide +kernel
theorem ow_70 : ax_own 70 = 4 := by decide +kernel
theorem ow_71 : ax_own 71 = 4 := by decide +kernel
theorem ow_72 : ax_own 72 = 10 := by decide +kernel
theorem ow_73 : ax_own 73 = 2 := by decide +kernel
theorem ow_74 : ax_own 74 = 10 := by decide +kernel
theorem ow_75 : ax_own 75 = 10 := by decide +kernel
theorem ow_76 : ax_own 76 = 10 := by decide +kernel
theorem ow_77 : ax_own 77 = 1 := by decide +kernel
theorem ow_78 : ax_own 78 = 9 := by decide +kernel
theorem ow_79 : ax_own 79 = 1 := by decide +kernel
theorem ow_80 : ax_own 80 = 0 := by decide +kernel
theorem ow_81 : ax_own 81 = 10 := by decide +kernel
theorem ow_82 : ax_own 82 = 1 := by decide +kernel
theorem ow_83 : ax_own 83 = 9 := by decide +kernel
theorem ow_84 : ax_own 84 = 9 := by decide +kernel
theorem ow_85 : ax_own 85 = 0 := by decide +kernel
theorem ow_86 : ax_own 86 = 0 := by decide +kernel
theorem ow_87 : ax_own 87 = 10 := by decide +kernel
theorem ow_88 : ax_own 88 = 10 := by decide +kernel
theorem ow_89 : ax_own 89 = 1 := by decide +kernel
theorem ow_90 : ax_own 90 = 10 := by decide +kernel
theorem ow_91 : ax_own 91 = 10 := by decide +kernel
theorem ow_92 : ax_own 92 = 3 := by decide +kernel
theorem ow_93 : ax_own 93 = 10 := by decide +kernel
theorem ow_94 : ax_own 94 = 10 := by decide +kernel
theorem ow_95 : ax_own 95 = 3 := by decide +kernel
theorem ow_96 : ax_own 96 = 3 := by decide +kernel
theorem ow_97 : ax_own 97 = 3 := by decide +kernel
theorem ow_98 : ax_own 98 = 3 := by decide +kernel
theorem ow_99 : ax_own 99 = 3 := by decide +kernel
theorem ow_100 : ax_own 100 = 3 := by decide +kernel
theorem ow_102 : ax_own 102 = 10 := by decide +kernel
theorem ow_103 : ax_own 103 = 10 := by decide +kernel
theorem ow_104 : ax_own 104 = 3 := by decide +kernel
theorem ow_105 : ax_own 105 = 10 := by decide +kernel
theorem ow_106 : ax_own 106 = 10 := by decide +kernel
theorem ow_107 : ax_own 107 = 10 := by decide +kernel
theorem ow_108 : ax_own 108 = 8 := by decide +kernel
theorem ow_109 : ax_own 109 = 10 := by decide +kernel
theorem ow_110 : ax_own 110 = 8 := by decide +kernel
theorem ow_111 : ax_own 111 = 8 := by decide +kernel
theorem ow_112 : ax_own 112 = 8 := by decide +kernel
theorem ow_113 : ax_own 113 = 8 := by decide +kernel
theorem ow_114 : ax_own 114 = 8 := by decide +kernel
theorem ow_115 : ax_own 115 = 8 := by decide +kernel
theorem ow_117 : ax_own 117 = 13 := by decide +kernel
theorem ow_119 : ax_own 119 = 13 := by decide +kernel
theorem ow_120 : ax_own 120 = 15 := by decide +kernel
theorem ow_121 : ax_own 121 = 13 := by decide +kernel
theorem ow_127 : ax_own 127 = 8 := by decide +kernel
theorem ow_128 : ax_own 128 = 10 := by decide +kernel
theorem ow_130 : ax_own 130 = 10 := by decide +kernel
theorem ow_131 : ax_own 131 = 10 := by decide +kernel
theorem ow_132 : ax_own 132 = 10 := by decide +kernel
theorem ow_134 : ax_own 134 = 5 := by decide +kernel
theorem ow_135 : ax_own 135 = 5 := by decide +kernel
theorem ow_136 : ax_own 136 = 5 := by decide +kernel
theorem ow_137 : ax_own 137 = 10 := by decide +kernel
theorem ow_138 : ax_own 138 = 10 := by decide +kernel
theorem ow_139 : ax_own 139 = 10 := by decide +kernel
theorem ow_140 : ax_own 140 = 10 := by decide +kernel
theorem ow_141 : ax_own 141 = 10 := by decide +kernel
theorem ow_142 : ax_own 142 = 10 := by decide +kernel
theorem ow_144 : ax_own 144 = 10 := by decide +kernel
theorem ow_145 : ax_own 145 = 10 := by decide +kernel
theorem ow_146 : ax_own 146 = 10 := by decide +kernel
theorem ow_147 : ax_own 147 = 10 := by decide +kernel
theorem ow_148 : ax_own 148 = 1 := by decide +kernel
theorem ow_149 : ax_own 149 = 7 := by decide +kernel
theorem ow_150 : ax_own 150 = 2 := by decide +kernel
theorem ow_151 : ax_own 151 = 10 := by decide +kernel
theorem ow_152 : ax_own 152 = 10 := by decide +kernel
theorem aL_8 : ax_L 8 = 3 := by decide +kernel
theorem aL_9 : ax_L 9 = 2 := by decide +kernel
theorem aL_10 : ax_L 10 = 3 := by decide +kernel
theorem aL_11 : ax_L 11 = 4 := by decide +kernel
theorem aL_13 : ax_L 13 = 5 := by decide +kernel
theorem aL_14 : ax_L 14 = 1 := by decide +kernel
theorem aL_15 : ax_L 15 = 1 := by decide +kernel
theorem aL_16 : ax_L 16 = 2 := by decide +kernel
theorem aL_17 : ax_L 17 = 1 := by decide +kernel
theorem aL_18 : ax_L 18 = 3 := by decide +kernel
theorem aL_19 : ax_L 19 = 3 := by decide +kernel
theorem aL_20 : ax_L 20 = 2 := by decide +kernel
theorem aL_21 : ax_L 21 = 4 := by decide +kernel
theorem aL_22 : ax_L 22 = 3 := by decide +kernel
theorem aL_24 : ax_L 24 = 8 := by decide +kernel
theorem aL_25 : ax_L 25 = 5 := by decide +kernel
theorem aL_26 : ax_L 26 = 5 := by decide +kernel
theorem aL_27 : ax_L 27 = 6 := by decide +kernel
theorem aL_28 : ax_L 28 = 1 := by decide +kernel
theorem aL_29 : ax_L 29 = 4 := by decide +kernel
theorem aL_31 : ax_L 31 = 3 := by decide +kernel
theorem aL_32 : ax_L 32 = 2 := by decide +kernel
theorem aL_36 : ax_L 36 = 2 := by decide +kernel
theorem aL_38 : ax_L 38 = 1 := by decide +kernel
theorem aL_39 : ax_L 39 = 4 := by decide +kernel
theorem aL_40 : ax_L 40 = 3 := by decide +kernel
theorem aL_41 : ax_L 41 = 1 := by decide +kernel
theorem aL_43 : ax_L 43 = 6 := by decide +kernel
theorem aL_45 : ax_L 45 = 6 := by decide +kernel
theorem aL_46 : ax_L 46 = 4 := by decide +kernel
theorem aL_47 : ax_L 47 = 6 := by decide +kernel
theorem aL_48 : ax_L 48 = 7 := by decide +kernel
theorem aL_49 : ax_L 49 = 8 := by decide +kernel
theorem aL_50 : ax_L 50 = 5 := by decide +kernel
theorem aL_51 : ax_L 51 = 11 := by decide +kernel
theorem aL_52 : ax_L 52 = 1 := by decide +kernel
theorem aL_53 : ax_L 53 = 6 := by decide +kernel
theorem aL_54 : ax_L 54 = 6 := by decide +kernel
theorem aL_55 : ax_L 55 = 3 := by decide +kernel
theorem aL_56 : ax_L 56 = 7 := by decide +kernel
theorem aL_57 : ax_L 57 = 9 := by decide +kernel
theorem aL_58 : ax_L 58 = 7 := by decide +kernel
theorem aL_60 : ax_L 60 = 11 := by decide +kernel
theorem aL_63 : ax_L 63 = 4 := by decide +kernel
theorem aL_64 : ax_L 64 = 4 := by decide +kernel
theorem aL_65 : ax_L 65 = 6 := by decide +kernel
theorem aL_66 : ax_L 66 = 6 := by decide +kernel
theorem aL_69 : ax_L 69 = 5 := by decide +kernel
theorem aL_70 : ax_L 70 = 8 := by decide +kernel
theorem aL_71 : ax_L 71 = 6 := by decide +kernel
theorem aL_72 : ax_L 72 = 6 := by decide +kernel
theorem aL_73 : ax_L 73 = 7 := by decide +kernel
theorem aL_74 : ax_L 74 = 7 := by decide +kernel
theorem aL_75 : ax_L 75 = 2 := by decide +kernel
theorem aL_77 : ax_L 77 = 2 := by decide +kernel
theorem aL_78 : ax_L 78 = 5 := by decide +kernel
theorem aL_79 : ax_L 79 = 2 := by decide +kernel
theorem aL_80 : ax_L 80 = 6 := by decide +kernel
theorem aL_82 : ax_L 82 = 4 := by decide +kernel
theorem aL_83 : ax_L 83 = 5 := by decide +kernel
theorem aL_84 : ax_L 84 = 4 := by decide +kernel
theorem aL_85 : ax_L 85 = 5 := by decide +kernel
theorem aL_86 : ax_L 86 = 3 := by decide +kernel
theorem aL_88 : ax_L 88 = 5 := by decide +kernel
theorem aL_89 : ax_L 89 = 4 := by decide +kernel
theorem aL_90 : ax_L 90 = 4 := by decide +kernel
theorem aL_91 : ax_L 91 = 13 := by decide +kernel
theorem aL_92 : ax_L 92 = 5 := by decide +kernel
theorem aL_94 : ax_L 94 = 4 := by decide +kernel
theorem aL_95 : ax_L 95 = 8 := by decide +kernel
theorem aL_96 : ax_L 96 = 8 := by decide +kernel
theorem aL_97 : ax_L 97 = 8 := by decide +kernel
theorem aL_98 : ax_L 98 = 3 := by decide +kernel
theorem aL_99 : ax_L 99 = 7 := by decide +kernel
theorem aL_100 : ax_L 100 = 4 := by decide +kernel
theorem aL_102 : ax_L 102 = 5 := by decide +kernel
theorem aL_103 : ax_L 103 = 4 := by decide +kernel
theorem aL_104 : ax_L 104 = 2 := by decide +kernel
theorem aL_105 : ax_L 105 = 2 := by decide +kernel
theorem aL_108 : ax_L 108 = 4 := by decide +kernel
theorem aL_109 : ax_L 109 = 3 := by decide +kernel
theorem aL_110 : ax_L 110 = 4 := by decide +kernel
theorem aL_111 : ax_L 111 = 1 := by decide +kernel
theorem aL_112 : ax_L 112 = 2 := by decide +kernel
theorem aL_113 : ax_L 113 = 5 := by decide +kernel
theorem aL_114 : ax_L 114 = 2 := by decide +kernel
theorem aL_115 : ax_L 115 = 3 := by decide +kernel
theorem aL_117 : ax_L 117 = 1 := by decide +kernel
theorem aL_119 : ax_L 119 = 1 := by decide +kernel
theorem aL_120 : ax_L 120 = 2 := by decide +kernel
theorem aL_121 : ax_L 121 = 2 := by decide +kernel
theorem aL_122 : ax_L 122 = 3 := by decide +kernel
theorem aL_123 : ax_L 123 = 2 := by decide +kernel
theorem aL_127 : ax_L 127 = 3 := by decide +kernel
theorem aL_128 : ax_L 128 = 4 := by decide +kernel
theorem aL_129 : ax_L 129 = 1 := by decide +kernel
theorem aL_130 : ax_L 130 = 5 := by decide +kernel
theorem aL_131 : ax_L 131 = 4 := by decide +kernel
theorem aL_132 : ax_L 132 = 8 := by decide +kernel
theorem aL_133 : ax_L 133 = 1 := by decide +kernel
theorem aL_134 : ax_L 134 = 4 := by decide +kernel
theorem aL_135 : ax_L 135 = 3 := by decide +kernel
theorem aL_136 : ax_L 136 = 3 := by decide +kernel
theorem aL_138 : ax_L 138 = 5 := by decide +kernel
theorem aL_139 : ax_L 139 = 3 := by decide +kernel
theorem aL_140 : ax_L 140 = 4 := by decide +kernel
theorem aL_141 : ax_L 141 = 5 := by decide +kernel
theorem aL_142 : ax_L 142 = 6 := by decide +kernel
theorem aL_143 : ax_L 143 = 1 := by decide +kernel
theorem aL_144 : ax_L 144 = 4 := by decide +kernel
theorem aL_145 : ax_L 145 = 4 := by decide +kernel
theorem aL_146 : ax_L 146 = 5 := by decide +kernel
theorem aL_148 : ax_L 148 = 3 := by decide +kernel
theorem aL_149 : ax_L 149 = 3 := by decide +kernel
theorem aL_150 : ax_L 150 = 3 := by decide +kernel
theorem rt_8 : ax_ret 8 = some .int := by decide +kernel
theorem rt_9 : ax_ret 9 = none := by decide +kernel
theorem rt_10 : ax_ret 10 = none := by decide +kernel
theorem rt_11 : ax_ret 11 = some .int := by decide +kernel
theorem rt_12 : ax_ret 12 = some .int := by decide +kernel
theorem rt_13 : ax_ret 13 = some .boolean := by decide +kernel
theorem rt_14 : ax_ret 14 = some .boolean := by decide +kernel
theorem rt_15 : ax_ret 15 = some .boolean := by decide +kernel
theorem rt_16 : ax_ret 16 = some .boolean := by decide +kernel
theorem rt_17 : ax_ret 17 = some .boolean := by decide +kernel
theorem rt_18 : ax_ret 18 = some .int := by decide +kernel
theorem rt_19 : ax_ret 19 = some .boolean := by decide +kernel
theorem rt_20 : ax_ret 20 = some (.object "VeiledTable$Stage") := by decide +kernel
theorem rt_21 : ax_ret 21 = none := by decide +kernel
theorem rt_22 : ax_ret 22 = none := by decide +kernel
theorem rt_24 : ax_ret 24 = none := by decide +kernel
theorem rt_25 : ax_ret 25 = some .int := by decide +kernel
theorem rt_26 : ax_ret 26 = none := by decide +kernel
theorem rt_27 : ax_ret 27 = none := by decide +kernel
theorem rt_28 : ax_ret 28 = some .boolean := by decide +kernel
theorem rt_29 : ax_ret 29 = some .int := by decide +kernel
theorem rt_30 : ax_ret 30 = some .int := by decide +kernel
theorem rt_31 : ax_ret 31 = some .boolean := by decide +kernel
theorem rt_32 : ax_ret 32 = some .boolean := by decide +kernel
theorem rt_33 : ax_ret 33 = some .int := by decide +kernel
theorem rt_34 : ax_ret 34 = some .int := by decide +kernel
theorem rt_35 : ax_ret 35 = some .int := by decide +kernel
theorem rt_36 : ax_ret 36 = some .boolean := by decide +kernel
theorem rt_37 : ax_ret 37 = some .long := by decide +kernel
theorem rt_38 : ax_ret 38 = some .boolean := by decide +kernel
theorem rt_39 : ax_ret 39 = some .int := by decide +kernel
theorem rt_40 : ax_ret 40 = some .boolean := by decide +kernel
theorem rt_41 : ax_ret 41 = some .boolean := by decide +kernel
theorem rt_42 : ax_ret 42 = some .int := by decide +kernel
theorem rt_43 : ax_ret 43 = some .int := by decide +kernel
theorem rt_44 : ax_ret 44 = some .int := by decide +kernel
theorem rt_45 : ax_ret 45 = some .int := by decide +kernel
theorem rt_46 : ax_ret 46 = some .int := by decide +kernel
theorem rt_47 : ax_ret 47 = some .int := by decide +kernel
theorem rt_48 : ax_ret 48 = some .int := by decide +kernel
theorem rt_49 : ax_ret 49 = some .long := by decide +kernel
theorem rt_50 : ax_ret 50 = none := by decide +kernel
theorem rt_51 : ax_ret 51 = none := by decide +kernel
theorem rt_52 : ax_ret 52 = some .boolean := by decide +kernel
theorem rt_53 : ax_ret 53 = some .int := by decide +kernel
theorem rt_54 : ax_ret 54 = some .int := by decide +kernel
theorem rt_55 : ax_ret 55 = some .int := by decide +kernel
theorem rt_56 : ax_ret 56 = some .int := by decide +kernel
theorem rt_57 : ax_ret 57 = some .int := by decide +kernel
theorem rt_58 : ax_ret 58 = some .long := by decide +kernel
theorem rt_60 : ax_ret 60 = some .long := by decide +kernel
theorem rt_62 : ax_ret 62 = some .int := by decide +kernel
theorem rt_63 : ax_ret 63 = none := by decide +kernel
theorem rt_64 : ax_ret 64 = some .boolean := by decide +kernel
theorem rt_65 : ax_ret 65 = none := by decide +kernel
theorem rt_66 : ax_ret 66 = none := by decide +kernel
theorem rt_67 : ax_ret 67 = some .int := by decide +kernel
theorem rt_68 : ax_ret 68 = some .int := by decide +kernel
theorem rt_69 : ax_ret 69 = some .boolean := by decide +kernel
theorem rt_70 : ax_ret 70 = some .boolean := by decide +kernel
theorem rt_71 : ax_ret 71 = some .int := by decide +kernel
theorem rt_72 : ax_ret 72 = some .int := by decide +kernel
theorem rt_73 : ax_ret 73 = some .boolean := by decide +kernel
theorem rt_74 : ax_ret 74 = some .int := by decide +kernel
theorem rt_75 : ax_ret 75 = some .int := by decide +kernel
theorem rt_76 : ax_ret 76 = some .int := by decide +kernel
theorem rt_77 : ax_ret 77 = some (.object "VeiledTable$Test") := by decide +kernel
theorem rt_78 : ax_ret 78 = none := by decide +kernel
theorem rt_79 : ax_ret 79 = some (.object "VeiledTable$Amount") := by decide +kernel
theorem rt_80 : ax_ret 80 = none := by decide +kernel
theorem rt_81 : ax_ret 81 = some .int := by decide +kernel
theorem rt_82 : ax_ret 82 = some .int := by decide +kernel
theorem rt_83 : ax_ret 83 = some .boolean := by decide +kernel
theorem rt_84 : ax_ret 84 = some .boolean := by decide +kernel
theorem rt_85 : ax_ret 85 = some .int := by decide +kernel
theorem rt_86 : ax_ret 86 = some .int := by decide +kernel
theorem rt_87 : ax_ret 87 = some .int := by decide +kernel
theorem rt_88 : ax_ret 88 = some .long := by decide +kernel
theorem rt_89 : ax_ret 89 = some .int := by decide +kernel
theorem rt_90 : ax_ret 90 = some .boolean := by decide +kernel
theorem rt_91 : ax_ret 91 = some .long := by decide +kernel
theorem rt_92 : ax_ret 92 = some .int := by decide +kernel
theorem rt_93 : ax_ret 93 = some .long := by decide +kernel
theorem rt_94 : ax_ret 94 = some .boolean := by decide +kernel
theorem rt_95 : ax_ret 95 = some .int := by decide +kernel
theorem rt_96 : ax_ret 96 = none := by decide +kernel
theorem rt_97 : ax_ret 97 = some .long := by decide +kernel
theorem rt_98 : ax_ret 98 = some .int := by decide +kernel
theorem rt_99 : ax_ret 99 = some .boolean := by decide +kernel
theorem rt_100 : ax_ret 100 = some .boolean := by decide +kernel
theorem rt_102 : ax_ret 102 = some .int := by decide +kernel
theorem rt_103 : ax_ret 103 = some .int := by decide +kernel
theorem rt_104 : ax_ret 104 = some .int := by decide +kernel
theorem rt_105 : ax_ret 105 = some .int := by decide +kernel
theorem rt_106 : ax_ret 106 = some .int := by decide +kernel
theorem rt_107 : ax_ret 107 = some .int := by decide +kernel
theorem rt_108 : ax_ret 108 = none := by decide +kernel
theorem rt_109 : ax_ret 109 = some .int := by decide +kernel
theorem rt_110 : ax_ret 110 = some .int := by decide +kernel
theorem rt_111 : ax_ret 111 = none := by decide +kernel
theorem rt_112 : ax_ret 112 = some .int := by decide +kernel
theorem rt_113 : ax_ret 113 = some .boolean := by decide +kernel
theorem rt_114 : ax_ret 114 = some (.object "VeiledTable$Kind") := by decide +kernel
theorem rt_115 : ax_ret 115 = some .boolean := by decide +kernel
theorem rt_116 : ax_ret 116 = some .int := by decide +kernel
theorem rt_117 : ax_ret 117 = some .byte := by decide +kernel
theorem rt_118 : ax_ret 118 = some .char := by decide +kernel
theorem rt_119 : ax_ret 119 = some .boolean := by decide +kernel
theorem rt_120 : ax_ret 120 = some .char := by decide +kernel
theorem rt_121 : ax_ret 121 = none := by decide +kernel
theorem rt_122 : ax_ret 122 = some .int := by decide +kernel
theorem rt_127 : ax_ret 127 = some .boolean := by decide +kernel
theorem rt_128 : ax_ret 128 = some .int := by decide +kernel
theorem rt_129 : ax_ret 129 = some .boolean := by decide +kernel
theorem rt_130 : ax_ret 130 = some .int := by decide +kernel
theorem rt_131 : ax_ret 131 = some .int := by decide +kernel
theorem rt_132 : ax_ret 132 = some .int := by decide +kernel
theorem rt_133 : ax_ret 133 = some .boolean := by decide +kernel
theorem rt_134 : ax_ret 134 = none := by decide +kernel
theorem rt_135 : ax_ret 135 = none := by decide +kernel
theorem rt_136 : ax_ret 136 = some .int := by decide +kernel
theorem rt_137 : ax_ret 137 = some .int := by decide +kernel
theorem rt_138 : ax_ret 138 = some .int := by decide +kernel
theorem rt_139 : ax_ret 139 = some .int := by decide +kernel
theorem rt_140 : ax_ret 140 = some .int := by decide +kernel
theorem rt_141 : ax_ret 141 = some .int := by decide +kernel
theorem rt_142 : ax_ret 142 = some .int := by decide +kernel
theorem rt_143 : ax_ret 143 = some .boolean := by decide +kernel
theorem rt_144 : ax_ret 144 = some .int := by decide +kernel
theorem rt_145 : ax_ret 145 = some .int := by decide +kernel
theorem rt_146 : ax_ret 146 = some .int := by decide +kernel
theorem rt_147 : ax_ret 147 = some .int := by decide +kernel
theorem rt_148 : ax_ret 148 = none := by decide +kernel
theorem rt_149 : ax_ret 149 = none := by decide +kernel
theorem rt_150 : ax_ret 150 = none := by decide +kernel
theorem rt_151 : ax_ret 151 = some .int := by decide +kernel
theorem rt_152 : ax_ret 152 = some .long := by decide +kernel
theorem ld_3_132 : ax_ldc 3 132 = some (.long (lN 63)) := by decide +kernel
theorem ld_10_167 : ax_ldc 10 167 = some (.long (-lN 4611686018427387906)) := by decide +kernel
theorem ld_10_195 : ax_ldc 10 195 = some (.long (-lN 4611686018427387905)) := by decide +kernel
theorem ld_10_244 : ax_ldc 10 244 = some (.int (nI 1103515245)) := by decide +kernel
theorem ld_10_297 : ax_ldc 10 297 = some (.long (-lN 4611686018427387909)) := by decide +kernel
theorem ld_10_320 : ax_ldc 10 320 = some (.long (lN 1000000000)) := by decide +kernel
theorem ld_10_387 : ax_ldc 10 387 = some (.long (lN 9223372036854775807)) := by decide +kernel
theorem ld_10_389 : ax_ldc 10 389 = some (.long (-lN 9223372036854775808)) := by decide +kernel
theorem sg_7_115 : ax_sta 7 115 = some (.ref 4) := by decide +kernel
theorem sg_7_118 : ax_sta 7 118 = some (.ref 5) := by decide +kernel
theorem sg_8_74 : ax_sta 8 74 = some (.ref 8) := by decide +kernel
theorem sg_10_102 : ax_sta 10 102 = some (.ref 8) := by decide +kernel
theorem sg_12_3 : ax_sta 12 3 = some (.ref 0) := by decide +kernel
theorem sg_12_7 : ax_sta 12 7 = some (.ref 1) := by decide +kernel
theorem sg_12_10 : ax_sta 12 10 = some (.ref 2) := by decide +kernel
theorem sg_12_13 : ax_sta 12 13 = some (.ref 3) := by decide +kernel
theorem sg_12_22 : ax_sta 12 22 = some (.ref 6) := by decide +kernel
theorem sg_12_25 : ax_sta 12 25 = some (.ref 7) := by decide +kernel
theorem sg_13_38 : ax_sta 13 38 = some (.int (nI 1)) := by decide +kernel
theorem sg_13_1053 : ax_sta 13 1053 = some (.ref 9) := by decide +kernel
theorem ca_0_3 : ax_cal 0 3 = some (4, 0, 0) := by decide +kernel
theorem ca_0_28 : ax_cal 0 28 = some (0, 86, 1) := by decide +kernel
theorem ca_1_52 : ax_cal 1 52 = some (0, 10, 1) := by decide +kernel
theorem ca_1_59 : ax_cal 1 59 = some (0, 149, 1) := by decide +kernel
theorem ca_1_63 : ax_cal 1 63 = some (0, 150, 1) := by decide +kernel
theorem ca_1_66 : ax_cal 1 66 = some (0, 20, 1) := by decide +kernel
theorem ca_1_70 : ax_cal 1 70 = some (0, 54, 3) := by decide +kernel
theorem ca_1_79 : ax_cal 1 79 = some (0, 77, 1) := by decide +kernel
theorem ca_1_83 : ax_cal 1 83 = some (0, 79, 1) := by decide +kernel
theorem ca_1_87 : ax_cal 1 87 = some (0, 83, 1) := by decide +kernel
theorem ca_1_91 : ax_cal 1 91 = some (0, 85, 1) := by decide +kernel
theorem ca_1_95 : ax_cal 1 95 = some (0, 82, 1) := by decide +kernel
theorem ca_2_22 : ax_cal 2 22 = some (1, 55, 3) := by decide +kernel
theorem ca_3_41 : ax_cal 3 41 = some (0, 51, 3) := by decide +kernel
theorem ca_3_51 : ax_cal 3 51 = some (0, 20, 1) := by decide +kernel
theorem ca_3_66 : ax_cal 3 66 = some (0, 52, 0) := by decide +kernel
theorem ca_3_75 : ax_cal 3 75 = some (0, 46, 3) := by decide +kernel
theorem ca_3_79 : ax_cal 3 79 = some (0, 53, 3) := by decide +kernel
theorem ca_3_88 : ax_cal 3 88 = some (0, 50, 3) := by decide +kernel
theorem ca_3_91 : ax_cal 3 91 = some (0, 26, 2) := by decide +kernel
theorem ca_3_95 : ax_cal 3 95 = some (0, 89, 1) := by decide +kernel
theorem ca_3_99 : ax_cal 3 99 = some (0, 96, 3) := by decide +kernel
theorem ca_3_103 : ax_cal 3 103 = some (0, 98, 0) := by decide +kernel
theorem ca_3_107 : ax_cal 3 107 = some (0, 100, 2) := by decide +kernel
theorem ca_3_111 : ax_cal 3 111 = some (0, 64, 2) := by decide +kernel
theorem ca_3_115 : ax_cal 3 115 = some (0, 97, 3) := by decide +kernel
theorem ca_3_119 : ax_cal 3 119 = some (0, 43, 2) := by decide +kernel
theorem ca_3_123 : ax_cal 3 123 = some (0, 71, 2) := by decide +kernel
theorem ca_3_128 : ax_cal 3 128 = some (0, 99, 1) := by decide +kernel
theorem ca_3_135 : ax_cal 3 135 = some (6, 101, 2) := by decide +kernel
theorem ca_4_36 : ax_cal 4 36 = some (0, 64, 2) := by decide +kernel
theorem ca_4_40 : ax_cal 4 40 = some (0, 65, 3) := by decide +kernel
theorem ca_4_47 : ax_cal 4 47 = some (0, 46, 3) := by decide +kernel
theorem ca_4_51 : ax_cal 4 51 = some (0, 66, 1) := by decide +kernel
theorem ca_4_55 : ax_cal 4 55 = some (0, 63, 2) := by decide +kernel
theorem ca_4_59 : ax_cal 4 59 = some (0, 70, 4) := by decide +kernel
theorem ca_4_63 : ax_cal 4 63 = some (0, 71, 2) := by decide +kernel
theorem ca_4_67 : ax_cal 4 67 = some (0, 43, 2) := by decide +kernel
theorem ca_6_1 : ax_cal 6 1 = some (4, 0, 0) := by decide +kernel
theorem ca_7_45 : ax_cal 7 45 = some (0, 10, 1) := by decide +kernel
theorem ca_7_49 : ax_cal 7 49 = some (0, 22, 1) := by decide +kernel
theorem ca_7_53 : ax_cal 7 53 = some (0, 17, 0) := by decide +kernel
theorem ca_7_59 : ax_cal 7 59 = some (0, 18, 0) := by decide +kernel
theorem ca_7_63 : ax_cal 7 63 = some (0, 19, 1) := by decide +kernel
theorem ca_7_67 : ax_cal 7 67 = some (0, 20, 1) := by decide +kernel
theorem ca_7_75 : ax_cal 7 75 = some (0, 41, 0) := by decide +kernel
theorem ca_7_78 : ax_cal 7 78 = some (0, 52, 0) := by decide +kernel
theorem ca_7_84 : ax_cal 7 84 = some (0, 15, 0) := by decide +kernel
theorem ca_7_87 : ax_cal 7 87 = some (0, 16, 1) := by decide +kernel
theorem ca_7_94 : ax_cal 7 94 = some (5, 23, 2) := by decide +kernel
theorem ca_7_100 : ax_cal 7 100 = some (0, 24, 2) := by decide +kernel
theorem ca_7_104 : ax_cal 7 104 = some (0, 27, 2) := by decide +kernel
theorem ca_7_108 : ax_cal 7 108 = some (0, 25, 2) := by decide +kernel
theorem ca_7_111 : ax_cal 7 111 = some (0, 26, 2) := by decide +kernel
theorem ca_7_121 : ax_cal 7 121 = some (0, 28, 0) := by decide +kernel
theorem ca_7_124 : ax_cal 7 124 = some (0, 43, 2) := by decide +kernel
theorem ca_7_127 : ax_cal 7 127 = some (0, 46, 3) := by decide +kernel
theorem ca_7_131 : ax_cal 7 131 = some (0, 40, 1) := by decide +kernel
theorem ca_8_31 : ax_cal 8 31 = some (0, 111, 0) := by decide +kernel
theorem ca_8_34 : ax_cal 8 34 = some (0, 113, 1) := by decide +kernel
theorem ca_8_38 : ax_cal 8 38 = some (0, 114, 0) := by decide +kernel
theorem ca_8_42 : ax_cal 8 42 = some (0, 15, 0) := by decide +kernel
theorem ca_8_48 : ax_cal 8 48 = some (0, 16, 1) := by decide +kernel
theorem ca_8_58 : ax_cal 8 58 = some (0, 127, 2) := by decide +kernel
theorem ca_8_67 : ax_cal 8 67 = some (2, 21, 3) := by decide +kernel
theorem ca_8_70 : ax_cal 8 70 = some (0, 22, 1) := by decide +kernel
theorem ca_8_82 : ax_cal 8 82 = some (0, 115, 1) := by decide +kernel
theorem ca_8_86 : ax_cal 8 86 = some (0, 116, 0) := by decide +kernel
theorem ca_8_92 : ax_cal 8 92 = some (0, 118, 1) := by decide +kernel
theorem ca_8_96 : ax_cal 8 96 = some (0, 112, 1) := by decide +kernel
theorem ca_9_3 : ax_cal 9 3 = some (4, 0, 0) := by decide +kernel
theorem ca_9_25 : ax_cal 9 25 = some (0, 84, 1) := by decide +kernel
theorem ca_10_87 : ax_cal 10 87 = some (0, 9, 1) := by decide +kernel
theorem ca_10_94 : ax_cal 10 94 = some (1, 13, 3) := by decide +kernel
theorem ca_10_98 : ax_cal 10 98 = some (0, 15, 0) := by decide +kernel
theorem ca_10_106 : ax_cal 10 106 = some (0, 16, 1) := by decide +kernel
theorem ca_10_110 : ax_cal 10 110 = some (2, 21, 3) := by decide +kernel
theorem ca_10_113 : ax_cal 10 113 = some (0, 22, 1) := by decide +kernel
theorem ca_10_120 : ax_cal 10 120 = some (0, 20, 1) := by decide +kernel
theorem ca_10_143 : ax_cal 10 143 = some (0, 31, 2) := by decide +kernel
theorem ca_10_147 : ax_cal 10 147 = some (0, 32, 1) := by decide +kernel
theorem ca_10_154 : ax_cal 10 154 = some (0, 36, 1) := by decide +kernel
theorem ca_10_157 : ax_cal 10 157 = some (0, 26, 2) := by decide +kernel
theorem ca_10_164 : ax_cal 10 164 = some (1, 38, 1) := by decide +kernel
theorem ca_10_169 : ax_cal 10 169 = some (0, 39, 1) := by decide +kernel
theorem ca_10_173 : ax_cal 10 173 = some (1, 14, 1) := by decide +kernel
theorem ca_10_176 : ax_cal 10 176 = some (0, 43, 2) := by decide +kernel
theorem ca_10_180 : ax_cal 10 180 = some (0, 45, 3) := by decide +kernel
theorem ca_10_184 : ax_cal 10 184 = some (0, 48, 4) := by decide +kernel
theorem ca_10_188 : ax_cal 10 188 = some (0, 50, 3) := by decide +kernel
theorem ca_10_192 : ax_cal 10 192 = some (0, 56, 4) := by decide +kernel
theorem ca_10_197 : ax_cal 10 197 = some (0, 57, 6) := by decide +kernel
theorem ca_10_201 : ax_cal 10 201 = some (1, 58, 3) := by decide +kernel
theorem ca_10_205 : ax_cal 10 205 = some (0, 63, 2) := by decide +kernel
theorem ca_10_221 : ax_cal 10 221 = some (0, 53, 3) := by decide +kernel
theorem ca_10_224 : ax_cal 10 224 = some (0, 69, 2) := by decide +kernel
theorem ca_10_228 : ax_cal 10 228 = some (0, 64, 2) := by decide +kernel
theorem ca_10_238 : ax_cal 10 238 = some (0, 73, 4) := by decide +kernel
theorem ca_10_245 : ax_cal 10 245 = some (5, 23, 2) := by decide +kernel
theorem ca_10_260 : ax_cal 10 260 = some (0, 77, 1) := by decide +kernel
theorem ca_10_264 : ax_cal 10 264 = some (2, 78, 4) := by decide +kernel
theorem ca_10_270 : ax_cal 10 270 = some (0, 79, 1) := by decide +kernel
theorem ca_10_274 : ax_cal 10 274 = some (2, 80, 5) := by decide +kernel
theorem ca_10_283 : ax_cal 10 283 = some (0, 82, 1) := by decide +kernel
theorem ca_10_286 : ax_cal 10 286 = some (0, 89, 1) := by decide +kernel
theorem ca_10_293 : ax_cal 10 293 = some (1, 90, 2) := by decide +kernel
theorem ca_10_299 : ax_cal 10 299 = some (0, 92, 2) := by decide +kernel
theorem ca_10_303 : ax_cal 10 303 = some (1, 60, 2) := by decide +kernel
theorem ca_10_307 : ax_cal 10 307 = some (0, 94, 1) := by decide +kernel
theorem ca_10_310 : ax_cal 10 310 = some (0, 95, 3) := by decide +kernel
theorem ca_10_314 : ax_cal 10 314 = some (0, 103, 1) := by decide +kernel
theorem ca_10_317 : ax_cal 10 317 = some (0, 104, 1) := by decide +kernel
theorem ca_10_323 : ax_cal 10 323 = some (0, 108, 2) := by decide +kernel
theorem ca_10_326 : ax_cal 10 326 = some (0, 110, 1) := by decide +kernel
theorem ca_10_330 : ax_cal 10 330 = some (1, 129, 1) := by decide +kernel
theorem ca_10_333 : ax_cal 10 333 = some (1, 133, 1) := by decide +kernel
theorem ca_10_336 : ax_cal 10 336 = some (0, 134, 2) := by decide +kernel
theorem ca_10_338 : ax_cal 10 338 = some (0, 135, 2) := by decide +kernel
theorem ca_10_340 : ax_cal 10 340 = some (0, 136, 0) := by decide +kernel
theorem ca_10_344 : ax_cal 10 344 = some (0, 139, 2) := by decide +kernel
theorem ca_10_356 : ax_cal 10 356 = some (1, 143, 1) := by decide +kernel
theorem ca_10_359 : ax_cal 10 359 = some (0, 52, 0) := by decide +kernel
theorem ca_10_362 : ax_cal 10 362 = some (0, 41, 0) := by decide +kernel
theorem ca_10_365 : ax_cal 10 365 = some (0, 85, 1) := by decide +kernel
theorem ca_10_368 : ax_cal 10 368 = some (0, 148, 1) := by decide +kernel
theorem ca_10_378 : ax_cal 10 378 = some (0, 54, 3) := by decide +kernel
theorem ca_10_381 : ax_cal 10 381 = some (7, 59, 1) := by decide +kernel
theorem ca_10_385 : ax_cal 10 385 = some (8, 61, 2) := by decide +kernel
theorem ca_12_62 : ax_cal 12 62 = some (0, 17, 0) := by decide +kernel
theorem ca_13_335 : ax_cal 13 335 = some (0, 117, 0) := by decide +kernel
theorem ca_13_492 : ax_cal 13 492 = some (0, 119, 0) := by decide +kernel
theorem ca_13_495 : ax_cal 13 495 = some (1, 120, 2) := by decide +kernel
theorem ca_13_498 : ax_cal 13 498 = some (1, 123, 2) := by decide +kernel
theorem ca_13_1059 : ax_cal 13 1059 = some (1, 122, 3) := by decide +kernel
theorem ca_15_9 : ax_cal 15 9 = some (1, 121, 2) := by decide +kernel
theorem nw_8_65 : ax_new 8 65 = some 6 := by decide +kernel
theorem nw_10_44 : ax_new 10 44 = some 6 := by decide +kernel
theorem nw_10_67 : ax_new 10 67 = some 0 := by decide +kernel
theorem nw_10_251 : ax_new 10 251 = some 9 := by decide +kernel
section R51
variable {d m pc : Nat} {ls st : List Value} {h : AH} {R : Option Value × AH}
theorem ty_8 (h : AH) : ax_ty h 8 = (42, 8) := rfl
theorem ty_64 (h : AH) : ax_ty h 64 = (10, 13) := rfl
theorem ty_65 (h : AH) : ax_ty h 65 = (1, 8) := rfl
theorem ty_66 (h : AH) : ax_ty h 66 = (7, 9) := rfl
theorem ty_67 (h : AH) : ax_ty h 67 = (20, 5) := rfl
theorem ty_68 (h : AH) : ax_ty h 68 = (36, 6) := rfl
theorem ty_69 (h : AH) : ax_ty h 69 = (20, 6) := rfl
theorem ty_70 (h : AH) : ax_ty h 70 = (20, 7) := rfl
theorem ty_71 (h : AH) : ax_ty h 71 = (24, 7) := rfl
theorem ty_79 (h : AH) : ax_ty h 79 = (24, 6) := rfl
theorem ty_86 (h : AH) : ax_ty h 86 = (20, 6) := rfl
theorem ty_87 (h : AH) : ax_ty h 87 = (2, 3) := rfl
theorem ty_88 (h : AH) : ax_ty h 88 = (20, 40) := rfl
theorem ty_89 (h : AH) : ax_ty h 89 = (20, 40) := rfl
theorem ty_90 (h : AH) : ax_ty h 90 = (39, 8) := rfl
theorem ty_91 (h : AH) : ax_ty h 91 = (30, 8) := rfl
theorem ty_92 (h : AH) : ax_ty h 92 = (20, 8) := rfl
theorem ty_93 (h : AH) : ax_ty h 93 = (20, 8) := rfl
theorem ty_94 (h : AH) : ax_ty h 94 = (1, 8) := rfl
theorem ty_95 (h : AH) : ax_ty h 95 = (7, 9) := rfl
theorem ty_96 (h : AH) : ax_ty h 96 = (20, 5) := rfl
theorem ty_97 (h : AH) : ax_ty h 97 = (36, 6) := rfl
theorem ty_98 (h : AH) : ax_ty h 98 = (20, 6) := rfl
theorem ty_99 (h : AH) : ax_ty h 99 = (20, 7) := rfl
theorem ty_100 (h : AH) : ax_ty h 100 = (24, 7) := rfl
theorem ty_108 (h : AH) : ax_ty h 108 = (24, 6) := rfl
theorem ty_115 (h : AH) : ax_ty h 115 = (20, 6) := rfl
theorem ty_116 (h : AH) : ax_ty h 116 = (2, 3) := rfl
theorem ty_117 (h : AH) : ax_ty h 117 = (20, 40) := rfl
theorem ty_118 (h : AH) : ax_ty h 118 = (20, 40) := rfl
theorem ty_119 (h : AH) : ax_ty h 119 = (39, 8) := rfl
theorem ty_120 (h : AH) : ax_ty h 120 = (30, 8) := rfl
theorem ty_121 (h : AH) : ax_ty h 121 = (20, 8) := rfl
theorem ty_122 (h : AH) : ax_ty h 122 = (20, 8) := rfl
theorem ty_123 (h : AH) : ax_ty h 123 = (4, 6) := rfl
theorem ty_124 (h : AH) : ax_ty h 124 = (20, 806) := rfl
theorem ty_125 (h : AH) : ax_ty h 125 = (20, 806) := rfl
theorem ty_126 (h : AH) : ax_ty h 126 = (20, 806) := rfl
theorem ty_127 (h : AH) : ax_ty h 127 = (20, 1620) := rfl
theorem ty_128 (h : AH) : ax_ty h 128 = (20, 806) := rfl
theorem ty_129 (h : AH) : ax_ty h 129 = (3, 9) := rfl
theorem ty_132 (h : AH) : ax_ty h 132 = (21, 1620) := rfl
theorem ty_133 (h : AH) : ax_ty h 133 = (20, 1620) := rfl
theorem ty_134 (h : AH) : ax_ty h 134 = (20, 63) := rfl
theorem ty_135 (h : AH) : ax_ty h 135 = (20, 9) := rfl
theorem ty_136 (h : AH) : ax_ty h 136 = (8, 6) := rfl
theorem ty_137 (h : AH) : ax_ty h 137 = (20, 120) := rfl
theorem ty_138 (h : AH) : ax_ty h 138 = (36, 12) := rfl
theorem ty_139 (h : AH) : ax_ty h 139 = (20, 2) := rfl
theorem ty_140 (h : AH) : ax_ty h 140 = (35, 4) := rfl
theorem ty_149 (h : AH) : ax_ty h 149 = (20, 4) := rfl
theorem ty_150 (h : AH) : ax_ty h 150 = (36, 4) := rfl
theorem ty_151 (h : AH) : ax_ty h 151 = (30, 4) := rfl
theorem ty_152 (h : AH) : ax_ty h 152 = (21, 4) := rfl
theorem gf_0_32_66 (hd : decode (ax_code m) pc = .ok (.getfield 32, 3)) (ho : ax_own m = 0) : XX true d m pc ls (.ref 66 :: st) h R ↔ XX true d m (pc + 3) ls (.int (hI h 66 3) :: st) h R := xr_getfield (q := (7, 3)) (t := 0) hd ho fl_0_32 (by decide) (by decide +kernel) rfl rfl rfl
theorem gf_0_37_66 (hd : decode (ax_code m) pc = .ok (.getfield 37, 3)) (ho : ax_own m = 0) : XX true d m pc ls (.ref 66 :: st) h R ↔ XX true d m (pc + 3) ls (.ref 86 :: st) h R := xr_getfield (q := (7, 8)) (t := 2) hd ho fl_0_37 (by decide) (by decide +kernel) rfl rfl rfl
theorem gf_0_41_66 (hd : decode (ax_code m) pc = .ok (.getfield 41, 3)) (ho : ax_own m = 0) : XX true d m pc ls (.ref 66 :: st) h R ↔ XX true d m (pc + 3) ls (.int (hI h 66 0) :: st) h R := xr_getfield (q := (7, 0)) (t := 0) hd ho fl_0_41 (by decide) (by decide +kernel) rfl rfl rfl
theorem gf_0_44_66 (hd : decode (ax_code m) pc = .ok (.getfield 44, 3)) (ho : ax_own m = 0) : XX true d m pc ls (.ref 66 :: st) h R ↔ XX true d m (pc + 3) ls (.ref 67 :: st) h R := xr_getfield (q := (7, 1)) (t := 2) hd ho fl_0_44 (by decide) (by decide +kernel) rfl rfl rfl
theorem gf_1_12_65 (hd : decode (ax_code m) pc = .ok (.getfield 12, 3)) (ho : ax_own m = 1) : XX true d m pc ls (.ref 65 :: st) h R ↔ XX true d m (pc + 3) ls (.ref 66 :: st) h R := xr_getfield (q := (1, 0)) (t := 2) hd ho fl_1_12 (by decide) (by decide +kernel) rfl rfl rfl
theorem gf_1_12_94 (hd : decode (ax_code m) pc = .ok (.getfield 12, 3)) (ho : ax_own m = 1) : XX true d m pc ls (.ref 94 :: st) h R ↔ XX true d m (pc + 3) ls (.ref 95 :: st) h R := xr_getfield (q := (1, 0)) (t := 2) hd ho fl_1_12 (by decide) (by decide +kernel) rfl rfl rfl
theorem gf_1_21_65 (hd : decode (ax_code m) pc = .ok (.getfield 21, 3)) (ho : ax_own m = 1) : XX true d m pc ls (.ref 65 :: st) h R ↔ XX true d m (pc + 3) ls (.ref 87 :: st) h R := xr_getfield (q := (1, 1)) (t := 2) hd ho fl_1_21 (by decide) (by decide +kernel) rfl rfl rfl
theorem gf_1_21_94 (hd : decode (ax_code m) pc = .ok (.getfield 21, 3)) (ho : ax_own m = 1) : XX true d m pc ls (.ref 94 :: st) h R ↔ XX true d m (pc + 3) ls (.ref 116 :: st) h R := xr_getfield (q := (1, 1)) (t := 2) hd ho fl_1_21 (by decide) (by decide +kernel) rfl rfl rfl
theorem gf_1_27_65 (hd : decode (ax_code m) pc = .ok (.getfield 27, 3)) (ho : ax_own m = 1) : XX true d m pc ls (.ref 65 :: st) h R ↔ XX true d m (pc + 3) ls (.ref 90 :: st) h R := xr_getfield (q := (1, 2)) (t := 2) hd ho fl_1_27 (by decide) (by decide +kernel) rfl rfl rfl
theorem gf_1_27_94 (hd : decode (ax_code m) pc = .ok (.getfield 27, 3)) (ho : ax_own m = 1) : XX true d m pc ls (.ref 94 :: st) h R ↔ XX true d m (pc + 3) ls (.ref 119 :: st) h R := xr_getfield (q := (1, 2)) (t := 2) hd ho fl_1_27 (by decide) (by decide +kernel) rfl rfl rfl
theorem gf_1_33_65 (hd : decode (ax_code m) pc = .ok (.getfield 33, 3)) (ho : ax_own m = 1) : XX true d m pc ls (.ref 65 :: st) h R ↔ XX true d m (pc + 3) ls (.ref 91 :: st) h R := xr_getfield (q := (1, 3)) (t := 2) hd ho fl_1_33 (by decide) (by decide +kernel) rfl rfl rfl
theorem gf_1_33_94 (hd : decode (ax_code m) pc = .ok (.getfield 33, 3)) (ho : ax_own m = 1) : XX true d m pc ls (.ref 94 :: st) h R ↔ XX true d m (pc + 3) ls (.ref 120 :: st) h R := xr_getfield (q := (1, 3)) (t := 2) hd ho fl_1_33 (by decide) (by decide +kernel) rfl rfl rfl
theorem gf_1_37_65 (hd : decode (ax_code m) pc = .ok (.getfield 37, 3)) (ho : ax_own m = 1) : XX true d m pc ls (.ref 65 :: st) h R ↔ XX true d m (pc + 3) ls (.ref 92 :: st) h R := xr_getfield (q := (1, 4)) (t := 2) hd ho fl_1_37 (by decide) (by decide +kernel) rfl rfl rfl
theorem gf_1_37_94 (hd : decode (ax_code m) pc = .ok (.getfield 37, 3)) (ho : ax_own m = 1) : XX true d m pc ls (.ref 94 :: st) h R ↔ XX true d m (pc + 3) ls (.ref 121 :: st) h R := xr_getfield (q := (1, 4)) (t := 2) hd ho fl_1_37 (by decide) (by decide +kernel) rfl rfl rfl
theorem gf_1_41_65 (hd : decode (ax_code m) pc = .ok (.getfield 41, 3)) (ho : ax_own m = 1) : XX true d m pc ls (.ref 65 :: st) h R ↔ XX true d m (pc + 3) ls (.ref 93 :: st) h R := xr_getfield (q := (1, 5)) (t := 2) hd ho fl_1_41 (by decide) (by decide +kernel) rfl rfl rfl
theorem gf_1_41_94 (hd : decode (ax_code m) pc = .ok (.getfield 41, 3)) (ho : ax_own m = 1) : XX true d m pc ls (.ref 94 :: st) h R ↔ XX true d m (pc + 3) ls (.ref 122 :: st) h R := xr_getfield (q := (1, 5)) (t := 2) hd ho fl_1_41 (by decide) (by decide +kernel) rfl rfl rfl
theorem gf_1_44_65 (hd : decode (ax_code m) pc = .ok (.getfield 44, 3)) (ho : ax_own m = 1) : XX true d m pc ls (.ref 65 :: st) h R ↔ XX true d m (pc + 3) ls (.int (hI h 65 6) :: st) h R := xr_getfield (q := (1, 6)) (t := 0) hd ho fl_1_44 (by decide) (by decide +kernel) rfl rfl rfl
theorem gf_1_44_94 (hd : decode (ax_code m) pc = .ok (.getfield 44, 3)) (ho : ax_own m = 1) : XX true d m pc ls (.ref 94 :: st) h R ↔ XX true d m (pc + 3) ls (.int (hI h 94 6) :: st) h R := xr_getfield (q := (1, 6)) (t := 0) hd ho fl_1_44 (by decide) (by decide +kernel) rfl rfl rfl
theorem gf_1_48_65 (hd : decode (ax_code m) pc = .ok (.getfield 48, 3)) (ho : ax_own m = 1) : XX true d m pc ls (.ref 65 :: st) h R ↔ XX true d m (pc + 3) ls (.long (hL h 65 7) :: st) h R := xr_getfield (q := (1, 7)) (t := 1) hd ho fl_1_48 (by decide) (by decide +kernel) rfl rfl rfl
theorem gf_1_48_94 (hd : decode (ax_code m) pc = .ok (.getfield 48, 3)) (ho : ax_own m = 1) : XX true d m pc ls (.ref 94 :: st) h R ↔ XX true d m (pc + 3) ls (.long (hL h 94 7) :: st) h R := xr_getfield (q := (1, 7)) (t := 1) hd ho fl_1_48 (by decide) (by decide +kernel) rfl rfl rfl
theorem gf_2_9_87 (hd : decode (ax_code m) pc = .ok (.getfield 9, 3)) (ho : ax_own m = 2) : XX true d m pc ls (.ref 87 :: st) h R ↔ XX true d m (pc + 3) ls (.ref 88 :: st) h R := xr_getfield (q := (2, 0)) (t := 2) hd ho fl_2_9 (by decide) (by decide +kernel) rfl rfl rfl
theorem gf_2_9_116 (hd : decode (ax_code m) pc = .ok (.getfield 9, 3)) (ho : ax_own m = 2) : XX true d m pc ls (.ref 116 :: st) h R ↔ XX true d m (pc + 3) ls (.ref 117 :: st) h R := xr_getfield (q := (2, 0)) (t := 2) hd ho fl_2_9 (by decide) (by decide +kernel) rfl rfl rfl
theorem gf_2_15_87 (hd : decode (ax_code m) pc = .ok (.getfield 15, 3)) (ho : ax_own m = 2) : XX true d m pc ls (.ref 87 :: st) h R ↔ XX true d m (pc + 3) ls (.ref 89 :: st) h R := xr_getfield (q := (2, 1)) (t := 2) hd ho fl_2_15 (by decide) (by decide +kernel) rfl rfl rfl
theorem gf_2_15_116 (hd : decode (ax_code m) pc = .ok (.getfield 15, 3)) (ho : ax_own m = 2) : XX true d m pc ls (.ref 116 :: st) h R ↔ XX true d m (pc + 3) ls (.ref 118 :: st) h R := xr_getfield (q := (2, 1)) (t := 2) hd ho fl_2_15 (by decide) (by decide +kernel) rfl rfl rfl
theorem gf_2_18_87 (hd : decode (ax_code m) pc = .ok (.getfield 18, 3)) (ho : ax_own m = 2) : XX true d m pc ls (.ref 87 :: st) h R ↔ XX true d m (pc + 3) ls (.int (hI h 87 2) :: st) h R := xr_getfield (q := (2, 2)) (t := 0) hd ho fl_2_18 (by decide) (by decide +kernel) rfl rfl rfl
theorem gf_2_18_116 (hd : decode (ax_code m) pc = .ok (.getfield 18, 3)) (ho : ax_own m = 2) : XX true d m pc ls (.ref 116 :: st) h R ↔ XX true d m (pc + 3) ls (.int (hI h 116 2) :: st) h R := xr_getfield (q := (2, 2)) (t := 0) hd ho fl_2_18 (by decide) (by decide +kernel) rfl rfl rfl
theorem gf_3_18_129 (hd : decode (ax_code m) pc = .ok (.getfield 18, 3)) (ho : ax_own m = 3) : XX true d m pc ls (.ref 129 :: st) h R ↔ XX true d m (pc + 3) ls (.int (hI h 129 2) :: st) h R := xr_getfield (q := (3, 2)) (t := 0) hd ho fl_3_18 (by decide) (by decide +kernel) rfl rfl rfl
theorem gf_3_22_129 (hd : decode (ax_code m) pc = .ok (.getfield 22, 3)) (ho : ax_own m = 3) : XX true d m pc ls (.ref 129 :: st) h R ↔ XX true d m (pc + 3) ls (.ref 132 :: st) h R := xr_getfield (q := (3, 3)) (t := 2) hd ho fl_3_22 (by decide) (by decide +kernel) rfl rfl rfl
theorem gf_3_26_129 (hd : decode (ax_code m) pc = .ok (.getfield 26, 3)) (ho : ax_own m = 3) : XX true d m pc ls (.ref 129 :: st) h R ↔ XX true d m (pc + 3) ls (.ref 133 :: st) h R := xr_getfield (q := (3, 4)) (t := 2) hd ho fl_3_26 (by decide) (by decide +kernel) rfl rfl rfl
theorem gf_3_29_129 (hd : decode (ax_code m) pc = .ok (.getfield 29, 3)) (ho : ax_own m = 3) : XX true d m pc ls (.ref 129 :: st) h R ↔ XX true d m (pc + 3) ls (.int (hI h 129 5) :: st) h R := xr_getfield (q := (3, 5)) (t := 0) hd ho fl_3_29 (by decide) (by decide +kernel) rfl rfl rfl
theorem gf_3_32_129 (hd : decode (ax_code m) pc = .ok (.getfield 32, 3)) (ho : ax_own m = 3) : XX true d m pc ls (.ref 129 :: st) h R ↔ XX true d m (pc + 3) ls (.int (hI h 129 6) :: st) h R := xr_getfield (q := (3, 6)) (t := 0) hd ho fl_3_32 (by decide) (by decide +kernel) rfl rfl rfl
theorem gf_3_35_129 (hd : decode (ax_code m) pc = .ok (.getfield 35, 3)) (ho : ax_own m = 3) : XX true d m pc ls (.ref 129 :: st) h R ↔ XX true d m (pc + 3) ls (.ref 134 :: st) h R := xr_getfield (q := (3, 7)) (t := 2) hd ho fl_3_35 (by decide) (by decide +kernel) rfl rfl rfl
theorem gf_3_38_129 (hd : decode (ax_code m) pc = .ok (.getfield 38, 3)) (ho : ax_own m = 3) : XX true d m pc ls (.ref 129 :: st) h R ↔ XX true d m (pc + 3) ls (.ref 135 :: st) h R := xr_getfield (q := (3, 8)) (t := 2) hd ho fl_3_38 (by decide) (by decide +kernel) rfl rfl rfl
theorem gf_3_45_65 (hd : decode (ax_code m) pc = .ok (.getfield 45, 3)) (ho : ax_own m = 3) : XX true d m pc ls (.ref 65 :: st) h R ↔ XX true d m (pc + 3) ls (.ref 66 :: st) h R := xr_getfield (q := (1, 0)) (t := 2) hd ho fl_3_45 (by decide) (by decide +kernel) rfl rfl rfl
theorem gf_3_57_66 (hd : decode (ax_code m) pc = .ok (.getfield 57, 3)) (ho : ax_own m = 3) : XX true d m pc ls (.ref 66 :: st) h R ↔ XX true d m (pc + 3) ls (.ref 69 :: st) h R := xr_getfield (q := (7, 4)) (t := 2) hd ho fl_3_57 (by decide) (by decide +kernel) rfl rfl rfl
theorem gf_3_82_66 (hd : decode (ax_code m) pc = .ok (.getfield 82, 3)) (ho : ax_own m = 3) : XX true d m pc ls (.ref 66 :: st) h R ↔ XX true d m (pc + 3) ls (.ref 86 :: st) h R := xr_getfield (q := (7, 8)) (t := 2) hd ho fl_3_82 (by decide) (by decide +kernel) rfl rfl rfl
theorem gf_3_85_66 (hd : decode (ax_code m) pc = .ok (.getfield 85, 3)) (ho : ax_own m = 3) : XX true d m pc ls (.ref 66 :: st) h R ↔ XX true d m (pc + 3) ls (.int (hI h 66 3) :: st) h R := xr_getfield (q := (7, 3)) (t := 0) hd ho fl_3_85 (by decide) (by decide +kernel) rfl rfl rfl
theorem gf_3_134_123 (hd : decode (ax_code m) pc = .ok (.getfield 134, 3)) (ho : ax_own m = 3) : XX true d m pc ls (.ref 123 :: st) h R ↔ XX true d m (pc + 3) ls (.int (hI h 123 3) :: st) h R := xr_getfield (q := (4, 3)) (t := 0) hd ho fl_3_134 (by decide) (by decide +kernel) rfl rfl rfl
theorem gf_3_140_123 (hd : decode (ax_code m) pc = .ok (.getfield 140, 3)) (ho : ax_own m = 3) : XX true d m pc ls (.ref 123 :: st) h R ↔ XX true d m (pc + 3) ls (.ref 124 :: st) h R := xr_getfield (q := (4, 0)) (t := 2) hd ho fl_3_140 (by decide) (by decide +kernel) rfl rfl rfl
theorem gf_4_9_123 (hd : decode (ax_code m) pc = .ok (.getfield 9, 3)) (ho : ax_own m = 4) : XX true d m pc ls (.ref 123 :: st) h R ↔ XX true d m (pc + 3) ls (.ref 124 :: st) h R := xr_getfield (q := (4, 0)) (t := 2) hd ho fl_4_9 (by decide) (by decide +kernel) rfl rfl rfl
theorem gf_4_15_123 (hd : decode (ax_code m) pc = .ok (.getfield 15, 3)) (ho : ax_own m = 4) : XX true d m pc ls (.ref 123 :: st) h R ↔ XX true d m (pc + 3) ls (.ref 125 :: st) h R := xr_getfield (q := (4, 1)) (t := 2) hd ho fl_4_15 (by decide) (by decide +kernel) rfl rfl rfl
theorem gf_4_18_123 (hd : decode (ax_code m) pc = .ok (.getfield 18, 3)) (ho : ax_own m = 4) : XX true d m pc ls (.ref 123 :: st) h R ↔ XX true d m (pc + 3) ls (.ref 126 :: st) h R := xr_getfield (q := (4, 2)) (t := 2) hd ho fl_4_18 (by decide) (by decide +kernel) rfl rfl rfl
theorem gf_4_21_123 (hd : decode (ax_code m) pc = .ok (.getfield 21, 3)) (ho : ax_own m = 4) : XX true d m pc ls (.ref 123 :: st) h R ↔ XX true d m (pc + 3) ls (.int (hI h 123 3) :: st) h R := xr_getfield (q := (4, 3)) (t := 0) hd ho fl_4_21 (by decide) (by decide +kernel) rfl rfl rfl
theorem gf_4_25_123 (hd : decode (ax_code m) pc = .ok (.getfield 25, 3)) (ho : ax_own m = 4) : XX true d m pc ls (.ref 123 :: st) h R ↔ XX true d m (pc + 3) ls (.ref 127 :: st) h R := xr_getfield (q := (4, 4)) (t := 2) hd ho fl_4_25 (by decide) (by decide +kernel) rfl rfl rfl
theorem gf_4_28_123 (hd : decode (ax_code m) pc = .ok (.getfield 28, 3)) (ho : ax_own m = 4) : XX true d m pc ls (.ref 123 :: st) h R ↔ XX true d m (pc + 3) ls (.ref 128 :: st) h R := xr_getfield (q := (4, 5)) (t := 2) hd ho fl_4_28 (by decide) (by decide +kernel) rfl rfl rfl
theorem gf_4_31_66 (hd : decode (ax_code m) pc = .ok (.getfield 31, 3)) (ho : ax_own m = 4) : XX true d m pc ls (.ref 66 :: st) h R ↔ XX true d m (pc + 3) ls (.int (hI h 66 3) :: st) h R := xr_getfield (q := (7, 3)) (t := 0) hd ho fl_4_31 (by decide) (by decide +kernel) rfl rfl rfl
theorem gf_4_44_66 (hd : decode (ax_code m) pc = .ok (.getfield 44, 3)) (ho : ax_own m = 4) : XX true d m pc ls (.ref 66 :: st) h R ↔ XX true d m (pc + 3) ls (.ref 70 :: st) h R := xr_getfield (q := (7, 5)) (t := 2) hd ho fl_4_44 (by decide) (by decide +kernel) rfl rfl rfl
theorem gf_4_70_66 (hd : decode (ax_code m) pc = .ok (.getfield 70, 3)) (ho : ax_own m = 4) : XX true d m pc ls (.ref 66 :: st) h R ↔ XX true d m (pc + 3) ls (.ref 86 :: st) h R := xr_getfield (q := (7, 8)) (t := 2) hd ho fl_4_70 (by decide) (by decide +kernel) rfl rfl rfl
theorem gf_7_9_66 (hd : decode (ax_code m) pc = .ok (.getfield 9, 3)) (ho : ax_own m = 7) : XX true d m pc ls (.ref 66 :: st) h R ↔ XX true d m (pc + 3) ls (.int (hI h 66 0) :: st) h R := xr_getfield (q := (7, 0)) (t := 0) hd ho fl_7_9 (by decide) (by decide +kernel) rfl rfl rfl
theorem gf_7_9_95 (hd : decode (ax_code m) pc = .ok (.getfield 9, 3)) (ho : ax_own m = 7) : XX true d m pc ls (.ref 95 :: st) h R ↔ XX true d m (pc + 3) ls (.int (hI h 95 0) :: st) h R := xr_getfield (q := (7, 0)) (t := 0) hd ho fl_7_9 (by decide) (by decide +kernel) rfl rfl rfl
theorem gf_7_15_66 (hd : decode (ax_code m) pc = .ok (.getfield 15, 3)) (ho : ax_own m = 7) : XX true d m pc ls (.ref 66 :: st) h R ↔ XX true d m (pc + 3) ls (.ref 67 :: st) h R := xr_getfield (q := (7, 1)) (t := 2) hd ho fl_7_15 (by decide) (by decide +kernel) rfl rfl rfl
theorem gf_7_15_95 (hd : decode (ax_code m) pc = .ok (.getfield 15, 3)) (ho : ax_own m = 7) : XX true d m pc ls (.ref 95 :: st) h R ↔ XX true d m (pc + 3) ls (.ref 96 :: st) h R := xr_getfield (q := (7, 1)) (t := 2) hd ho fl_7_15 (by decide) (by decide +kernel) rfl rfl rfl
theorem gf_7_21_66 (hd : decode (ax_code m) pc = .ok (.getfield 21, 3)) (ho : ax_own m = 7) : XX true d m pc ls (.ref 66 :: st) h R ↔ XX true d m (pc + 3) ls (.ref 68 :: st) h R := xr_getfield (q := (7, 2)) (t := 2) hd ho fl_7_21 (by decide) (by decide +kernel) rfl rfl rfl
theorem gf_7_21_95 (hd : decode (ax_code m) pc = .ok (.getfield 21, 3)) (ho : ax_own m = 7) : XX true d m pc ls (.ref 95 :: st) h R ↔ XX true d m (pc + 3) ls (.ref 97 :: st) h R := xr_getfield (q := (7, 2)) (t := 2) hd ho fl_7_21 (by decide) (by decide +kernel) rfl rfl rfl
theorem gf_7_25_66 (hd : decode (ax_code m) pc = .ok (.getfield 25, 3)) (ho : ax_own m = 7) : XX true d m pc ls (.ref 66 :: st) h R ↔ XX true d m (pc + 3) ls (.int (hI h 66 3) :: st) h R := xr_getfield (q := (7, 3)) (t := 0) hd ho fl_7_25 (by decide) (by decide +kernel) rfl rfl rfl
theorem gf_7_25_95 (hd : decode (ax_code m) pc = .ok (.getfield 25, 3)) (ho : ax_own m = 7) : XX true d m pc ls (.ref 95 :: st) h R ↔ XX true d m (pc + 3) ls (.int (hI h 95 3) :: st) h R := xr_getfield (q := (7, 3)) (t := 0) hd ho fl_7_25 (by decide) (by decide +kernel) rfl rfl rfl
theorem gf_7_28_66 (hd : decode (ax_code m) pc = .ok (.getfield 28, 3)) (ho : ax_own m = 7) : XX true d m pc ls (.ref 66 :: st) h R ↔ XX true d m (pc + 3) ls (.ref 69 :: st) h R := xr_getfield (q := (7, 4)) (t := 2) hd ho fl_7_28 (by decide) (by decide +kernel) rfl rfl rfl
theorem gf_7_28_95 (hd : decode (ax_code m) pc = .ok (.getfield 28, 3)) (ho : ax_own m = 7) : XX true d m pc ls (.ref 95 :: st) h R ↔ XX true d m (pc + 3) ls (.ref 98 :: st) h R := xr_getfield (q := (7, 4)) (t := 2) hd ho fl_7_28 (by decide) (by decide +kernel) rfl rfl rfl
theorem gf_7_31_66 (hd : decode (ax_code m) pc = .ok (.getfield 31, 3)) (ho : ax_own m = 7) : XX true d m pc ls (.ref 66 :: st) h R ↔ XX true d m (pc + 3) ls (.ref 70 :: st) h R := xr_getfield (q := (7, 5)) (t := 2) hd ho fl_7_31 (by decide) (by decide +kernel) rfl rfl rfl
theorem gf_7_31_95 (hd : decode (ax_code m) pc = .ok (.getfield 31, 3)) (ho : ax_own m = 7) : XX true d m pc ls (.ref 95 :: st) h R ↔ XX true d m (pc + 3) ls (.ref 99 :: st) h R := xr_getfield (q := (7, 5)) (t := 2) hd ho fl_7_31 (by decide) (by decide +kernel) rfl rfl rfl
theorem gf_7_36_66 (hd : decode (ax_code m) pc = .ok (.getfield 36, 3)) (ho : ax_own m = 7) : XX true d m pc ls (.ref 66 :: st) h R ↔ XX true d m (pc + 3) ls (.ref 71 :: st) h R := xr_getfield (q := (7, 6)) (t := 2) hd ho fl_7_36 (by decide) (by decide +kernel) rfl rfl rfl
theorem gf_7_36_95 (hd : decode (ax_code m) pc = .ok (.getfield 36, 3)) (ho : ax_own m = 7) : XX true d m pc ls (.ref 95 :: st) h R ↔ XX true d m (pc + 3) ls (.ref 100 :: st) h R := xr_getfield (q := (7, 6)) (t := 2) hd ho fl_7_36 (by decide) (by decide +kernel) rfl rfl rfl
theorem gf_7_39_66 (hd : decode (ax_code m) pc = .ok (.getfield 39, 3)) (ho : ax_own m = 7) : XX true d m pc ls (.ref 66 :: st) h R ↔ XX true d m (pc + 3) ls (.ref 79 :: st) h R := xr_getfield (q := (7, 7)) (t := 2) hd ho fl_7_39 (by decide) (by decide +kernel) rfl rfl rfl
theorem gf_7_39_95 (hd : decode (ax_code m) pc = .ok (.getfield 39, 3)) (ho : ax_own m = 7) : XX true d m pc ls (.ref 95 :: st) h R ↔ XX true d m (pc + 3) ls (.ref 108 :: st) h R := xr_getfield (q := (7, 7)) (t := 2) hd ho fl_7_39 (by decide) (by decide +kernel) rfl rfl rfl
theorem gf_7_42_66 (hd : decode (ax_code m) pc = .ok (.getfield 42, 3)) (ho : ax_own m = 7) : XX true d m pc ls (.ref 66 :: st) h R ↔ XX true d m (pc + 3) ls (.ref 86 :: st) h R := xr_getfield (q := (7, 8)) (t := 2) hd ho fl_7_42 (by decide) (by decide +kernel) rfl rfl rfl
theorem gf_7_42_95 (hd : decode (ax_code m) pc = .ok (.getfield 42, 3)) (ho : ax_own m = 7) : XX true d m pc ls (.ref 95 :: st) h R ↔ XX true d m (pc + 3) ls (.ref 115 :: st) h R := xr_getfield (q := (7, 8)) (t := 2) hd ho fl_7_42 (by decide) (by decide +kernel) rfl rfl rfl
theorem gf_8_9_136 (hd : decode (ax_code m) pc = .ok (.getfield 9, 3)) (ho : ax_own m = 8) : XX true d m pc ls (.ref 136 :: st) h R ↔ XX true d m (pc + 3) ls (.ref 137 :: st) h R := xr_getfield (q := (8, 0)) (t := 2) hd ho fl_8_9 (by decide) (by decide +kernel) rfl rfl rfl
theorem gf_8_15_136 (hd : decode (ax_code m) pc = .ok (.getfield 15, 3)) (ho : ax_own m = 8) : XX true d m pc ls (.ref 136 :: st) h R ↔ XX true d m (pc + 3) ls (.int (hI h 136 1) :: st) h R := xr_getfield (q := (8, 1)) (t := 0) hd ho fl_8_15 (by decide) (by decide +kernel) rfl rfl rfl
theorem gf_8_19_136 (hd : decode (ax_code m) pc = .ok (.getfield 19, 3)) (ho : ax_own m = 8) : XX true d m pc ls (.ref 136 :: st) h R ↔ XX true d m (pc + 3) ls (.int (hI h 136 2) :: st) h R := xr_getfield (q := (8, 2)) (t := 0) hd ho fl_8_19 (by decide) (by decide +kernel) rfl rfl rfl
theorem gf_8_22_136 (hd : decode (ax_code m) pc = .ok (.getfield 22, 3)) (ho : ax_own m = 8) : XX true d m pc ls (.ref 136 :: st) h R ↔ XX true d m (pc + 3) ls (.int (hI h 136 3) :: st) h R := xr_getfield (q := (8, 3)) (t := 0) hd ho fl_8_22 (by decide) (by decide +kernel) rfl rfl rfl
theorem gf_8_25_136 (hd : decode (ax_code m) pc = .ok (.getfield 25, 3)) (ho : ax_own m = 8) : XX true d m pc ls (.ref 136 :: st) h R ↔ XX true d m (pc + 3) ls (.int (hI h 136 4) :: st) h R := xr_getfield (q := (8, 4)) (t := 0) hd ho fl_8_25 (by decide) (by decide +kernel) rfl rfl rfl
theorem gf_8_28_136 (hd : decode (ax_code m) pc = .ok (.getfield 28, 3)) (ho : ax_own m = 8) : XX true d m pc ls (.ref 136 :: st) h R ↔ XX true d m (pc + 3) ls (.int (hI h 136 5) :: st) h R := xr_getfield (q := (8, 5)) (t := 0) hd ho fl_8_28 (by decide) (by decide +kernel) rfl rfl rfl
theorem gf_9_29_66 (hd : decode (ax_code m) pc = .ok (.getfield 29, 3)) (ho : ax_own m = 9) : XX true d m pc ls (.ref 66 :: st) h R ↔ XX true d m (pc + 3) ls (.int (hI h 66 3) :: st) h R := xr_getfield (q := (7, 3)) (t := 0) hd ho fl_9_29 (by decide) (by decide +kernel) rfl rfl rfl
theorem gf_9_34_66 (hd : decode (ax_code m) pc = .ok (.getfield 34, 3)) (ho : ax_own m = 9) : XX true d m pc ls (.ref 66 :: st) h R ↔ XX true d m (pc + 3) ls (.ref 86 :: st) h R := xr_getfield (q := (7, 8)) (t := 2) hd ho fl_9_34 (by decide) (by decide +kernel) rfl rfl rfl
theorem gf_10_10_64 (hd : decode (ax_code m) pc = .ok (.getfield 10, 3)) (ho : ax_own m = 10) : XX true d m pc ls (.ref 64 :: st) h R ↔ XX true d m (pc + 3) ls (.ref 65 :: st) h R := xr_getfield (q := (10, 0)) (t := 2) hd ho fl_10_10 (by decide) (by decide +kernel) rfl rfl rfl
theorem gf_10_16_64 (hd : decode (ax_code m) pc = .ok (.getfield 16, 3)) (ho : ax_own m = 10) : XX true d m pc ls (.ref 64 :: st) h R ↔ XX true d m (pc + 3) ls (.ref 94 :: st) h R := xr_getfield (q := (10, 1)) (t := 2) hd ho fl_10_16 (by decide) (by decide +kernel) rfl rfl rfl
theorem gf_10_19_64 (hd : decode (ax_code m) pc = .ok (.getfield 19, 3)) (ho : ax_own m = 10) : XX true d m pc ls (.ref 64 :: st) h R ↔ XX true d m (pc + 3) ls (.int (hI h 64 2) :: st) h R := xr_getfield (q := (10, 2)) (t := 3) hd ho fl_10_19 (by decide) (by decide +kernel) rfl rfl rfl
theorem gf_10_26_64 (hd : decode (ax_code m) pc = .ok (.getfield 26, 3)) (ho : ax_own m = 10) : XX true d m pc ls (.ref 64 :: st) h R ↔ XX true d m (pc + 3) ls (.ref 123 :: st) h R := xr_getfield (q := (10, 3)) (t := 2) hd ho fl_10_26 (by decide) (by decide +kernel) rfl rfl rfl
theorem gf_10_33_64 (hd : decode (ax_code m) pc = .ok (.getfield 33, 3)) (ho : ax_own m = 10) : XX true d m pc ls (.ref 64 :: st) h R ↔ XX true d m (pc + 3) ls (.ref 129 :: st) h R := xr_getfield (q := (10, 4)) (t := 2) hd ho fl_10_33 (by decide) (by decide +kernel) rfl rfl rfl
theorem gf_10_40_64 (hd : decode (ax_code m) pc = .ok (.getfield 40, 3)) (ho : ax_own m = 10) : XX true d m pc ls (.ref 64 :: st) h R ↔ XX true d m (pc + 3) ls (.ref 136 :: st) h R := xr_getfield (q := (10, 5)) (t := 2) hd ho fl_10_40 (by decide) (by decide +kernel) rfl rfl rfl
theorem gf_10_46_64 (hd : decode (ax_code m) pc = .ok (.getfield 46, 3)) (ho : ax_own m = 10) : XX true d m pc ls (.ref 64 :: st) h R ↔ XX true d m (pc + 3) ls (.ref 138 :: st) h R := xr_getfield (q := (10, 6)) (t := 2) hd ho fl_10_46 (by decide) (by decide +kernel) rfl rfl rfl
theorem gf_10_50_64 (hd : decode (ax_code m) pc = .ok (.getfield 50, 3)) (ho : ax_own m = 10) : XX true d m pc ls (.ref 64 :: st) h R ↔ XX true d m (pc + 3) ls (.ref 139 :: st) h R := xr_getfield (q := (10, 7)) (t := 2) hd ho fl_10_50 (by decide) (by decide +kernel) rfl rfl rfl
theorem gf_10_57_64 (hd : decode (ax_code m) pc = .ok (.getfield 57, 3)) (ho : ax_own m = 10) : XX true d m pc ls (.ref 64 :: st) h R ↔ XX true d m (pc + 3) ls (.ref 140 :: st) h R := xr_getfield (q := (10, 8)) (t := 2) hd ho fl_10_57 (by decide) (by decide +kernel) rfl rfl rfl
theorem gf_10_61_64 (hd : decode (ax_code m) pc = .ok (.getfield 61, 3)) (ho : ax_own m = 10) : XX true d m pc ls (.ref 64 :: st) h R ↔ XX true d m (pc + 3) ls (.ref 149 :: st) h R := xr_getfield (q := (10, 9)) (t := 2) hd ho fl_10_61 (by decide) (by decide +kernel) rfl rfl rfl
theorem gf_10_64_64 (hd : decode (ax_code m) pc = .ok (.getfield 64, 3)) (ho : ax_own m = 10) : XX true d m pc ls (.ref 64 :: st) h R ↔ XX true d m (pc + 3) ls (.ref 150 :: st) h R := xr_getfield (q := (10, 10)) (t := 2) hd ho fl_10_64 (by decide) (by decide +kernel) rfl rfl rfl
theorem gf_10_69_64 (hd : decode (ax_code m) pc = .ok (.getfield 69, 3)) (ho : ax_own m = 10) : XX true d m pc ls (.ref 64 :: st) h R ↔ XX true d m (pc + 3) ls (.ref 151 :: st) h R := xr_getfield (q := (10, 11)) (t := 2) hd ho fl_10_69 (by decide) (by decide +kernel) rfl rfl rfl
theorem gf_10_73_64 (hd : decode (ax_code m) pc = .ok (.getfield 73, 3)) (ho : ax_own m = 10) : XX true d m pc ls (.ref 64 :: st) h R ↔ XX true d m (pc + 3) ls (.ref 152 :: st) h R := xr_getfield (q := (10, 12)) (t := 2) hd ho fl_10_73 (by decide) (by decide +kernel) rfl rfl rfl
theorem gf_10_77_65 (hd : decode (ax_code m) pc = .ok (.getfield 77, 3)) (ho : ax_own m = 10) : XX true d m pc ls (.ref 65 :: st) h R ↔ XX true d m (pc + 3) ls (.ref 66 :: st) h R := xr_getfield (q := (1, 0)) (t := 2) hd ho fl_10_77 (by decide) (by decide +kernel) rfl rfl rfl
theorem gf_10_81_66 (hd : decode (ax_code m) pc = .ok (.getfield 81, 3)) (ho : ax_own m = 10) : XX true d m pc ls (.ref 66 :: st) h R ↔ XX true d m (pc + 3) ls (.int (hI h 66 0) :: st) h R := xr_getfield (q := (7, 0)) (t := 0) hd ho fl_10_81 (by decide) (by decide +kernel) rfl rfl rfl
theorem gf_10_91_66 (hd : decode (ax_code m) pc = .ok (.getfield 91, 3)) (ho : ax_own m = 10) : XX true d m pc ls (.ref 66 :: st) h R ↔ XX true d m (pc + 3) ls (.ref 67 :: st) h R := xr_getfield (q := (7, 1)) (t := 2) hd ho fl_10_91 (by decide) (by decide +kernel) rfl rfl rfl
theorem gf_10_117_66 (hd : decode (ax_code m) pc = .ok (.getfield 117, 3)) (ho : ax_own m = 10) : XX true d m pc ls (.ref 66 :: st) h R ↔ XX true d m (pc + 3) ls (.int (hI h 66 3) :: st) h R := xr_getfield (q := (7, 3)) (t := 0) hd ho fl_10_117 (by decide) (by decide +kernel) rfl rfl rfl
theorem gf_10_139_66 (hd : decode (ax_code m) pc = .ok (.getfield 139, 3)) (ho : ax_own m = 10) : XX true d m pc ls (.ref 66 :: st) h R ↔ XX true d m (pc + 3) ls (.ref 71 :: st) h R := xr_getfield (q := (7, 6)) (t := 2) hd ho fl_10_139 (by decide) (by decide +kernel) rfl rfl rfl
theorem gf_10_151_66 (hd : decode (ax_code m) pc = .ok (.getfield 151, 3)) (ho : ax_own m = 10) : XX true d m pc ls (.ref 66 :: st) h R ↔ XX true d m (pc + 3) ls (.ref 70 :: st) h R := xr_getfield (q := (7, 5)) (t := 2) hd ho fl_10_151 (by decide) (by decide +kernel) rfl rfl rfl
theorem gf_10_161_66 (hd : decode (ax_code m) pc = .ok (.getfield 161, 3)) (ho : ax_own m = 10) : XX true d m pc ls (.ref 66 :: st) h R ↔ XX true d m (pc + 3) ls (.ref 86 :: st) h R := xr_getfield (q := (7, 8)) (t := 2) hd ho fl_10_161 (by decide) (by decide +kernel) rfl rfl rfl
theorem gf_10_209_123 (hd : decode (ax_code m) pc = .ok (.getfield 209, 3)) (ho : ax_own m = 10) : XX true d m pc ls (.ref 123 :: st) h R ↔ XX true d m (pc + 3) ls (.int (hI h 123 3) :: st) h R := xr_getfield (q := (4, 3)) (t := 0) hd ho fl_10_209 (by decide) (by decide +kernel) rfl rfl rfl
theorem gf_10_212_123 (hd : decode (ax_code m) pc = .ok (.getfield 212, 3)) (ho : ax_own m = 10) : XX true d m pc ls (.ref 123 :: st) h R ↔ XX true d m (pc + 3) ls (.ref 124 :: st) h R := xr_getfield (q := (4, 0)) (t := 2) hd ho fl_10_212 (by decide) (by decide +kernel) rfl rfl rfl
theorem gf_10_215_123 (hd : decode (ax_code m) pc = .ok (.getfield 215, 3)) (ho : ax_own m = 10) : XX true d m pc ls (.ref 123 :: st) h R ↔ XX true d m (pc + 3) ls (.ref 125 :: st) h R := xr_getfield (q := (4, 1)) (t := 2) hd ho fl_10_215 (by decide) (by decide +kernel) rfl rfl rfl
theorem gf_10_218_123 (hd : decode (ax_code m) pc = .ok (.getfield 218, 3)) (ho : ax_own m = 10) : XX true d m pc ls (.ref 123 :: st) h R ↔ XX true d m (pc + 3) ls (.ref 126 :: st) h R := xr_getfield (q := (4, 2)) (t := 2) hd ho fl_10_218 (by decide) (by decide +kernel) rfl rfl rfl
theorem gf_10_231_66 (hd : decode (ax_code m) pc = .ok (.getfield 231, 3)) (ho : ax_own m = 10) : XX true d m pc ls (.ref 66 :: st) h R ↔ XX true d m (pc + 3) ls (.ref 69 :: st) h R := xr_getfield (q := (7, 4)) (t := 2) hd ho fl_10_231 (by decide) (by decide +kernel) rfl rfl rfl
theorem gf_10_234_65 (hd : decode (ax_code m) pc = .ok (.getfield 234, 3)) (ho : ax_own m = 10) : XX true d m pc ls (.ref 65 :: st) h R ↔ XX true d m (pc + 3) ls (.ref 87 :: st) h R := xr_getfield (q := (1, 1)) (t := 2) hd ho fl_10_234 (by decide) (by decide +kernel) rfl rfl rfl
theorem gf_10_250_87 (hd : decode (ax_code m) pc = .ok (.getfield 250, 3)) (ho : ax_own m = 10) : XX true d m pc ls (.ref 87 :: st) h R ↔ XX true d m (pc + 3) ls (.int (hI h 87 2) :: st) h R := xr_getfield (q := (2, 2)) (t := 0) hd ho fl_10_250 (by decide) (by decide +kernel) rfl rfl rfl
theorem gf_10_253_65 (hd : decode (ax_code m) pc = .ok (.getfield 253, 3)) (ho : ax_own m = 10) : XX true d m pc ls (.ref 65 :: st) h R ↔ XX true d m (pc + 3) ls (.int (hI h 65 6) :: st) h R := xr_getfield (q := (1, 6)) (t := 0) hd ho fl_10_253 (by decide) (by decide +kernel) rfl rfl rfl
theorem gf_10_256_65 (hd : decode (ax_code m) pc = .ok (.getfield 256, 3)) (ho : ax_own m = 10) : XX true d m pc ls (.ref 65 :: st) h R ↔ XX true d m (pc + 3) ls (.ref 90 :: st) h R := xr_getfield (q := (1, 2)) (t := 2) hd ho fl_10_256 (by decide) (by decide +kernel) rfl rfl rfl
theorem gf_10_267_65 (hd : decode (ax_code m) pc = .ok (.getfield 267, 3)) (ho : ax_own m = 10) : XX true d m pc ls (.ref 65 :: st) h R ↔ XX true d m (pc + 3) ls (.ref 91 :: st) h R := xr_getfield (q := (1, 3)) (t := 2) hd ho fl_10_267 (by decide) (by decide +kernel) rfl rfl rfl
theorem gf_10_277_65 (hd : decode (ax_code m) pc = .ok (.getfield 277, 3)) (ho : ax_own m = 10) : XX true d m pc ls (.ref 65 :: st) h R ↔ XX true d m (pc + 3) ls (.ref 92 :: st) h R := xr_getfield (q := (1, 4)) (t := 2) hd ho fl_10_277 (by decide) (by decide +kernel) rfl rfl rfl
theorem gf_10_280_65 (hd : decode (ax_code m) pc = .ok (.getfield 280, 3)) (ho : ax_own m = 10) : XX true d m pc ls (.ref 65 :: st) h R ↔ XX true d m (pc + 3) ls (.ref 93 :: st) h R := xr_getfield (q := (1, 5)) (t := 2) hd ho fl_10_280 (by decide) (by decide +kernel) rfl rfl rfl
theorem gf_10_289_65 (hd : decode (ax_code m) pc = .ok (.getfield 289, 3)) (ho : ax_own m = 10) : XX true d m pc ls (.ref 65 :: st) h R ↔ XX true d m (pc + 3) ls (.long (hL h 65 7) :: st) h R := xr_getfield (q := (1, 7)) (t := 1) hd ho fl_10_289 (by decide) (by decide +kernel) rfl rfl rfl
theorem gf_10_322_136 (hd : decode (ax_code m) pc = .ok (.getfield 322, 3)) (ho : ax_own m = 10) : XX true d m pc ls (.ref 136 :: st) h R ↔ XX true d m (pc + 3) ls (.int (hI h 136 1) :: st) h R := xr_getfield (q := (8, 1)) (t := 0) hd ho fl_10_322 (by decide) (by decide +kernel) rfl rfl rfl
theorem pf_1_44_65 {v : Int32} (hd : decode (ax_code m) pc = .ok (.putfield 44, 3)) (ho : ax_own m = 1) : XX true d m pc ls (.int v :: .ref 65 :: st) h R ↔ XX true d m (pc + 3) ls st (ax_wr h 65 6 (.int v)) R := xr_putfield (q := (1, 6)) hd ho fl_1_44 rfl (by decide) rfl rfl (fun q => absurd q (by decide +kernel)) rfl (fun q => absurd q (by decide +kernel))
theorem pf_1_44_94 {v : Int32} (hd : decode (ax_code m) pc = .ok (.putfield 44, 3)) (ho : ax_own m = 1) : XX true d m pc ls (.int v :: .ref 94 :: st) h R ↔ XX true d m (pc + 3) ls st (ax_wr h 94 6 (.int v)) R := xr_putfield (q := (1, 6)) hd ho fl_1_44 rfl (by decide) rfl rfl (fun q => absurd q (by decide +kernel)) rfl (fun q => absurd q (by decide +kernel))
theorem pf_1_48_65 {v : Int64} (hd : decode (ax_code m) pc = .ok (.putfield 48, 3)) (ho : ax_own m = 1) : XX true d m pc ls (.long v :: .ref 65 :: st) h R ↔ XX true d m (pc + 3) ls st (ax_wr h 65 7 (.long v)) R := xr_putfield (q := (1, 7)) hd ho fl_1_48 rfl (by decide) rfl rfl (fun q => absurd q (by decide +kernel)) rfl (fun q => absurd q (by decide +kernel))
theorem pf_1_48_94 {v : Int64} (hd : decode (ax_code m) pc = .ok (.putfield 48, 3)) (ho : ax_own m = 1) : XX true d m pc ls (.long v :: .ref 94 :: st) h R ↔ XX true d m (pc + 3) ls st (ax_wr h 94 7 (.long v)) R := xr_putfield (q := (1, 7)) hd ho fl_1_48 rfl (by decide) rfl rfl (fun q => absurd q (by decide +kernel)) rfl (fun q => absurd q (by decide +kernel))
theorem pf_1_56_87 {v : Int32} (hd : decode (ax_code m) pc = .ok (.putfield 56, 3)) (ho : ax_own m = 1) : XX true d m pc ls (.int v :: .ref 87 :: st) h R ↔ XX true d m (pc + 3) ls st (ax_wr h 87 2 (.int v)) R := xr_putfield (q := (2, 2)) hd ho fl_1_56 rfl (by decide) rfl rfl (fun q => absurd q (by decide +kernel)) rfl (fun q => absurd q (by decide +kernel))
theorem pf_2_18_87 {v : Int32} (hd : decode (ax_code m) pc = .ok (.putfield 18, 3)) (ho : ax_own m = 2) : XX true d m pc ls (.int v :: .ref 87 :: st) h R ↔ XX true d m (pc + 3) ls st (ax_wr h 87 2 (.int v)) R := xr_putfield (q := (2, 2)) hd ho fl_2_18 rfl (by decide) rfl rfl (fun q => absurd q (by decide +kernel)) rfl (fun q => absurd q (by decide +kernel))
theorem pf_2_18_116 {v : Int32} (hd : decode (ax_code m) pc = .ok (.putfield 18, 3)) (ho : ax_own m = 2) : XX true d m pc ls (.int v :: .ref 116 :: st) h R ↔ XX true d m (pc + 3) ls st (ax_wr h 116 2 (.int v)) R := xr_putfield (q := (2, 2)) hd ho fl_2_18 rfl (by decide) rfl rfl (fun q => absurd q (by decide +kernel)) rfl (fun q => absurd q (by decide +kernel))
theorem pf_3_18_129 {v : Int32} (hd : decode (ax_code m) pc = .ok (.putfield 18, 3)) (ho : ax_own m = 3) : XX true d m pc ls (.int v :: .ref 129 :: st) h R ↔ XX true d m (pc + 3) ls st (ax_wr h 129 2 (.int v)) R := xr_putfield (q := (3, 2)) hd ho fl_3_18 rfl (by decide) rfl rfl (fun q => absurd q (by decide +kernel)) rfl (fun q => absurd q (by decide +kernel))
theorem pf_3_29_129 {v : Int32} (hd : decode (ax_code m) pc = .ok (.putfield 29, 3)) (ho : ax_own m = 3) : XX true d m pc ls (.int v :: .ref 129 :: st) h R ↔ XX true d m (pc + 3) ls st (ax_wr h 129 5 (.int v)) R := xr_putfield (q := (3, 5)) hd ho fl_3_29 rfl (by decide) rfl rfl (fun q => absurd q (by decide +kernel)) rfl (fun q => absurd q (by decide +kernel))
theorem pf_3_32_129 {v : Int32} (hd : decode (ax_code m) pc = .ok (.putfield 32, 3)) (ho : ax_own m = 3) : XX true d m pc ls (.int v :: .ref 129 :: st) h R ↔ XX true d m (pc + 3) ls st (ax_wr h 129 6 (.int v)) R := xr_putfield (q := (3, 6)) hd ho fl_3_32 rfl (by decide) rfl rfl (fun q => absurd q (by decide +kernel)) rfl (fun q => absurd q (by decide +kernel))
theorem pf_4_21_123 {v : Int32} (hd : decode (ax_code m) pc = .ok (.putfield 21, 3)) (ho : ax_own m = 4) : XX true d m pc ls (.int v :: .ref 123 :: st) h R ↔ XX true d m (pc + 3) ls st (ax_wr h 123 3 (.int v)) R := xr_putfield (q := (4, 3)) hd ho fl_4_21 rfl (by decide) rfl rfl (fun q => absurd q (by decide +kernel)) rfl (fun q => absurd q (by decide +kernel))
theorem pf_7_9_66 {v : Int32} (hd : decode (ax_code m) pc = .ok (.putfield 9, 3)) (ho : ax_own m = 7) : XX true d m pc ls (.int v :: .ref 66 :: st) h R ↔ XX true d m (pc + 3) ls st (ax_wr h 66 0 (.int v)) R := xr_putfield (q := (7, 0)) hd ho fl_7_9 rfl (by decide) rfl rfl (fun q => absurd q (by decide +kernel)) rfl (fun q => absurd q (by decide +kernel))
theorem pf_7_9_95 {v : Int32} (hd : decode (ax_code m) pc = .ok (.putfield 9, 3)) (ho : ax_own m = 7) : XX true d m pc ls (.int v :: .ref 95 :: st) h R ↔ XX true d m (pc + 3) ls st (ax_wr h 95 0 (.int v)) R := xr_putfield (q := (7, 0)) hd ho fl_7_9 rfl (by decide) rfl rfl (fun q => absurd q (by decide +kernel)) rfl (fun q => absurd q (by decide +kernel))
theorem pf_7_25_66 {v : Int32} (hd : decode (ax_code m) pc = .ok (.putfield 25, 3)) (ho : ax_own m = 7) : XX true d m pc ls (.int v :: .ref 66 :: st) h R ↔ XX true d m (pc + 3) ls st (ax_wr h 66 3 (.int v)) R := xr_putfield (q := (7, 3)) hd ho fl_7_25 rfl (by decide) rfl rfl (fun q => absurd q (by decide +kernel)) rfl (fun q => absurd q (by decide +kernel))
theorem pf_7_25_95 {v : Int32} (hd : decode (ax_code m) pc = .ok (.putfield 25, 3)) (ho : ax_own m = 7) : XX true d m pc ls (.int v :: .ref 95 :: st) h R ↔ XX true d m (pc + 3) ls st (ax_wr h 95 3 (.int v)) R := xr_putfield (q := (7, 3)) hd ho fl_7_25 rfl (by decide) rfl rfl (fun q => absurd q (by decide +kernel)) rfl (fun q => absurd q (by decide +kernel))
theorem pf_8_15_136 {v : Int32} (hd : decode (ax_code m) pc = .ok (.putfield 15, 3)) (ho : ax_own m = 8) : XX true d m pc ls (.int v :: .ref 136 :: st) h R ↔ XX true d m (pc + 3) ls st (ax_wr h 136 1 (.int v)) R := xr_putfield (q := (8, 1)) hd ho fl_8_15 rfl (by decide) rfl rfl (fun q => absurd q (by decide +kernel)) rfl (fun q => absurd q (by decide +kernel))
theorem pf_8_19_136 {v : Int32} (hd : decode (ax_code m) pc = .ok (.putfield 19, 3)) (ho : ax_own m = 8) : XX true d m pc ls (.int v :: .ref 136 :: st) h R ↔ XX true d m (pc + 3) ls st (ax_wr h 136 2 (.int v)) R := xr_putfield (q := (8, 2)) hd ho fl_8_19 rfl (by decide) rfl rfl (fun q => absurd q (by decide +kernel)) rfl (fun q => absurd q (by decide +kernel))
theorem pf_8_22_136 {v : Int32} (hd : decode (ax_code m) pc = .ok (.putfield 22, 3)) (ho : ax_own m = 8) : XX true d m pc ls (.int v :: .ref 136 :: st) h R ↔ XX true d m (pc + 3) ls st (ax_wr h 136 3 (.int v)) R := xr_putfield (q := (8, 3)) hd ho fl_8_22 rfl (by decide) rfl rfl (fun q => absurd q (by decide +kernel)) rfl (fun q => absurd q (by decide +kernel))
theorem pf_8_25_136 {v : Int32} (hd : decode (ax_code m) pc = .ok (.putfield 25, 3)) (ho : ax_own m = 8) : XX true d m pc ls (.int v :: .ref 136 :: st) h R ↔ XX true d m (pc + 3) ls st (ax_wr h 136 4 (.int v)) R := xr_putfield (q := (8, 4)) hd ho fl_8_25 rfl (by decide) rfl rfl (fun q => absurd q (by decide +kernel)) rfl (fun q => absurd q (by decide +kernel))
theorem pf_8_28_136 {v : Int32} (hd : decode (ax_code m) pc = .ok (.putfield 28, 3)) (ho : ax_own m = 8) : XX true d m pc ls (.int v :: .ref 136 :: st) h R ↔ XX true d m (pc + 3) ls st (ax_wr h 136 5 (.int v)) R := xr_putfield (q := (8, 5)) hd ho fl_8_28 rfl (by decide) rfl rfl (fun q => absurd q (by decide +kernel)) rfl (fun q => absurd q (by decide +kernel))
theorem pf_10_19_64 {v : Int32} (hd : decode (ax_code m) pc = .ok (.putfield 19, 3)) (ho : ax_own m = 10) (hv : v = 0 ∨ v = 1) : XX true d m pc ls (.int v :: .ref 64 :: st) h R ↔ XX true d m (pc + 3) ls st (ax_wr h 64 2 (.int v)) R := xr_putfield (q := (10, 2)) hd ho fl_10_19 rfl (by decide) rfl rfl (fun q => absurd q (by decide +kernel)) rfl (fun _ => hv)
theorem pf_10_117_66 {v : Int32} (hd : decode (ax_code m) pc = .ok (.putfield 117, 3)) (ho : ax_own m = 10) : XX true d m pc ls (.int v :: .ref 66 :: st) h R ↔ XX true d m (pc + 3) ls st (ax_wr h 66 3 (.int v)) R := xr_putfield (q := (7, 3)) hd ho fl_10_117 rfl (by decide) rfl rfl (fun q => absurd q (by decide +kernel)) rfl (fun q => absurd q (by decide +kernel))
theorem pf_10_250_87 {v : Int32} (hd : decode (ax_code m) pc = .ok (.putfield 250, 3)) (ho : ax_own m = 10) : XX true d m pc ls (.int v :: .ref 87 :: st) h R ↔ XX true d m (pc + 3) ls st (ax_wr h 87 2 (.int v)) R := xr_putfield (q := (2, 2)) hd ho fl_10_250 rfl (by decide) rfl rfl (fun q => absurd q (by decide +kernel)) rfl (fun q => absurd q (by decide +kernel))
theorem pf_10_253_65 {v : Int32} (hd : decode (ax_code m) pc = .ok (.putfield 253, 3)) (ho : ax_own m = 10) : XX true d m pc ls (.int v :: .ref 65 :: st) h R ↔ XX true d m (pc + 3) ls st (ax_wr h 65 6 (.int v)) R := xr_putfield (q := (1, 6)) hd ho fl_10_253 rfl (by decide) rfl rfl (fun q => absurd q (by decide +kernel)) rfl (fun q => absurd q (by decide +kernel))
theorem pf_10_289_65 {v : Int64} (hd : decode (ax_code m) pc = .ok (.putfield 289, 3)) (ho : ax_own m = 10) : XX true d m pc ls (.long v :: .ref 65 :: st) h R ↔ XX true d m (pc + 3) ls st (ax_wr h 65 7 (.long v)) R := xr_putfield (q := (1, 7)) hd ho fl_10_289 rfl (by decide) rfl rfl (fun q => absurd q (by decide +kernel)) rfl (fun q => absurd q (by decide +kernel))
end R51
theorem dc_8_0 : decode (ax_code 8) 0 = .ok (.iload_n 1, 1) := by decide +kernel
theorem dc_8_1 : decode (ax_code 8) 1 = .ok (.iconst 1, 1) := by decide +kernel
theorem dc_8_2 : decode (ax_code 8) 2 = .ok (.if_icmp .lt 8, 3) := by decide +kernel
theorem dc_8_5 : decode (ax_code 8) 5 = .ok (.iload_n 1, 1) := by decide +kernel
theorem dc_8_6 : decode (ax_code 8) 6 = .ok (.iconst 5, 1) := by decide +kernel
theorem dc_8_7 : decode (ax_code 8) 7 = .ok (.if_icmp .le 6, 3) := by decide +kernel
theorem dc_8_10 : decode (ax_code 8) 10 = .ok (.bipush (-2), 2) := by decide +kernel
theorem dc_8_12 : decode (ax_code 8) 12 = .ok (.ireturn, 1) := by decide +kernel
theorem dc_8_13 : decode (ax_code 8) 13 = .ok (.aload_n 0, 1) := by decide +kernel
theorem dc_8_14 : decode (ax_code 8) 14 = .ok (.getfield 10, 3) := by decide +kernel
theorem dc_8_17 : decode (ax_code 8) 17 = .ok (.getfield 77, 3) := by decide +kernel
theorem dc_8_20 : decode (ax_code 8) 20 = .ok (.getfield 81, 3) := by decide +kernel
theorem dc_8_23 : decode (ax_code 8) 23 = .ok (.istore_n 2, 1) := by decide +kernel
theorem dc_8_24 : decode (ax_code 8) 24 = .ok (.aload_n 0, 1) := by decide +kernel
theorem dc_8_25 : decode (ax_code 8) 25 = .ok (.getfield 10, 3) := by decide +kernel
theorem dc_8_28 : decode (ax_code 8) 28 = .ok (.iload_n 1, 1) := by decide +kernel
theorem dc_8_29 : decode (ax_code 8) 29 = .ok (.invokevirtual 87, 3) := by decide +kernel
theorem dc_8_32 : decode (ax_code 8) 32 = .ok (.iload_n 2, 1) := by decide +kernel
theorem dc_8_33 : decode (ax_code 8) 33 = .ok (.ireturn, 1) := by decide +kernel
theorem dc_9_0 : decode (ax_code 9) 0 = .ok (.aload_n 0, 1) := by decide +kernel
theorem dc_9_1 : decode (ax_code 9) 1 = .ok (.getfield 12, 3) := by decide +kernel
theorem dc_9_4 : decode (ax_code 9) 4 = .ok (.iload_n 1, 1) := by decide +kernel
theorem dc_9_5 : decode (ax_code 9) 5 = .ok (.invokevirtual 52, 3) := by decide +kernel
theorem dc_9_8 : decode (ax_code 9) 8 = .ok (.aload_n 0, 1) := by decide +kernel
theorem dc_9_9 : decode (ax_code 9) 9 = .ok (.getfield 21, 3) := by decide +kernel
theorem dc_9_12 : decode (ax_code 9) 12 = .ok (.iconst 0, 1) := by decide +kernel
theorem dc_9_13 : decode (ax_code 9) 13 = .ok (.putfield 56, 3) := by decide +kernel
theorem dc_9_16 : decode (ax_code 9) 16 = .ok (.aload_n 0, 1) := by decide +kernel
theorem dc_9_17 : decode (ax_code 9) 17 = .ok (.iconst 0, 1) := by decide +kernel
theorem dc_9_18 : decode (ax_code 9) 18 = .ok (.putfield 44, 3) := by decide +kernel
theorem dc_9_21 : decode (ax_code 9) 21 = .ok (.aload_n 0, 1) := by decide +kernel
theorem dc_9_22 : decode (ax_code 9) 22 = .ok (.lconst 1, 1) := by decide +kernel
theorem dc_9_23 : decode (ax_code 9) 23 = .ok (.putfield 48, 3) := by decide +kernel
theorem dc_9_26 : decode (ax_code 9) 26 = .ok (.return_, 1) := by decide +kernel
theorem dc_10_0 : decode (ax_code 10) 0 = .ok (.aload_n 0, 1) := by decide +kernel
theorem dc_10_1 : decode (ax_code 10) 1 = .ok (.iload_n 1, 1) := by decide +kernel
theorem dc_10_2 : decode (ax_code 10) 2 = .ok (.putfield 9, 3) := by decide +kernel
theorem dc_10_5 : decode (ax_code 10) 5 = .ok (.aload_n 0, 1) := by decide +kernel
theorem dc_10_6 : decode (ax_code 10) 6 = .ok (.iconst 0, 1) := by decide +kernel
theorem dc_10_7 : decode (ax_code 10) 7 = .ok (.putfield 25, 3) := by decide +kernel
theorem dc_10_10 : decode (ax_code 10) 10 = .ok (.iconst 0, 1) := by decide +kernel
theorem dc_10_11 : decode (ax_code 10) 11 = .ok (.istore_n 2, 1) := by decide +kernel
theorem dc_10_12 : decode (ax_code 10) 12 = .ok (.iload_n 2, 1) := by decide +kernel
theorem dc_10_13 : decode (ax_code 10) 13 = .ok (.iconst 5, 1) := by decide +kernel
theorem dc_10_14 : decode (ax_code 10) 14 = .ok (.if_icmp .ge 16, 3) := by decide +kernel
theorem dc_10_17 : decode (ax_code 10) 17 = .ok (.aload_n 0, 1) := by decide +kernel
theorem dc_10_18 : decode (ax_code 10) 18 = .ok (.getfield 15, 3) := by decide +kernel
theorem dc_10_21 : decode (ax_code 10) 21 = .ok (.iload_n 2, 1) := by decide +kernel
theorem dc_10_22 : decode (ax_code 10) 22 = .ok (.iconst 0, 1) := by decide +kernel
theorem dc_10_23 : decode (ax_code 10) 23 = .ok (.iastore, 1) := by decide +kernel
theorem dc_10_24 : decode (ax_code 10) 24 = .ok (.iinc 2 1, 3) := by decide +kernel
theorem dc_10_27 : decode (ax_code 10) 27 = .ok (.goto (-15), 3) := by decide +kernel
theorem dc_10_30 : decode (ax_code 10) 30 = .ok (.return_, 1) := by decide +kernel
theorem dc_11_0 : decode (ax_code 11) 0 = .ok (.iload_n 1, 1) := by decide +kernel
theorem dc_11_1 : decode (ax_code 11) 1 = .ok (.ifCond .lt 29, 3) := by decide +kernel
theorem dc_11_4 : decode (ax_code 11) 4 = .ok (.iload_n 1, 1) := by decide +kernel
theorem dc_11_5 : decode (ax_code 11) 5 = .ok (.aload_n 0, 1) := by decide +kernel
theorem dc_11_6 : decode (ax_code 11) 6 = .ok (.getfield 10, 3) := by decide +kernel
theorem dc_11_9 : decode (ax_code 11) 9 = .ok (.getfield 77, 3) := by decide +kernel
theorem dc_11_12 : decode (ax_code 11) 12 = .ok (.getfield 81, 3) := by decide +kernel
theorem dc_11_15 : decode (ax_code 11) 15 = .ok (.if_icmp .ge 15, 3) := by decide +kernel
theorem dc_11_18 : decode (ax_code 11) 18 = .ok (.iload_n 2, 1) := by decide +kernel
theorem dc_11_19 : decode (ax_code 11) 19 = .ok (.bipush (-9), 2) := by decide +kernel
theorem dc_11_21 : decode (ax_code 11) 21 = .ok (.if_icmp .lt 9, 3) := by decide +kernel
theorem dc_11_24 : decode (ax_code 11) 24 = .ok (.iload_n 2, 1) := by decide +kernel
theorem dc_11_25 : decode (ax_code 11) 25 = .ok (.bipush 9, 2) := by decide +kernel
theorem dc_11_27 : decode (ax_code 11) 27 = .ok (.if_icmp .le 6, 3) := by decide +kernel
theorem dc_11_30 : decode (ax_code 11) 30 = .ok (.bipush (-2), 2) := by decide +kernel
theorem dc_11_32 : decode (ax_code 11) 32 = .ok (.ireturn, 1) := by decide +kernel
theorem dc_11_33 : decode (ax_code 11) 33 = .ok (.aload_n 0, 1) := by decide +kernel
theorem dc_11_34 : decode (ax_code 11) 34 = .ok (.getfield 10, 3) := by decide +kernel
theorem dc_11_37 : decode (ax_code 11) 37 = .ok (.getfield 77, 3) := by decide +kernel
theorem dc_11_40 : decode (ax_code 11) 40 = .ok (.getfield 91, 3) := by decide +kernel
theorem dc_11_43 : decode (ax_code 11) 43 = .ok (.iload_n 1, 1) := by decide +kernel
theorem dc_11_44 : decode (ax_code 11) 44 = .ok (.iaload, 1) := by decide +kernel
theorem dc_11_45 : decode (ax_code 11) 45 = .ok (.istore_n 3, 1) := by decide +kernel
theorem dc_11_46 : decode (ax_code 11) 46 = .ok (.aload_n 0, 1) := by decide +kernel
theorem dc_11_47 : decode (ax_code 11) 47 = .ok (.getfield 10, 3) := by decide +kernel
theorem dc_11_50 : decode (ax_code 11) 50 = .ok (.getfield 77, 3) := by decide +kernel
theorem dc_11_53 : decode (ax_code 11) 53 = .ok (.getfield 91, 3) := by decide +kernel
theorem dc_11_56 : decode (ax_code 11) 56 = .ok (.iload_n 1, 1) := by decide +kernel
theorem dc_11_57 : decode (ax_code 11) 57 = .ok (.iload_n 2, 1) := by decide +kernel
theorem dc_11_58 : decode (ax_code 11) 58 = .ok (.iastore, 1) := by decide +kernel
theorem dc_11_59 : decode (ax_code 11) 59 = .ok (.iload_n 3, 1) := by decide +kernel
theorem dc_11_60 : decode (ax_code 11) 60 = .ok (.ireturn, 1) := by decide +kernel
theorem dc_12_0 : decode (ax_code 12) 0 = .ok (.iload_n 1, 1) := by decide +kernel
theorem dc_12_1 : decode (ax_code 12) 1 = .ok (.iload_n 2, 1) := by decide +kernel
theorem dc_12_2 : decode (ax_code 12) 2 = .ok (.iload_n 3, 1) := by decide +kernel
theorem dc_12_3 : decode (ax_code 12) 3 = .ok (.invokestatic 94, 3) := by decide +kernel
theorem dc_12_6 : decode (ax_code 12) 6 = .ok (.ifCond .ne 6, 3) := by decide +kernel
theorem dc_12_9 : decode (ax_code 12) 9 = .ok (.bipush (-2), 2) := by decide +kernel
theorem dc_12_11 : decode (ax_code 12) 11 = .ok (.ireturn, 1) := by decide +kernel
theorem dc_12_12 : decode (ax_code 12) 12 = .ok (.aload_n 0, 1) := by decide +kernel
theorem dc_12_13 : decode (ax_code 12) 13 = .ok (.getfield 10, 3) := by decide +kernel
theorem dc_12_16 : decode (ax_code 12) 16 = .ok (.getfield 77, 3) := by decide +kernel
theorem dc_12_19 : decode (ax_code 12) 19 = .ok (.invokevirtual 98, 3) := by decide +kernel
theorem dc_12_22 : decode (ax_code 12) 22 = .ok (.ifCond .ne 6, 3) := by decide +kernel
theorem dc_12_25 : decode (ax_code 12) 25 = .ok (.bipush (-4), 2) := by decide +kernel
theorem dc_12_27 : decode (ax_code 12) 27 = .ok (.ireturn, 1) := by decide +kernel
theorem dc_12_28 : decode (ax_code 12) 28 = .ok (.aload_n 0, 1) := by decide +kernel
theorem dc_12_29 : decode (ax_code 12) 29 = .ok (.getfield 10, 3) := by decide +kernel
theorem dc_12_32 : decode (ax_code 12) 32 = .ok (.getfield 77, 3) := by decide +kernel
theorem dc_12_35 : decode (ax_code 12) 35 = .ok (.getstatic 102, 3) := by decide +kernel
theorem dc_12_38 : decode (ax_code 12) 38 = .ok (.iload_n 1, 1) := by decide +kernel
theorem dc_12_39 : decode (ax_code 12) 39 = .ok (.aaload, 1) := by decide +kernel
theorem dc_12_40 : decode (ax_code 12) 40 = .ok (.invokevirtual 106, 3) := by decide +kernel
theorem dc_12_43 : decode (ax_code 12) 43 = .ok (.ifCond .ne 6, 3) := by decide +kernel
theorem dc_12_46 : decode (ax_code 12) 46 = .ok (.bipush (-3), 2) := by decide +kernel
theorem dc_12_48 : decode (ax_code 12) 48 = .ok (.ireturn, 1) := by decide +kernel
theorem dc_12_49 : decode (ax_code 12) 49 = .ok (.aload_n 0, 1) := by decide +kernel
theorem dc_12_50 : decode (ax_code 12) 50 = .ok (.getfield 10, 3) := by decide +kernel
theorem dc_12_53 : decode (ax_code 12) 53 = .ok (.getfield 77, 3) := by decide +kernel
theorem dc_12_56 : decode (ax_code 12) 56 = .ok (.new 44, 3) := by decide +kernel
theorem dc_12_59 : decode (ax_code 12) 59 = .ok (.dup, 1) := by decide +kernel
theorem dc_12_60 : decode (ax_code 12) 60 = .ok (.getstatic 102, 3) := by decide +kernel
theorem dc_12_63 : decode (ax_code 12) 63 = .ok (.iload_n 1, 1) := by decide +kernel
theorem dc_12_64 : decode (ax_code 12) 64 = .ok (.aaload, 1) := by decide +kernel
theorem dc_12_65 : decode (ax_code 12) 65 = .ok (.iload_n 2, 1) := by decide +kernel
theorem dc_12_66 : decode (ax_code 12) 66 = .ok (.iload_n 3, 1) := by decide +kernel
theorem dc_12_67 : decode (ax_code 12) 67 = .ok (.invokespecial 110, 3) := by decide +kernel
theorem dc_12_70 : decode (ax_code 12) 70 = .ok (.invokevirtual 113, 3) := by decide +kernel
theorem dc_12_73 : decode (ax_code 12) 73 = .ok (.aload_n 0, 1) := by decide +kernel
theorem dc_12_74 : decode (ax_code 12) 74 = .ok (.getfield 10, 3) := by decide +kernel
theorem dc_12_77 : decode (ax_code 12) 77 = .ok (.getfield 77, 3) := by decide +kernel
theorem dc_12_80 : decode (ax_code 12) 80 = .ok (.getfield 117, 3) := by decide +kernel
theorem dc_12_83 : decode (ax_code 12) 83 = .ok (.iconst 1, 1) := by decide +kernel
theorem dc_12_84 : decode (ax_code 12) 84 = .ok (.isub, 1) := by decide +kernel
theorem dc_12_85 : decode (ax_code 12) 85 = .ok (.ireturn, 1) := by decide +kernel
theorem dc_13_0 : decode (ax_code 13) 0 = .ok (.iload_n 0, 1) := by decide +kernel
theorem dc_13_1 : decode (ax_code 13) 1 = .ok (.ifCond .lt 11, 3) := by decide +kernel
theorem dc_13_4 : decode (ax_code 13) 4 = .ok (.iload_n 0, 1) := by decide +kernel
theorem dc_13_5 : decode (ax_code 13) 5 = .ok (.getstatic 102, 3) := by decide +kernel
theorem dc_13_8 : decode (ax_code 13) 8 = .ok (.arraylength, 1) := by decide +kernel
theorem dc_13_9 : decode (ax_code 13) 9 = .ok (.if_icmp .lt 5, 3) := by decide +kernel
theorem dc_13_12 : decode (ax_code 13) 12 = .ok (.iconst 0, 1) := by decide +kernel
theorem dc_13_13 : decode (ax_code 13) 13 = .ok (.ireturn, 1) := by decide +kernel
theorem dc_13_14 : decode (ax_code 13) 14 = .ok (.getstatic 102, 3) := by decide +kernel
theorem dc_13_17 : decode (ax_code 13) 17 = .ok (.iload_n 0, 1) := by decide +kernel
theorem dc_13_18 : decode (ax_code 13) 18 = .ok (.aaload, 1) := by decide +kernel
theorem dc_13_19 : decode (ax_code 13) 19 = .ok (.getfield 372, 3) := by decide +kernel
theorem dc_13_22 : decode (ax_code 13) 22 = .ok (.ifCond .eq 10, 3) := by decide +kernel
theorem dc_13_25 : decode (ax_code 13) 25 = .ok (.iload_n 1, 1) := by decide +kernel
theorem dc_13_26 : decode (ax_code 13) 26 = .ok (.invokestatic 173, 3) := by decide +kernel
theorem dc_13_29 : decode (ax_code 13) 29 = .ok (.goto 12, 3) := by decide +kernel
theorem dc_13_32 : decode (ax_code 13) 32 = .ok (.iload_n 1, 1) := by decide +kernel
theorem dc_13_33 : decode (ax_code 13) 33 = .ok (.ifCond .ne 7, 3) := by decide +kernel
theorem dc_13_36 : decode (ax_code 13) 36 = .ok (.iconst 1, 1) := by decide +kernel
theorem dc_13_37 : decode (ax_code 13) 37 = .ok (.goto 4, 3) := by decide +kernel
theorem dc_13_40 : decode (ax_code 13) 40 = .ok (.iconst 0, 1) := by decide +kernel
theorem dc_13_41 : decode (ax_code 13) 41 = .ok (.istore_n 3, 1) := by decide +kernel
theorem dc_13_42 : decode (ax_code 13) 42 = .ok (.getstatic 102, 3) := by decide +kernel
theorem dc_13_45 : decode (ax_code 13) 45 = .ok (.iload_n 0, 1) := by decide +kernel
theorem dc_13_46 : decode (ax_code 13) 46 = .ok (.aaload, 1) := by decide +kernel
theorem dc_13_47 : decode (ax_code 13) 47 = .ok (.getfield 375, 3) := by decide +kernel
theorem dc_13_50 : decode (ax_code 13) 50 = .ok (.ifCond .eq 21, 3) := by decide +kernel
theorem dc_13_53 : decode (ax_code 13) 53 = .ok (.iload_n 2, 1) := by decide +kernel
theorem dc_13_54 : decode (ax_code 13) 54 = .ok (.iconst 2, 1) := by decide +kernel
theorem dc_13_55 : decode (ax_code 13) 55 = .ok (.if_icmp .eq 8, 3) := by decide +kernel
theorem dc_13_58 : decode (ax_code 13) 58 = .ok (.iload_n 2, 1) := by decide +kernel
theorem dc_13_59 : decode (ax_code 13) 59 = .ok (.iconst 3, 1) := by decide +kernel
theorem dc_13_60 : decode (ax_code 13) 60 = .ok (.if_icmp .ne 7, 3) := by decide +kernel
theorem dc_13_63 : decode (ax_code 13) 63 = .ok (.iconst 1, 1) := by decide +kernel
theorem dc_13_64 : decode (ax_code 13) 64 = .ok (.goto 16, 3) := by decide +kernel
theorem dc_13_67 : decode (ax_code 13) 67 = .ok (.iconst 0, 1) := by decide +kernel
theorem dc_13_68 : decode (ax_code 13) 68 = .ok (.goto 12, 3) := by decide +kernel
theorem dc_13_71 : decode (ax_code 13) 71 = .ok (.iload_n 2, 1) := by decide +kernel
theorem dc_13_72 : decode (ax_code 13) 72 = .ok (.ifCond .ne 7, 3) := by decide +kernel
theorem dc_13_75 : decode (ax_code 13) 75 = .ok (.iconst 1, 1) := by decide +kernel
theorem dc_13_76 : decode (ax_code 13) 76 = .ok (.goto 4, 3) := by decide +kernel
theorem dc_13_79 : decode (ax_code 13) 79 = .ok (.iconst 0, 1) := by decide +kernel
theorem dc_13_80 : decode (ax_code 13) 80 = .ok (.istore 4, 2) := by decide +kernel
theorem dc_13_82 : decode (ax_code 13) 82 = .ok (.iload_n 3, 1) := by decide +kernel
theorem dc_13_83 : decode (ax_code 13) 83 = .ok (.ifCond .eq 12, 3) := by decide +kernel
theorem dc_13_86 : decode (ax_code 13) 86 = .ok (.iload 4, 2) := by decide +kernel
theorem dc_13_88 : decode (ax_code 13) 88 = .ok (.ifCond .eq 7, 3) := by decide +kernel
theorem dc_13_91 : decode (ax_code 13) 91 = .ok (.iconst 1, 1) := by decide +kernel
theorem dc_13_92 : decode (ax_code 13) 92 = .ok (.goto 4, 3) := by decide +kernel
theorem dc_13_95 : decode (ax_code 13) 95 = .ok (.iconst 0, 1) := by decide +kernel
theorem dc_13_96 : decode (ax_code 13) 96 = .ok (.ireturn, 1) := by decide +kernel
theorem dc_14_0 : decode (ax_code 14) 0 = .ok (.iload_n 0, 1) := by decide +kernel
theorem dc_14_1 : decode (ax_code 14) 1 = .ok (.ifCond .lt 12, 3) := by decide +kernel
theorem dc_14_4 : decode (ax_code 14) 4 = .ok (.iload_n 0, 1) := by decide +kernel
theorem dc_14_5 : decode (ax_code 14) 5 = .ok (.iconst 3, 1) := by decide +kernel
theorem dc_14_6 : decode (ax_code 14) 6 = .ok (.if_icmp .ge 7, 3) := by decide +kernel
theorem dc_14_9 : decode (ax_code 14) 9 = .ok (.iconst 1, 1) := by decide +kernel
theorem dc_14_10 : decode (ax_code 14) 10 = .ok (.goto 4, 3) := by decide +kernel
theorem dc_14_13 : decode (ax_code 14) 13 = .ok (.iconst 0, 1) := by decide +kernel
theorem dc_14_14 : decode (ax_code 14) 14 = .ok (.ireturn, 1) := by decide +kernel
theorem dc_15_0 : decode (ax_code 15) 0 = .ok (.aload_n 0, 1) := by decide +kernel
theorem dc_15_1 : decode (ax_code 15) 1 = .ok (.getfield 25, 3) := by decide +kernel
theorem dc_15_4 : decode (ax_code 15) 4 = .ok (.bipush 6, 2) := by decide +kernel
theorem dc_15_6 : decode (ax_code 15) 6 = .ok (.if_icmp .ge 7, 3) := by decide +kernel
theorem dc_15_9 : decode (ax_code 15) 9 = .ok (.iconst 1, 1) := by decide +kernel
theorem dc_15_10 : decode (ax_code 15) 10 = .ok (.goto 4, 3) := by decide +kernel
theorem dc_15_13 : decode (ax_code 15) 13 = .ok (.iconst 0, 1) := by decide +kernel
theorem dc_15_14 : decode (ax_code 15) 14 = .ok (.ireturn, 1) := by decide +kernel
theorem dc_16_0 : decode (ax_code 16) 0 = .ok (.aload_n 1, 1) := by decide +kernel
theorem dc_16_1 : decode (ax_code 16) 1 = .ok (.invokevirtual 53, 3) := by decide +kernel
theorem dc_16_4 : decode (ax_code 16) 4 = .ok (.ifCond .eq 10, 3) := by decide +kernel
theorem dc_16_7 : decode (ax_code 16) 7 = .ok (.aload_n 0, 1) := by decide +kernel
theorem dc_16_8 : decode (ax_code 16) 8 = .ok (.invokevirtual 59, 3) := by decide +kernel
theorem dc_16_11 : decode (ax_code 16) 11 = .ok (.ifCond .le 7, 3) := by decide +kernel
theorem dc_16_14 : decode (ax_code 16) 14 = .ok (.iconst 1, 1) := by decide +kernel
theorem dc_16_15 : decode (ax_code 16) 15 = .ok (.goto 4, 3) := by decide +kernel
theorem dc_16_18 : decode (ax_code 16) 18 = .ok (.iconst 0, 1) := by decide +kernel
theorem dc_16_19 : decode (ax_code 16) 19 = .ok (.ireturn, 1) := by decide +kernel
theorem dc_17_0 : decode (ax_code 17) 0 = .ok (.aload_n 0, 1) := by decide +kernel
theorem dc_17_1 : decode (ax_code 17) 1 = .ok (.getstatic 3, 3) := by decide +kernel
theorem dc_17_4 : decode (ax_code 17) 4 = .ok (.if_acmp .eq 10, 3) := by decide +kernel
theorem dc_17_7 : decode (ax_code 17) 7 = .ok (.aload_n 0, 1) := by decide +kernel
theorem dc_17_8 : decode (ax_code 17) 8 = .ok (.getstatic 7, 3) := by decide +kernel
theorem dc_17_11 : decode (ax_code 17) 11 = .ok (.if_acmp .ne 7, 3) := by decide +kernel
theorem dc_17_14 : decode (ax_code 17) 14 = .ok (.iconst 1, 1) := by decide +kernel
theorem dc_17_15 : decode (ax_code 17) 15 = .ok (.goto 4, 3) := by decide +kernel
theorem dc_17_18 : decode (ax_code 17) 18 = .ok (.iconst 0, 1) := by decide +kernel
theorem dc_17_19 : decode (ax_code 17) 19 = .ok (.ireturn, 1) := by decide +kernel
theorem dc_18_0 : decode (ax_code 18) 0 = .ok (.aload_n 0, 1) := by decide +kernel
theorem dc_18_1 : decode (ax_code 18) 1 = .ok (.getfield 9, 3) := by decide +kernel
theorem dc_18_4 : decode (ax_code 18) 4 = .ok (.istore_n 1, 1) := by decide +kernel
theorem dc_18_5 : decode (ax_code 18) 5 = .ok (.iconst 0, 1) := by decide +kernel
theorem dc_18_6 : decode (ax_code 18) 6 = .ok (.istore_n 2, 1) := by decide +kernel
theorem dc_18_7 : decode (ax_code 18) 7 = .ok (.iload_n 2, 1) := by decide +kernel
theorem dc_18_8 : decode (ax_code 18) 8 = .ok (.aload_n 0, 1) := by decide +kernel
theorem dc_18_9 : decode (ax_code 18) 9 = .ok (.getfield 25, 3) := by decide +kernel
theorem dc_18_12 : decode (ax_code 18) 12 = .ok (.if_icmp .ge 20, 3) := by decide +kernel
theorem dc_18_15 : decode (ax_code 18) 15 = .ok (.aload_n 0, 1) := by decide +kernel
theorem dc_18_16 : decode (ax_code 18) 16 = .ok (.iload_n 2, 1) := by decide +kernel
theorem dc_18_17 : decode (ax_code 18) 17 = .ok (.invokevirtual 63, 3) := by decide +kernel
theorem dc_18_20 : decode (ax_code 18) 20 = .ok (.ifCond .eq 6, 3) := by decide +kernel
theorem dc_18_23 : decode (ax_code 18) 23 = .ok (.iinc 1 (-1), 3) := by decide +kernel
theorem dc_18_26 : decode (ax_code 18) 26 = .ok (.iinc 2 1, 3) := by decide +kernel
theorem dc_18_29 : decode (ax_code 18) 29 = .ok (.goto (-22), 3) := by decide +kernel
theorem dc_18_32 : decode (ax_code 18) 32 = .ok (.iload_n 1, 1) := by decide +kernel
theorem dc_18_33 : decode (ax_code 18) 33 = .ok (.ireturn, 1) := by decide +kernel
theorem dc_19_0 : decode (ax_code 19) 0 = .ok (.aload_n 0, 1) := by decide +kernel
theorem dc_19_1 : decode (ax_code 19) 1 = .ok (.iload_n 1, 1) := by decide +kernel
theorem dc_19_2 : decode (ax_code 19) 2 = .ok (.invokevirtual 67, 3) := by decide +kernel
theorem dc_19_5 : decode (ax_code 19) 5 = .ok (.astore_n 2, 1) := by decide +kernel
theorem dc_19_6 : decode (ax_code 19) 6 = .ok (.aload_n 2, 1) := by decide +kernel
theorem dc_19_7 : decode (ax_code 19) 7 = .ok (.ifnull 17, 3) := by decide +kernel
theorem dc_19_10 : decode (ax_code 19) 10 = .ok (.aload_n 2, 1) := by decide +kernel
theorem dc_19_11 : decode (ax_code 19) 11 = .ok (.getfield 71, 3) := by decide +kernel
theorem dc_19_14 : decode (ax_code 19) 14 = .ok (.invokevirtual 53, 3) := by decide +kernel
theorem dc_19_17 : decode (ax_code 19) 17 = .ok (.ifCond .eq 7, 3) := by decide +kernel
theorem dc_19_20 : decode (ax_code 19) 20 = .ok (.iconst 1, 1) := by decide +kernel
theorem dc_19_21 : decode (ax_code 19) 21 = .ok (.goto 4, 3) := by decide +kernel
theorem dc_19_24 : decode (ax_code 19) 24 = .ok (.iconst 0, 1) := by decide +kernel
theorem dc_19_25 : decode (ax_code 19) 25 = .ok (.ireturn, 1) := by decide +kernel
theorem dc_20_0 : decode (ax_code 20) 0 = .ok (.iload_n 1, 1) := by decide +kernel
theorem dc_20_1 : decode (ax_code 20) 1 = .ok (.ifCond .lt 20, 3) := by decide +kernel
theorem dc_20_4 : decode (ax_code 20) 4 = .ok (.iload_n 1, 1) := by decide +kernel
theorem dc_20_5 : decode (ax_code 20) 5 = .ok (.aload_n 0, 1) := by decide +kernel
theorem dc_20_6 : decode (ax_code 20) 6 = .ok (.getfield 25, 3) := by decide +kernel
theorem dc_20_9 : decode (ax_code 20) 9 = .ok (.if_icmp .ge 12, 3) := by decide +kernel
theorem dc_20_12 : decode (ax_code 20) 12 = .ok (.aload_n 0, 1) := by decide +kernel
theorem dc_20_13 : decode (ax_code 20) 13 = .ok (.getfield 21, 3) := by decide +kernel
theorem dc_20_16 : decode (ax_code 20) 16 = .ok (.iload_n 1, 1) := by decide +kernel
theorem dc_20_17 : decode (ax_code 20) 17 = .ok (.aaload, 1) := by decide +kernel
theorem dc_20_18 : decode (ax_code 20) 18 = .ok (.goto 4, 3) := by decide +kernel
theorem dc_20_21 : decode (ax_code 20) 21 = .ok (.aconst_null, 1) := by decide +kernel
theorem dc_20_22 : decode (ax_code 20) 22 = .ok (.areturn, 1) := by decide +kernel
theorem dc_21_0 : decode (ax_code 21) 0 = .ok (.aload_n 0, 1) := by decide +kernel
theorem dc_21_1 : decode (ax_code 21) 1 = .ok (.invokespecial 1, 3) := by decide +kernel
theorem dc_21_4 : decode (ax_code 21) 4 = .ok (.aload_n 0, 1) := by decide +kernel
theorem dc_21_5 : decode (ax_code 21) 5 = .ok (.aload_n 1, 1) := by decide +kernel
theorem dc_21_6 : decode (ax_code 21) 6 = .ok (.putfield 7, 3) := by decide +kernel
theorem dc_21_9 : decode (ax_code 21) 9 = .ok (.aload_n 0, 1) := by decide +kernel
theorem dc_21_10 : decode (ax_code 21) 10 = .ok (.iload_n 2, 1) := by decide +kernel
theorem dc_21_11 : decode (ax_code 21) 11 = .ok (.putfield 13, 3) := by decide +kernel
theorem dc_21_14 : decode (ax_code 21) 14 = .ok (.aload_n 0, 1) := by decide +kernel
theorem dc_21_15 : decode (ax_code 21) 15 = .ok (.iload_n 3, 1) := by decide +kernel
theorem dc_21_16 : decode (ax_code 21) 16 = .ok (.putfield 17, 3) := by decide +kernel
theorem dc_21_19 : decode (ax_code 21) 19 = .ok (.return_, 1) := by decide +kernel
theorem dc_22_0 : decode (ax_code 22) 0 = .ok (.aload_n 1, 1) := by decide +kernel
theorem dc_22_1 : decode (ax_code 22) 1 = .ok (.ifnull 21, 3) := by decide +kernel
theorem dc_22_4 : decode (ax_code 22) 4 = .ok (.aload_n 0, 1) := by decide +kernel
theorem dc_22_5 : decode (ax_code 22) 5 = .ok (.invokevirtual 84, 3) := by decide +kernel
theorem dc_22_8 : decode (ax_code 22) 8 = .ok (.ifCond .eq 14, 3) := by decide +kernel
theorem dc_22_11 : decode (ax_code 22) 11 = .ok (.aload_n 0, 1) := by decide +kernel
theorem dc_22_12 : decode (ax_code 22) 12 = .ok (.aload_n 1, 1) := by decide +kernel
theorem dc_22_13 : decode (ax_code 22) 13 = .ok (.getfield 71, 3) := by decide +kernel
theorem dc_22_16 : decode (ax_code 22) 16 = .ok (.invokevirtual 87, 3) := by decide +kernel
theorem dc_22_19 : decode (ax_code 22) 19 = .ok (.ifCond .ne 4, 3) := by decide +kernel
theorem dc_22_22 : decode (ax_code 22) 22 = .ok (.return_, 1) := by decide +kernel
theorem dc_22_23 : decode (ax_code 22) 23 = .ok (.aload_n 0, 1) := by decide +kernel
theorem dc_22_24 : decode (ax_code 22) 24 = .ok (.getfield 25, 3) := by decide +kernel
theorem dc_22_27 : decode (ax_code 22) 27 = .ok (.istore_n 2, 1) := by decide +kernel
theorem dc_22_28 : decode (ax_code 22) 28 = .ok (.aload_n 0, 1) := by decide +kernel
theorem dc_22_29 : decode (ax_code 22) 29 = .ok (.getfield 21, 3) := by decide +kernel
theorem dc_22_32 : decode (ax_code 22) 32 = .ok (.iload_n 2, 1) := by decide +kernel
theorem dc_22_33 : decode (ax_code 22) 33 = .ok (.aload_n 1, 1) := by decide +kernel
theorem dc_22_34 : decode (ax_code 22) 34 = .ok (.aastore, 1) := by decide +kernel
theorem dc_22_35 : decode (ax_code 22) 35 = .ok (.aload_n 0, 1) := by decide +kernel
theorem dc_22_36 : decode (ax_code 22) 36 = .ok (.getfield 28, 3) := by decide +kernel
theorem dc_22_39 : decode (ax_code 22) 39 = .ok (.iload_n 2, 1) := by decide +kernel
theorem dc_22_40 : decode (ax_code 22) 40 = .ok (.aload_n 1, 1) := by decide +kernel
theorem dc_22_41 : decode (ax_code 22) 41 = .ok (.getfield 71, 3) := by decide +kernel
theorem dc_22_44 : decode (ax_code 22) 44 = .ok (.invokevirtual 53, 3) := by decide +kernel
theorem dc_22_47 : decode (ax_code 22) 47 = .ok (.ifCond .eq 10, 3) := by decide +kernel
theorem dc_22_50 : decode (ax_code 22) 50 = .ok (.aload_n 0, 1) := by decide +kernel
theorem dc_22_51 : decode (ax_code 22) 51 = .ok (.invokevirtual 59, 3) := by decide +kernel
theorem dc_22_54 : decode (ax_code 22) 54 = .ok (.goto 11, 3) := by decide +kernel
theorem dc_22_57 : decode (ax_code 22) 57 = .ok (.iconst 1, 1) := by decide +kernel
theorem dc_22_58 : decode (ax_code 22) 58 = .ok (.aload_n 1, 1) := by decide +kernel
theorem dc_22_59 : decode (ax_code 22) 59 = .ok (.getfield 91, 3) := by decide +kernel
theorem dc_22_62 : decode (ax_code 22) 62 = .ok (.invokestatic 94, 3) := by decide +kernel
theorem dc_22_65 : decode (ax_code 22) 65 = .ok (.iastore, 1) := by decide +kernel
theorem dc_22_66 : decode (ax_code 22) 66 = .ok (.aload_n 0, 1) := by decide +kernel
theorem dc_22_67 : decode (ax_code 22) 67 = .ok (.getfield 31, 3) := by decide +kernel
theorem dc_22_70 : decode (ax_code 22) 70 = .ok (.iload_n 2, 1) := by decide +kernel
theorem dc_22_71 : decode (ax_code 22) 71 = .ok (.iconst 1, 1) := by decide +kernel
theorem dc_22_72 : decode (ax_code 22) 72 = .ok (.iadd, 1) := by decide +kernel
theorem dc_22_73 : decode (ax_code 22) 73 = .ok (.aload_n 0, 1) := by decide +kernel
theorem dc_22_74 : decode (ax_code 22) 74 = .ok (.getfield 31, 3) := by decide +kernel
theorem dc_22_77 : decode (ax_code 22) 77 = .ok (.iload_n 2, 1) := by decide +kernel
theorem dc_22_78 : decode (ax_code 22) 78 = .ok (.iaload, 1) := by decide +kernel
theorem dc_22_79 : decode (ax_code 22) 79 = .ok (.aload_n 0, 1) := by decide +kernel
theorem dc_22_80 : decode (ax_code 22) 80 = .ok (.getfield 28, 3) := by decide +kernel
theorem dc_22_83 : decode (ax_code 22) 83 = .ok (.iload_n 2, 1) := by decide +kernel
theorem dc_22_84 : decode (ax_code 22) 84 = .ok (.iaload, 1) := by decide +kernel
theorem dc_22_85 : decode (ax_code 22) 85 = .ok (.imul, 1) := by decide +kernel
theorem dc_22_86 : decode (ax_code 22) 86 = .ok (.iastore, 1) := by decide +kernel
theorem dc_22_87 : decode (ax_code 22) 87 = .ok (.aload_n 0, 1) := by decide +kernel
theorem dc_22_88 : decode (ax_code 22) 88 = .ok (.aload_n 1, 1) := by decide +kernel
theorem dc_22_89 : decode (ax_code 22) 89 = .ok (.getfield 71, 3) := by decide +kernel
theorem dc_22_92 : decode (ax_code 22) 92 = .ok (.iload_n 2, 1) := by decide +kernel
theorem dc_22_93 : decode (ax_code 22) 93 = .ok (.invokevirtual 100, 3) := by decide +kernel
theorem dc_22_96 : decode (ax_code 22) 96 = .ok (.aload_n 0, 1) := by decide +kernel
theorem dc_22_97 : decode (ax_code 22) 97 = .ok (.aload_n 1, 1) := by decide +kernel
theorem dc_22_98 : decode (ax_code 22) 98 = .ok (.iload_n 2, 1) := by decide +kernel
theorem dc_22_99 : decode (ax_code 22) 99 = .ok (.invokevirtual 104, 3) := by decide +kernel
theorem dc_22_102 : decode (ax_code 22) 102 = .ok (.aload_n 0, 1) := by decide +kernel
theorem dc_22_103 : decode (ax_code 22) 103 = .ok (.dup, 1) := by decide +kernel
theorem dc_22_104 : decode (ax_code 22) 104 = .ok (.getfield 25, 3) := by decide +kernel
theorem dc_22_107 : decode (ax_code 22) 107 = .ok (.iconst 1, 1) := by decide +kernel
theorem dc_22_108 : decode (ax_code 22) 108 = .ok (.iadd, 1) := by decide +kernel
theorem dc_22_109 : decode (ax_code 22) 109 = .ok (.putfield 25, 3) := by decide +kernel
theorem dc_22_112 : decode (ax_code 22) 112 = .ok (.return_, 1) := by decide +kernel
theorem dc_24_0 : decode (ax_code 24) 0 = .ok (.aload_n 1, 1) := by decide +kernel
theorem dc_24_1 : decode (ax_code 24) 1 = .ok (.invokevirtual 53, 3) := by decide +kernel
theorem dc_24_4 : decode (ax_code 24) 4 = .ok (.ifCond .eq 10, 3) := by decide +kernel
theorem dc_24_7 : decode (ax_code 24) 7 = .ok (.aload_n 0, 1) := by decide +kernel
theorem dc_24_8 : decode (ax_code 24) 8 = .ok (.getfield 9, 3) := by decide +kernel
theorem dc_24_11 : decode (ax_code 24) 11 = .ok (.goto 9, 3) := by decide +kernel
theorem dc_24_14 : decode (ax_code 24) 14 = .ok (.aload_n 0, 1) := by decide +kernel
theorem dc_24_15 : decode (ax_code 24) 15 = .ok (.getfield 28, 3) := by decide +kernel
theorem dc_24_18 : decode (ax_code 24) 18 = .ok (.iload_n 2, 1) := by decide +kernel
theorem dc_24_19 : decode (ax_code 24) 19 = .ok (.iaload, 1) := by decide +kernel
theorem dc_24_20 : decode (ax_code 24) 20 = .ok (.istore_n 3, 1) := by decide +kernel
theorem dc_24_21 : decode (ax_code 24) 21 = .ok (.iconst 0, 1) := by decide +kernel
theorem dc_24_22 : decode (ax_code 24) 22 = .ok (.istore 4, 2) := by decide +kernel
theorem dc_24_24 : decode (ax_code 24) 24 = .ok (.iconst 0, 1) := by decide +kernel
theorem dc_24_25 : decode (ax_code 24) 25 = .ok (.istore 5, 2) := by decide +kernel
theorem dc_24_27 : decode (ax_code 24) 27 = .ok (.iload 5, 2) := by decide +kernel
theorem dc_24_29 : decode (ax_code 24) 29 = .ok (.aload_n 0, 1) := by decide +kernel
theorem dc_24_30 : decode (ax_code 24) 30 = .ok (.getfield 31, 3) := by decide +kernel
theorem dc_24_33 : decode (ax_code 24) 33 = .ok (.iload_n 2, 1) := by decide +kernel
theorem dc_24_34 : decode (ax_code 24) 34 = .ok (.iaload, 1) := by decide +kernel
theorem dc_24_35 : decode (ax_code 24) 35 = .ok (.if_icmp .ge 76, 3) := by decide +kernel
theorem dc_24_38 : decode (ax_code 24) 38 = .ok (.aload_n 1, 1) := by decide +kernel
theorem dc_24_39 : decode (ax_code 24) 39 = .ok (.invokevirtual 53, 3) := by decide +kernel
theorem dc_24_42 : decode (ax_code 24) 42 = .ok (.ifCond .eq 13, 3) := by decide +kernel
theorem dc_24_45 : decode (ax_code 24) 45 = .ok (.aload_n 0, 1) := by decide +kernel
theorem dc_24_46 : decode (ax_code 24) 46 = .ok (.iload 5, 2) := by decide +kernel
theorem dc_24_48 : decode (ax_code 24) 48 = .ok (.iload_n 2, 1) := by decide +kernel
theorem dc_24_49 : decode (ax_code 24) 49 = .ok (.invokevirtual 108, 3) := by decide +kernel
theorem dc_24_52 : decode (ax_code 24) 52 = .ok (.goto 4, 3) := by decide +kernel
theorem dc_24_55 : decode (ax_code 24) 55 = .ok (.iconst 0, 1) := by decide +kernel
theorem dc_24_56 : decode (ax_code 24) 56 = .ok (.istore 6, 2) := by decide +kernel
theorem dc_24_58 : decode (ax_code 24) 58 = .ok (.iconst 0, 1) := by decide +kernel
theorem dc_24_59 : decode (ax_code 24) 59 = .ok (.istore 7, 2) := by decide +kernel
theorem dc_24_61 : decode (ax_code 24) 61 = .ok (.iload 7, 2) := by decide +kernel
theorem dc_24_63 : decode (ax_code 24) 63 = .ok (.iload_n 3, 1) := by decide +kernel
theorem dc_24_64 : decode (ax_code 24) 64 = .ok (.if_icmp .ge 41, 3) := by decide +kernel
theorem dc_24_67 : decode (ax_code 24) 67 = .ok (.iload 6, 2) := by decide +kernel
theorem dc_24_69 : decode (ax_code 24) 69 = .ok (.iload 7, 2) := by decide +kernel
theorem dc_24_71 : decode (ax_code 24) 71 = .ok (.ishr, 1) := by decide +kernel
theorem dc_24_72 : decode (ax_code 24) 72 = .ok (.iconst 1, 1) := by decide +kernel
theorem dc_24_73 : decode (ax_code 24) 73 = .ok (.iand, 1) := by decide +kernel
theorem dc_24_74 : decode (ax_code 24) 74 = .ok (.ifCond .ne 25, 3) := by decide +kernel
theorem dc_24_77 : decode (ax_code 24) 77 = .ok (.iload 4, 2) := by decide +kernel
theorem dc_24_79 : decode (ax_code 24) 79 = .ok (.sipush 1620, 3) := by decide +kernel
theorem dc_24_82 : decode (ax_code 24) 82 = .ok (.if_icmp .ge 17, 3) := by decide +kernel
theorem dc_24_85 : decode (ax_code 24) 85 = .ok (.aload_n 0, 1) := by decide +kernel
theorem dc_24_86 : decode (ax_code 24) 86 = .ok (.getfield 39, 3) := by decide +kernel
theorem dc_24_89 : decode (ax_code 24) 89 = .ok (.iload_n 2, 1) := by decide +kernel
theorem dc_24_90 : decode (ax_code 24) 90 = .ok (.aaload, 1) := by decide +kernel
theorem dc_24_91 : decode (ax_code 24) 91 = .ok (.iload 4, 2) := by decide +kernel
theorem dc_24_93 : decode (ax_code 24) 93 = .ok (.iinc 4 1, 3) := by decide +kernel
theorem dc_24_96 : decode (ax_code 24) 96 = .ok (.iload 7, 2) := by decide +kernel
theorem dc_24_98 : decode (ax_code 24) 98 = .ok (.iastore, 1) := by decide +kernel
theorem dc_24_99 : decode (ax_code 24) 99 = .ok (.iinc 7 1, 3) := by decide +kernel
theorem dc_24_102 : decode (ax_code 24) 102 = .ok (.goto (-41), 3) := by decide +kernel
theorem dc_24_105 : decode (ax_code 24) 105 = .ok (.iinc 5 1, 3) := by decide +kernel
theorem dc_24_108 : decode (ax_code 24) 108 = .ok (.goto (-81), 3) := by decide +kernel
theorem dc_24_111 : decode (ax_code 24) 111 = .ok (.return_, 1) := by decide +kernel
theorem dc_25_0 : decode (ax_code 25) 0 = .ok (.aload_n 0, 1) := by decide +kernel
theorem dc_25_1 : decode (ax_code 25) 1 = .ok (.iload_n 1, 1) := by decide +kernel
theorem dc_25_2 : decode (ax_code 25) 2 = .ok (.iload_n 2, 1) := by decide +kernel
theorem dc_25_3 : decode (ax_code 25) 3 = .ok (.invokevirtual 111, 3) := by decide +kernel
theorem dc_25_6 : decode (ax_code 25) 6 = .ok (.iconst 0, 1) := by decide +kernel
theorem dc_25_7 : decode (ax_code 25) 7 = .ok (.istore_n 3, 1) := by decide +kernel
theorem dc_25_8 : decode (ax_code 25) 8 = .ok (.iconst 0, 1) := by decide +kernel
theorem dc_25_9 : decode (ax_code 25) 9 = .ok (.istore 4, 2) := by decide +kernel
theorem dc_25_11 : decode (ax_code 25) 11 = .ok (.iload 4, 2) := by decide +kernel
theorem dc_25_13 : decode (ax_code 25) 13 = .ok (.iload_n 2, 1) := by decide +kernel
theorem dc_25_14 : decode (ax_code 25) 14 = .ok (.if_icmp .ge 30, 3) := by decide +kernel
theorem dc_25_17 : decode (ax_code 25) 17 = .ok (.aload_n 0, 1) := by decide +kernel
theorem dc_25_18 : decode (ax_code 25) 18 = .ok (.iload 4, 2) := by decide +kernel
theorem dc_25_20 : decode (ax_code 25) 20 = .ok (.invokevirtual 63, 3) := by decide +kernel
theorem dc_25_23 : decode (ax_code 25) 23 = .ok (.ifCond .eq 15, 3) := by decide +kernel
theorem dc_25_26 : decode (ax_code 25) 26 = .ok (.iload_n 3, 1) := by decide +kernel
theorem dc_25_27 : decode (ax_code 25) 27 = .ok (.iconst 1, 1) := by decide +kernel
theorem dc_25_28 : decode (ax_code 25) 28 = .ok (.aload_n 0, 1) := by decide +kernel
theorem dc_25_29 : decode (ax_code 25) 29 = .ok (.getfield 42, 3) := by decide +kernel
theorem dc_25_32 : decode (ax_code 25) 32 = .ok (.iload 4, 2) := by decide +kernel
theorem dc_25_34 : decode (ax_code 25) 34 = .ok (.iaload, 1) := by decide +kernel
theorem dc_25_35 : decode (ax_code 25) 35 = .ok (.ishl, 1) := by decide +kernel
theorem dc_25_36 : decode (ax_code 25) 36 = .ok (.ior, 1) := by decide +kernel
theorem dc_25_37 : decode (ax_code 25) 37 = .ok (.istore_n 3, 1) := by decide +kernel
theorem dc_25_38 : decode (ax_code 25) 38 = .ok (.iinc 4 1, 3) := by decide +kernel
theorem dc_25_41 : decode (ax_code 25) 41 = .ok (.goto (-30), 3) := by decide +kernel
theorem dc_25_44 : decode (ax_code 25) 44 = .ok (.iload_n 3, 1) := by decide +kernel
theorem dc_25_45 : decode (ax_code 25) 45 = .ok (.ireturn, 1) := by decide +kernel
theorem dc_26_0 : decode (ax_code 26) 0 = .ok (.iload_n 1, 1) := by decide +kernel
theorem dc_26_1 : decode (ax_code 26) 1 = .ok (.istore_n 3, 1) := by decide +kernel
theorem dc_26_2 : decode (ax_code 26) 2 = .ok (.iload_n 2, 1) := by decide +kernel
theorem dc_26_3 : decode (ax_code 26) 3 = .ok (.iconst 1, 1) := by decide +kernel
theorem dc_26_4 : decode (ax_code 26) 4 = .ok (.isub, 1) := by decide +kernel
theorem dc_26_5 : decode (ax_code 26) 5 = .ok (.istore 4, 2) := by decide +kernel
theorem dc_26_7 : decode (ax_code 26) 7 = .ok (.iload 4, 2) := by decide +kernel
theorem dc_26_9 : decode (ax_code 26) 9 = .ok (.ifCond .lt 54, 3) := by decide +kernel
theorem dc_26_12 : decode (ax_code 26) 12 = .ok (.aload_n 0, 1) := by decide +kernel
theorem dc_26_13 : decode (ax_code 26) 13 = .ok (.getfield 42, 3) := by decide +kernel
theorem dc_26_16 : decode (ax_code 26) 16 = .ok (.iload 4, 2) := by decide +kernel
theorem dc_26_18 : decode (ax_code 26) 18 = .ok (.iload_n 3, 1) := by decide +kernel
theorem dc_26_19 : decode (ax_code 26) 19 = .ok (.ifCond .lt 22, 3) := by decide +kernel
theorem dc_26_22 : decode (ax_code 26) 22 = .ok (.iload_n 3, 1) := by decide +kernel
theorem dc_26_23 : decode (ax_code 26) 23 = .ok (.sipush 1620, 3) := by decide +kernel
theorem dc_26_26 : decode (ax_code 26) 26 = .ok (.if_icmp .ge 15, 3) := by decide +kernel
theorem dc_26_29 : decode (ax_code 26) 29 = .ok (.aload_n 0, 1) := by decide +kernel
theorem dc_26_30 : decode (ax_code 26) 30 = .ok (.getfield 39, 3) := by decide +kernel
theorem dc_26_33 : decode (ax_code 26) 33 = .ok (.iload 4, 2) := by decide +kernel
theorem dc_26_35 : decode (ax_code 26) 35 = .ok (.aaload, 1) := by decide +kernel
theorem dc_26_36 : decode (ax_code 26) 36 = .ok (.iload_n 3, 1) := by decide +kernel
theorem dc_26_37 : decode (ax_code 26) 37 = .ok (.iaload, 1) := by decide +kernel
theorem dc_26_38 : decode (ax_code 26) 38 = .ok (.goto 4, 3) := by decide +kernel
theorem dc_26_41 : decode (ax_code 26) 41 = .ok (.iconst 0, 1) := by decide +kernel
theorem dc_26_42 : decode (ax_code 26) 42 = .ok (.iastore, 1) := by decide +kernel
theorem dc_26_43 : decode (ax_code 26) 43 = .ok (.iload_n 3, 1) := by decide +kernel
theorem dc_26_44 : decode (ax_code 26) 44 = .ok (.iconst 1, 1) := by decide +kernel
theorem dc_26_45 : decode (ax_code 26) 45 = .ok (.aload_n 0, 1) := by decide +kernel
theorem dc_26_46 : decode (ax_code 26) 46 = .ok (.getfield 28, 3) := by decide +kernel
theorem dc_26_49 : decode (ax_code 26) 49 = .ok (.iload 4, 2) := by decide +kernel
theorem dc_26_51 : decode (ax_code 26) 51 = .ok (.iaload, 1) := by decide +kernel
theorem dc_26_52 : decode (ax_code 26) 52 = .ok (.invokestatic 94, 3) := by decide +kernel
theorem dc_26_55 : decode (ax_code 26) 55 = .ok (.idiv, 1) := by decide +kernel
theorem dc_26_56 : decode (ax_code 26) 56 = .ok (.istore_n 3, 1) := by decide +kernel
theorem dc_26_57 : decode (ax_code 26) 57 = .ok (.iinc 4 (-1), 3) := by decide +kernel
theorem dc_26_60 : decode (ax_code 26) 60 = .ok (.goto (-53), 3) := by decide +kernel
theorem dc_26_63 : decode (ax_code 26) 63 = .ok (.return_, 1) := by decide +kernel
theorem dc_27_0 : decode (ax_code 27) 0 = .ok (.iconst 1, 1) := by decide +kernel
theorem dc_27_1 : decode (ax_code 27) 1 = .ok (.aload_n 1, 1) := by decide +kernel
theorem dc_27_2 : decode (ax_code 27) 2 = .ok (.getfield 81, 3) := by decide +kernel
theorem dc_27_5 : decode (ax_code 27) 5 = .ok (.ishl, 1) := by decide +kernel
theorem dc_27_6 : decode (ax_code 27) 6 = .ok (.istore_n 3, 1) := by decide +kernel
theorem dc_27_7 : decode (ax_code 27) 7 = .ok (.iconst 0, 1) := by decide +kernel
theorem dc_27_8 : decode (ax_code 27) 8 = .ok (.istore 4, 2) := by decide +kernel
theorem dc_27_10 : decode (ax_code 27) 10 = .ok (.iload 4, 2) := by decide +kernel
theorem dc_27_12 : decode (ax_code 27) 12 = .ok (.iload_n 2, 1) := by decide +kernel
theorem dc_27_13 : decode (ax_code 27) 13 = .ok (.if_icmp .ge 72, 3) := by decide +kernel
theorem dc_27_16 : decode (ax_code 27) 16 = .ok (.aload_n 0, 1) := by decide +kernel
theorem dc_27_17 : decode (ax_code 27) 17 = .ok (.getfield 36, 3) := by decide +kernel
theorem dc_27_20 : decode (ax_code 27) 20 = .ok (.iload_n 2, 1) := by decide +kernel
theorem dc_27_21 : decode (ax_code 27) 21 = .ok (.aaload, 1) := by decide +kernel
theorem dc_27_22 : decode (ax_code 27) 22 = .ok (.iload 4, 2) := by decide +kernel
theorem dc_27_24 : decode (ax_code 27) 24 = .ok (.iaload, 1) := by decide +kernel
theorem dc_27_25 : decode (ax_code 27) 25 = .ok (.istore 5, 2) := by decide +kernel
theorem dc_27_27 : decode (ax_code 27) 27 = .ok (.aload_n 1, 1) := by decide +kernel
theorem dc_27_28 : decode (ax_code 27) 28 = .ok (.getfield 71, 3) := by decide +kernel
theorem dc_27_31 : decode (ax_code 27) 31 = .ok (.getstatic 115, 3) := by decide +kernel
theorem dc_27_34 : decode (ax_code 27) 34 = .ok (.if_acmp .ne 14, 3) := by decide +kernel
theorem dc_27_37 : decode (ax_code 27) 37 = .ok (.iload 5, 2) := by decide +kernel
theorem dc_27_39 : decode (ax_code 27) 39 = .ok (.iload_n 3, 1) := by decide +kernel
theorem dc_27_40 : decode (ax_code 27) 40 = .ok (.iand, 1) := by decide +kernel
theorem dc_27_41 : decode (ax_code 27) 41 = .ok (.ifCond .eq 7, 3) := by decide +kernel
theorem dc_27_44 : decode (ax_code 27) 44 = .ok (.bipush 7, 2) := by decide +kernel
theorem dc_27_46 : decode (ax_code 27) 46 = .ok (.istore 5, 2) := by decide +kernel
theorem dc_27_48 : decode (ax_code 27) 48 = .ok (.aload_n 1, 1) := by decide +kernel
theorem dc_27_49 : decode (ax_code 27) 49 = .ok (.getfield 71, 3) := by decide +kernel
theorem dc_27_52 : decode (ax_code 27) 52 = .ok (.getstatic 118, 3) := by decide +kernel
theorem dc_27_55 : decode (ax_code 27) 55 = .ok (.if_acmp .ne 11, 3) := by decide +kernel
theorem dc_27_58 : decode (ax_code 27) 58 = .ok (.iload 5, 2) := by decide +kernel
theorem dc_27_60 : decode (ax_code 27) 60 = .ok (.iload_n 3, 1) := by decide +kernel
theorem dc_27_61 : decode (ax_code 27) 61 = .ok (.iconst (-1), 1) := by decide +kernel
theorem dc_27_62 : decode (ax_code 27) 62 = .ok (.ixor, 1) := by decide +kernel
theorem dc_27_63 : decode (ax_code 27) 63 = .ok (.iand, 1) := by decide +kernel
theorem dc_27_64 : decode (ax_code 27) 64 = .ok (.istore 5, 2) := by decide +kernel
theorem dc_27_66 : decode (ax_code 27) 66 = .ok (.aload_n 0, 1) := by decide +kernel
theorem dc_27_67 : decode (ax_code 27) 67 = .ok (.getfield 36, 3) := by decide +kernel
theorem dc_27_70 : decode (ax_code 27) 70 = .ok (.iload_n 2, 1) := by decide +kernel
theorem dc_27_71 : decode (ax_code 27) 71 = .ok (.iconst 1, 1) := by decide +kernel
theorem dc_27_72 : decode (ax_code 27) 72 = .ok (.iadd, 1) := by decide +kernel
theorem dc_27_73 : decode (ax_code 27) 73 = .ok (.aaload, 1) := by decide +kernel
theorem dc_27_74 : decode (ax_code 27) 74 = .ok (.iload 4, 2) := by decide +kernel
theorem dc_27_76 : decode (ax_code 27) 76 = .ok (.iload 5, 2) := by decide +kernel
theorem dc_27_78 : decode (ax_code 27) 78 = .ok (.iastore, 1) := by decide +kernel
theorem dc_27_79 : decode (ax_code 27) 79 = .ok (.iinc 4 1, 3) := by decide +kernel
theorem dc_27_82 : decode (ax_code 27) 82 = .ok (.goto (-72), 3) := by decide +kernel
theorem dc_27_85 : decode (ax_code 27) 85 = .ok (.aload_n 0, 1) := by decide +kernel
theorem dc_27_86 : decode (ax_code 27) 86 = .ok (.getfield 36, 3) := by decide +kernel
theorem dc_27_89 : decode (ax_code 27) 89 = .ok (.iload_n 2, 1) := by decide +kernel
theorem dc_27_90 : decode (ax_code 27) 90 = .ok (.iconst 1, 1) := by decide +kernel
theorem dc_27_91 : decode (ax_code 27) 91 = .ok (.iadd, 1) := by decide +kernel
theorem dc_27_92 : decode (ax_code 27) 92 = .ok (.aaload, 1) := by decide +kernel
theorem dc_27_93 : decode (ax_code 27) 93 = .ok (.iload_n 2, 1) := by decide +kernel
theorem dc_27_94 : decode (ax_code 27) 94 = .ok (.aload_n 1, 1) := by decide +kernel
theorem dc_27_95 : decode (ax_code 27) 95 = .ok (.getfield 71, 3) := by decide +kernel
theorem dc_27_98 : decode (ax_code 27) 98 = .ok (.invokevirtual 121, 3) := by decide +kernel
theorem dc_27_101 : decode (ax_code 27) 101 = .ok (.ifCond .eq 7, 3) := by decide +kernel
theorem dc_27_104 : decode (ax_code 27) 104 = .ok (.iload_n 3, 1) := by decide +kernel
theorem dc_27_105 : decode (ax_code 27) 105 = .ok (.goto 5, 3) := by decide +kernel
theorem dc_27_108 : decode (ax_code 27) 108 = .ok (.bipush 7, 2) := by decide +kernel
theorem dc_27_110 : decode (ax_code 27) 110 = .ok (.iastore, 1) := by decide +kernel
theorem dc_27_111 : decode (ax_code 27) 111 = .ok (.return_, 1) := by decide +kernel
theorem dc_28_0 : decode (ax_code 28) 0 = .ok (.aload_n 0, 1) := by decide +kernel
theorem dc_28_1 : decode (ax_code 28) 1 = .ok (.getstatic 3, 3) := by decide +kernel
theorem dc_28_4 : decode (ax_code 28) 4 = .ok (.if_acmp .eq 17, 3) := by decide +kernel
theorem dc_28_7 : decode (ax_code 28) 7 = .ok (.aload_n 0, 1) := by decide +kernel
theorem dc_28_8 : decode (ax_code 28) 8 = .ok (.getstatic 13, 3) := by decide +kernel
theorem dc_28_11 : decode (ax_code 28) 11 = .ok (.if_acmp .eq 10, 3) := by decide +kernel
theorem dc_28_14 : decode (ax_code 28) 14 = .ok (.aload_n 0, 1) := by decide +kernel
theorem dc_28_15 : decode (ax_code 28) 15 = .ok (.getstatic 25, 3) := by decide +kernel
theorem dc_28_18 : decode (ax_code 28) 18 = .ok (.if_acmp .ne 7, 3) := by decide +kernel
theorem dc_28_21 : decode (ax_code 28) 21 = .ok (.iconst 1, 1) := by decide +kernel
theorem dc_28_22 : decode (ax_code 28) 22 = .ok (.goto 4, 3) := by decide +kernel
theorem dc_28_25 : decode (ax_code 28) 25 = .ok (.iconst 0, 1) := by decide +kernel
theorem dc_28_26 : decode (ax_code 28) 26 = .ok (.ireturn, 1) := by decide +kernel
theorem dc_29_0 : decode (ax_code 29) 0 = .ok (.aload_n 0, 1) := by decide +kernel
theorem dc_29_1 : decode (ax_code 29) 1 = .ok (.getfield 10, 3) := by decide +kernel
theorem dc_29_4 : decode (ax_code 29) 4 = .ok (.getfield 77, 3) := by decide +kernel
theorem dc_29_7 : decode (ax_code 29) 7 = .ok (.iload_n 1, 1) := by decide +kernel
theorem dc_29_8 : decode (ax_code 29) 8 = .ok (.invokevirtual 120, 3) := by decide +kernel
theorem dc_29_11 : decode (ax_code 29) 11 = .ok (.astore_n 3, 1) := by decide +kernel
theorem dc_29_12 : decode (ax_code 29) 12 = .ok (.aload_n 3, 1) := by decide +kernel
theorem dc_29_13 : decode (ax_code 29) 13 = .ok (.ifnonnull 6, 3) := by decide +kernel
theorem dc_29_16 : decode (ax_code 29) 16 = .ok (.bipush (-2), 2) := by decide +kernel
theorem dc_29_18 : decode (ax_code 29) 18 = .ok (.ireturn, 1) := by decide +kernel
theorem dc_29_19 : decode (ax_code 29) 19 = .ok (.iload_n 2, 1) := by decide +kernel
theorem dc_29_20 : decode (ax_code 29) 20 = .ok (.tableswitch 74 0 3 #[32, 40, 45, 50], 32) := by decide +kernel
theorem dc_29_52 : decode (ax_code 29) 52 = .ok (.aload_n 3, 1) := by decide +kernel
theorem dc_29_53 : decode (ax_code 29) 53 = .ok (.getfield 124, 3) := by decide +kernel
theorem dc_29_56 : decode (ax_code 29) 56 = .ok (.getfield 128, 3) := by decide +kernel
theorem dc_29_59 : decode (ax_code 29) 59 = .ok (.ireturn, 1) := by decide +kernel
theorem dc_29_60 : decode (ax_code 29) 60 = .ok (.aload_n 3, 1) := by decide +kernel
theorem dc_29_61 : decode (ax_code 29) 61 = .ok (.getfield 133, 3) := by decide +kernel
theorem dc_29_64 : decode (ax_code 29) 64 = .ok (.ireturn, 1) := by decide +kernel
theorem dc_29_65 : decode (ax_code 29) 65 = .ok (.aload_n 3, 1) := by decide +kernel
theorem dc_29_66 : decode (ax_code 29) 66 = .ok (.getfield 136, 3) := by decide +kernel
theorem dc_29_69 : decode (ax_code 29) 69 = .ok (.ireturn, 1) := by decide +kernel
theorem dc_29_70 : decode (ax_code 29) 70 = .ok (.aload_n 0, 1) := by decide +kernel
theorem dc_29_71 : decode (ax_code 29) 71 = .ok (.getfield 10, 3) := by decide +kernel
theorem dc_29_74 : decode (ax_code 29) 74 = .ok (.getfield 77, 3) := by decide +kernel
theorem dc_29_77 : decode (ax_code 29) 77 = .ok (.getfield 139, 3) := by decide +kernel
theorem dc_29_80 : decode (ax_code 29) 80 = .ok (.aload_n 0, 1) := by decide +kernel
theorem dc_29_81 : decode (ax_code 29) 81 = .ok (.getfield 10, 3) := by decide +kernel
theorem dc_29_84 : decode (ax_code 29) 84 = .ok (.getfield 77, 3) := by decide +kernel
theorem dc_29_87 : decode (ax_code 29) 87 = .ok (.getfield 117, 3) := by decide +kernel
theorem dc_29_90 : decode (ax_code 29) 90 = .ok (.aaload, 1) := by decide +kernel
theorem dc_29_91 : decode (ax_code 29) 91 = .ok (.iload_n 1, 1) := by decide +kernel
theorem dc_29_92 : decode (ax_code 29) 92 = .ok (.iaload, 1) := by decide +kernel
theorem dc_29_93 : decode (ax_code 29) 93 = .ok (.ireturn, 1) := by decide +kernel
theorem dc_29_94 : decode (ax_code 29) 94 = .ok (.bipush (-2), 2) := by decide +kernel
theorem dc_29_96 : decode (ax_code 29) 96 = .ok (.ireturn, 1) := by decide +kernel
theorem dc_30_0 : decode (ax_code 30) 0 = .ok (.aload_n 0, 1) := by decide +kernel
theorem dc_30_1 : decode (ax_code 30) 1 = .ok (.iload_n 1, 1) := by decide +kernel
theorem dc_30_2 : decode (ax_code 30) 2 = .ok (.iload_n 2, 1) := by decide +kernel
theorem dc_30_3 : decode (ax_code 30) 3 = .ok (.invokevirtual 143, 3) := by decide +kernel
theorem dc_30_6 : decode (ax_code 30) 6 = .ok (.ifCond .ne 6, 3) := by decide +kernel
theorem dc_30_9 : decode (ax_code 30) 9 = .ok (.bipush (-2), 2) := by decide +kernel
theorem dc_30_11 : decode (ax_code 30) 11 = .ok (.ireturn, 1) := by decide +kernel
theorem dc_30_12 : decode (ax_code 30) 12 = .ok (.aload_n 0, 1) := by decide +kernel
theorem dc_30_13 : decode (ax_code 30) 13 = .ok (.getfield 10, 3) := by decide +kernel
theorem dc_30_16 : decode (ax_code 30) 16 = .ok (.getfield 77, 3) := by decide +kernel
theorem dc_30_19 : decode (ax_code 30) 19 = .ok (.getfield 139, 3) := by decide +kernel
theorem dc_30_22 : decode (ax_code 30) 22 = .ok (.iload_n 2, 1) := by decide +kernel
theorem dc_30_23 : decode (ax_code 30) 23 = .ok (.aaload, 1) := by decide +kernel
theorem dc_30_24 : decode (ax_code 30) 24 = .ok (.iload_n 1, 1) := by decide +kernel
theorem dc_30_25 : decode (ax_code 30) 25 = .ok (.iaload, 1) := by decide +kernel
theorem dc_30_26 : decode (ax_code 30) 26 = .ok (.ireturn, 1) := by decide +kernel
theorem dc_31_0 : decode (ax_code 31) 0 = .ok (.aload_n 0, 1) := by decide +kernel
theorem dc_31_1 : decode (ax_code 31) 1 = .ok (.iload_n 2, 1) := by decide +kernel
theorem dc_31_2 : decode (ax_code 31) 2 = .ok (.invokevirtual 147, 3) := by decide +kernel
theorem dc_31_5 : decode (ax_code 31) 5 = .ok (.ifCond .eq 16, 3) := by decide +kernel
theorem dc_31_8 : decode (ax_code 31) 8 = .ok (.iload_n 1, 1) := by decide +kernel
theorem dc_31_9 : decode (ax_code 31) 9 = .ok (.ifCond .lt 12, 3) := by decide +kernel
theorem dc_31_12 : decode (ax_code 31) 12 = .ok (.iload_n 1, 1) := by decide +kernel
theorem dc_31_13 : decode (ax_code 31) 13 = .ok (.iload_n 2, 1) := by decide +kernel
theorem dc_31_14 : decode (ax_code 31) 14 = .ok (.if_icmp .ge 7, 3) := by decide +kernel
theorem dc_31_17 : decode (ax_code 31) 17 = .ok (.iconst 1, 1) := by decide +kernel
theorem dc_31_18 : decode (ax_code 31) 18 = .ok (.goto 4, 3) := by decide +kernel
theorem dc_31_21 : decode (ax_code 31) 21 = .ok (.iconst 0, 1) := by decide +kernel
theorem dc_31_22 : decode (ax_code 31) 22 = .ok (.ireturn, 1) := by decide +kernel
theorem dc_32_0 : decode (ax_code 32) 0 = .ok (.iload_n 1, 1) := by decide +kernel
theorem dc_32_1 : decode (ax_code 32) 1 = .ok (.ifCond .lt 21, 3) := by decide +kernel
theorem dc_32_4 : decode (ax_code 32) 4 = .ok (.iload_n 1, 1) := by decide +kernel
theorem dc_32_5 : decode (ax_code 32) 5 = .ok (.aload_n 0, 1) := by decide +kernel
theorem dc_32_6 : decode (ax_code 32) 6 = .ok (.getfield 10, 3) := by decide +kernel
theorem dc_32_9 : decode (ax_code 32) 9 = .ok (.getfield 77, 3) := by decide +kernel
theorem dc_32_12 : decode (ax_code 32) 12 = .ok (.getfield 117, 3) := by decide +kernel
theorem dc_32_15 : decode (ax_code 32) 15 = .ok (.if_icmp .gt 7, 3) := by decide +kernel
theorem dc_32_18 : decode (ax_code 32) 18 = .ok (.iconst 1, 1) := by decide +kernel
theorem dc_32_19 : decode (ax_code 32) 19 = .ok (.goto 4, 3) := by decide +kernel
theorem dc_32_22 : decode (ax_code 32) 22 = .ok (.iconst 0, 1) := by decide +kernel
theorem dc_32_23 : decode (ax_code 32) 23 = .ok (.ireturn, 1) := by decide +kernel
theorem dc_33_0 : decode (ax_code 33) 0 = .ok (.aload_n 0, 1) := by decide +kernel
theorem dc_33_1 : decode (ax_code 33) 1 = .ok (.getfield 10, 3) := by decide +kernel
theorem dc_33_4 : decode (ax_code 33) 4 = .ok (.getfield 77, 3) := by decide +kernel
theorem dc_33_7 : decode (ax_code 33) 7 = .ok (.getfield 117, 3) := by decide +kernel
theorem dc_33_10 : decode (ax_code 33) 10 = .ok (.ifCond .ne 6, 3) := by decide +kernel
theorem dc_33_13 : decode (ax_code 33) 13 = .ok (.bipush (-3), 2) := by decide +kernel
theorem dc_33_15 : decode (ax_code 33) 15 = .ok (.ireturn, 1) := by decide +kernel
theorem dc_33_16 : decode (ax_code 33) 16 = .ok (.aload_n 0, 1) := by decide +kernel
theorem dc_33_17 : decode (ax_code 33) 17 = .ok (.getfield 10, 3) := by decide +kernel
theorem dc_33_20 : decode (ax_code 33) 20 = .ok (.getfield 77, 3) := by decide +kernel
theorem dc_33_23 : decode (ax_code 33) 23 = .ok (.dup, 1) := by decide +kernel
theorem dc_33_24 : decode (ax_code 33) 24 = .ok (.getfield 117, 3) := by decide +kernel
theorem dc_33_27 : decode (ax_code 33) 27 = .ok (.iconst 1, 1) := by decide +kernel
theorem dc_33_28 : decode (ax_code 33) 28 = .ok (.isub, 1) := by decide +kernel
theorem dc_33_29 : decode (ax_code 33) 29 = .ok (.putfield 117, 3) := by decide +kernel
theorem dc_33_32 : decode (ax_code 33) 32 = .ok (.aload_n 0, 1) := by decide +kernel
theorem dc_33_33 : decode (ax_code 33) 33 = .ok (.getfield 10, 3) := by decide +kernel
theorem dc_33_36 : decode (ax_code 33) 36 = .ok (.getfield 77, 3) := by decide +kernel
theorem dc_33_39 : decode (ax_code 33) 39 = .ok (.getfield 117, 3) := by decide +kernel
theorem dc_33_42 : decode (ax_code 33) 42 = .ok (.ireturn, 1) := by decide +kernel
theorem dc_34_0 : decode (ax_code 34) 0 = .ok (.aload_n 0, 1) := by decide +kernel
theorem dc_34_1 : decode (ax_code 34) 1 = .ok (.iload_n 1, 1) := by decide +kernel
theorem dc_34_2 : decode (ax_code 34) 2 = .ok (.invokevirtual 147, 3) := by decide +kernel
theorem dc_34_5 : decode (ax_code 34) 5 = .ok (.ifCond .ne 6, 3) := by decide +kernel
theorem dc_34_8 : decode (ax_code 34) 8 = .ok (.bipush (-2), 2) := by decide +kernel
theorem dc_34_10 : decode (ax_code 34) 10 = .ok (.ireturn, 1) := by decide +kernel
theorem dc_34_11 : decode (ax_code 34) 11 = .ok (.aload_n 0, 1) := by decide +kernel
theorem dc_34_12 : decode (ax_code 34) 12 = .ok (.getfield 10, 3) := by decide +kernel
theorem dc_34_15 : decode (ax_code 34) 15 = .ok (.getfield 77, 3) := by decide +kernel
theorem dc_34_18 : decode (ax_code 34) 18 = .ok (.getfield 151, 3) := by decide +kernel
theorem dc_34_21 : decode (ax_code 34) 21 = .ok (.iload_n 1, 1) := by decide +kernel
theorem dc_34_22 : decode (ax_code 34) 22 = .ok (.iaload, 1) := by decide +kernel
theorem dc_34_23 : decode (ax_code 34) 23 = .ok (.ireturn, 1) := by decide +kernel
theorem dc_35_0 : decode (ax_code 35) 0 = .ok (.aload_n 0, 1) := by decide +kernel
theorem dc_35_1 : decode (ax_code 35) 1 = .ok (.iload_n 1, 1) := by decide +kernel
theorem dc_35_2 : decode (ax_code 35) 2 = .ok (.invokevirtual 154, 3) := by decide +kernel
theorem dc_35_5 : decode (ax_code 35) 5 = .ok (.ifCond .eq 21, 3) := by decide +kernel
theorem dc_35_8 : decode (ax_code 35) 8 = .ok (.aload_n 0, 1) := by decide +kernel
theorem dc_35_9 : decode (ax_code 35) 9 = .ok (.iload_n 2, 1) := by decide +kernel
theorem dc_35_10 : decode (ax_code 35) 10 = .ok (.aload_n 0, 1) := by decide +kernel
theorem dc_35_11 : decode (ax_code 35) 11 = .ok (.getfield 10, 3) := by decide +kernel
theorem dc_35_14 : decode (ax_code 35) 14 = .ok (.getfield 77, 3) := by decide +kernel
theorem dc_35_17 : decode (ax_code 35) 17 = .ok (.getfield 117, 3) := by decide +kernel
theorem dc_35_20 : decode (ax_code 35) 20 = .ok (.invokevirtual 143, 3) := by decide +kernel
theorem dc_35_23 : decode (ax_code 35) 23 = .ok (.ifCond .ne 6, 3) := by decide +kernel
theorem dc_35_26 : decode (ax_code 35) 26 = .ok (.bipush (-2), 2) := by decide +kernel
theorem dc_35_28 : decode (ax_code 35) 28 = .ok (.ireturn, 1) := by decide +kernel
theorem dc_35_29 : decode (ax_code 35) 29 = .ok (.aload_n 0, 1) := by decide +kernel
theorem dc_35_30 : decode (ax_code 35) 30 = .ok (.getfield 10, 3) := by decide +kernel
theorem dc_35_33 : decode (ax_code 35) 33 = .ok (.getfield 77, 3) := by decide +kernel
theorem dc_35_36 : decode (ax_code 35) 36 = .ok (.iload_n 1, 1) := by decide +kernel
theorem dc_35_37 : decode (ax_code 35) 37 = .ok (.aload_n 0, 1) := by decide +kernel
theorem dc_35_38 : decode (ax_code 35) 38 = .ok (.getfield 10, 3) := by decide +kernel
theorem dc_35_41 : decode (ax_code 35) 41 = .ok (.getfield 77, 3) := by decide +kernel
theorem dc_35_44 : decode (ax_code 35) 44 = .ok (.getfield 117, 3) := by decide +kernel
theorem dc_35_47 : decode (ax_code 35) 47 = .ok (.invokevirtual 157, 3) := by decide +kernel
theorem dc_35_50 : decode (ax_code 35) 50 = .ok (.aload_n 0, 1) := by decide +kernel
theorem dc_35_51 : decode (ax_code 35) 51 = .ok (.getfield 10, 3) := by decide +kernel
theorem dc_35_54 : decode (ax_code 35) 54 = .ok (.getfield 77, 3) := by decide +kernel
theorem dc_35_57 : decode (ax_code 35) 57 = .ok (.getfield 161, 3) := by decide +kernel
theorem dc_35_60 : decode (ax_code 35) 60 = .ok (.iload_n 2, 1) := by decide +kernel
theorem dc_35_61 : decode (ax_code 35) 61 = .ok (.iaload, 1) := by decide +kernel
theorem dc_35_62 : decode (ax_code 35) 62 = .ok (.ireturn, 1) := by decide +kernel
theorem dc_36_0 : decode (ax_code 36) 0 = .ok (.iload_n 1, 1) := by decide +kernel
theorem dc_36_1 : decode (ax_code 36) 1 = .ok (.ifCond .lt 32, 3) := by decide +kernel
theorem dc_36_4 : decode (ax_code 36) 4 = .ok (.iload_n 1, 1) := by decide +kernel
theorem dc_36_5 : decode (ax_code 36) 5 = .ok (.aload_n 0, 1) := by decide +kernel
theorem dc_36_6 : decode (ax_code 36) 6 = .ok (.getfield 10, 3) := by decide +kernel
theorem dc_36_9 : decode (ax_code 36) 9 = .ok (.getfield 77, 3) := by decide +kernel
theorem dc_36_12 : decode (ax_code 36) 12 = .ok (.getfield 151, 3) := by decide +kernel
theorem dc_36_15 : decode (ax_code 36) 15 = .ok (.aload_n 0, 1) := by decide +kernel
theorem dc_36_16 : decode (ax_code 36) 16 = .ok (.getfield 10, 3) := by decide +kernel
theorem dc_36_19 : decode (ax_code 36) 19 = .ok (.getfield 77, 3) := by decide +kernel
theorem dc_36_22 : decode (ax_code 36) 22 = .ok (.getfield 117, 3) := by decide +kernel
theorem dc_36_25 : decode (ax_code 36) 25 = .ok (.iaload, 1) := by decide +kernel
theorem dc_36_26 : decode (ax_code 36) 26 = .ok (.if_icmp .ge 7, 3) := by decide +kernel
theorem dc_36_29 : decode (ax_code 36) 29 = .ok (.iconst 1, 1) := by decide +kernel
theorem dc_36_30 : decode (ax_code 36) 30 = .ok (.goto 4, 3) := by decide +kernel
theorem dc_36_33 : decode (ax_code 36) 33 = .ok (.iconst 0, 1) := by decide +kernel
theorem dc_36_34 : decode (ax_code 36) 34 = .ok (.ireturn, 1) := by decide +kernel
theorem dc_37_0 : decode (ax_code 37) 0 = .ok (.aload_n 0, 1) := by decide +kernel
theorem dc_37_1 : decode (ax_code 37) 1 = .ok (.iload_n 1, 1) := by decide +kernel
theorem dc_37_2 : decode (ax_code 37) 2 = .ok (.invokevirtual 154, 3) := by decide +kernel
theorem dc_37_5 : decode (ax_code 37) 5 = .ok (.ifCond .eq 10, 3) := by decide +kernel
theorem dc_37_8 : decode (ax_code 37) 8 = .ok (.iload_n 2, 1) := by decide +kernel
theorem dc_37_9 : decode (ax_code 37) 9 = .ok (.invokestatic 164, 3) := by decide +kernel
theorem dc_37_12 : decode (ax_code 37) 12 = .ok (.ifCond .ne 7, 3) := by decide +kernel
theorem dc_37_15 : decode (ax_code 37) 15 = .ok (.ldc2_w 167, 3) := by decide +kernel
theorem dc_37_18 : decode (ax_code 37) 18 = .ok (.lreturn, 1) := by decide +kernel
theorem dc_37_19 : decode (ax_code 37) 19 = .ok (.iload_n 2, 1) := by decide +kernel
theorem dc_37_20 : decode (ax_code 37) 20 = .ok (.ifCond .ne 7, 3) := by decide +kernel
theorem dc_37_23 : decode (ax_code 37) 23 = .ok (.lconst 1, 1) := by decide +kernel
theorem dc_37_24 : decode (ax_code 37) 24 = .ok (.goto 24, 3) := by decide +kernel
theorem dc_37_27 : decode (ax_code 37) 27 = .ok (.aload_n 0, 1) := by decide +kernel
theorem dc_37_28 : decode (ax_code 37) 28 = .ok (.getfield 10, 3) := by decide +kernel
theorem dc_37_31 : decode (ax_code 37) 31 = .ok (.getfield 77, 3) := by decide +kernel
theorem dc_37_34 : decode (ax_code 37) 34 = .ok (.aload_n 0, 1) := by decide +kernel
theorem dc_37_35 : decode (ax_code 37) 35 = .ok (.getfield 10, 3) := by decide +kernel
theorem dc_37_38 : decode (ax_code 37) 38 = .ok (.getfield 77, 3) := by decide +kernel
theorem dc_37_41 : decode (ax_code 37) 41 = .ok (.getfield 117, 3) := by decide +kernel
theorem dc_37_44 : decode (ax_code 37) 44 = .ok (.invokevirtual 169, 3) := by decide +kernel
theorem dc_37_47 : decode (ax_code 37) 47 = .ok (.i2l, 1) := by decide +kernel
theorem dc_37_48 : decode (ax_code 37) 48 = .ok (.lreturn, 1) := by decide +kernel
theorem dc_38_0 : decode (ax_code 38) 0 = .ok (.iload_n 0, 1) := by decide +kernel
theorem dc_38_1 : decode (ax_code 38) 1 = .ok (.ifCond .eq 8, 3) := by decide +kernel
theorem dc_38_4 : decode (ax_code 38) 4 = .ok (.iload_n 0, 1) := by decide +kernel
theorem dc_38_5 : decode (ax_code 38) 5 = .ok (.iconst 1, 1) := by decide +kernel
theorem dc_38_6 : decode (ax_code 38) 6 = .ok (.if_icmp .ne 7, 3) := by decide +kernel
theorem dc_38_9 : decode (ax_code 38) 9 = .ok (.iconst 1, 1) := by decide +kernel
theorem dc_38_10 : decode (ax_code 38) 10 = .ok (.goto 4, 3) := by decide +kernel
theorem dc_38_13 : decode (ax_code 38) 13 = .ok (.iconst 0, 1) := by decide +kernel
theorem dc_38_14 : decode (ax_code 38) 14 = .ok (.ireturn, 1) := by decide +kernel
theorem dc_39_0 : decode (ax_code 39) 0 = .ok (.iconst 1, 1) := by decide +kernel
theorem dc_39_1 : decode (ax_code 39) 1 = .ok (.istore_n 2, 1) := by decide +kernel
theorem dc_39_2 : decode (ax_code 39) 2 = .ok (.iconst 0, 1) := by decide +kernel
theorem dc_39_3 : decode (ax_code 39) 3 = .ok (.istore_n 3, 1) := by decide +kernel
theorem dc_39_4 : decode (ax_code 39) 4 = .ok (.iload_n 3, 1) := by decide +kernel
theorem dc_39_5 : decode (ax_code 39) 5 = .ok (.iload_n 1, 1) := by decide +kernel
theorem dc_39_6 : decode (ax_code 39) 6 = .ok (.if_icmp .ge 26, 3) := by decide +kernel
theorem dc_39_9 : decode (ax_code 39) 9 = .ok (.aload_n 0, 1) := by decide +kernel
theorem dc_39_10 : decode (ax_code 39) 10 = .ok (.iload_n 3, 1) := by decide +kernel
theorem dc_39_11 : decode (ax_code 39) 11 = .ok (.invokevirtual 131, 3) := by decide +kernel
theorem dc_39_14 : decode (ax_code 39) 14 = .ok (.ifCond .eq 12, 3) := by decide +kernel
theorem dc_39_17 : decode (ax_code 39) 17 = .ok (.iload_n 2, 1) := by decide +kernel
theorem dc_39_18 : decode (ax_code 39) 18 = .ok (.aload_n 0, 1) := by decide +kernel
theorem dc_39_19 : decode (ax_code 39) 19 = .ok (.getfield 28, 3) := by decide +kernel
theorem dc_39_22 : decode (ax_code 39) 22 = .ok (.iload_n 3, 1) := by decide +kernel
theorem dc_39_23 : decode (ax_code 39) 23 = .ok (.iaload, 1) := by decide +kernel
theorem dc_39_24 : decode (ax_code 39) 24 = .ok (.imul, 1) := by decide +kernel
theorem dc_39_25 : decode (ax_code 39) 25 = .ok (.istore_n 2, 1) := by decide +kernel
theorem dc_39_26 : decode (ax_code 39) 26 = .ok (.iinc 3 1, 3) := by decide +kernel
theorem dc_39_29 : decode (ax_code 39) 29 = .ok (.goto (-25), 3) := by decide +kernel
theorem dc_39_32 : decode (ax_code 39) 32 = .ok (.iload_n 2, 1) := by decide +kernel
theorem dc_39_33 : decode (ax_code 39) 33 = .ok (.ireturn, 1) := by decide +kernel
theorem dc_40_0 : decode (ax_code 40) 0 = .ok (.aload_n 0, 1) := by decide +kernel
theorem dc_40_1 : decode (ax_code 40) 1 = .ok (.iload_n 1, 1) := by decide +kernel
theorem dc_40_2 : decode (ax_code 40) 2 = .ok (.invokevirtual 67, 3) := by decide +kernel
theorem dc_40_5 : decode (ax_code 40) 5 = .ok (.astore_n 2, 1) := by decide +kernel
theorem dc_40_6 : decode (ax_code 40) 6 = .ok (.aload_n 2, 1) := by decide +kernel
theorem dc_40_7 : decode (ax_code 40) 7 = .ok (.ifnull 17, 3) := by decide +kernel
theorem dc_40_10 : decode (ax_code 40) 10 = .ok (.aload_n 2, 1) := by decide +kernel
theorem dc_40_11 : decode (ax_code 40) 11 = .ok (.getfield 71, 3) := by decide +kernel
theorem dc_40_14 : decode (ax_code 40) 14 = .ok (.invokevirtual 75, 3) := by decide +kernel
theorem dc_40_17 : decode (ax_code 40) 17 = .ok (.ifCond .eq 7, 3) := by decide +kernel
theorem dc_40_20 : decode (ax_code 40) 20 = .ok (.iconst 1, 1) := by decide +kernel
theorem dc_40_21 : decode (ax_code 40) 21 = .ok (.goto 4, 3) := by decide +kernel
theorem dc_40_24 : decode (ax_code 40) 24 = .ok (.iconst 0, 1) := by decide +kernel
theorem dc_40_25 : decode (ax_code 40) 25 = .ok (.ireturn, 1) := by decide +kernel
theorem dc_41_0 : decode (ax_code 41) 0 = .ok (.aload_n 0, 1) := by decide +kernel
theorem dc_41_1 : decode (ax_code 41) 1 = .ok (.invokevirtual 62, 3) := by decide +kernel
theorem dc_41_4 : decode (ax_code 41) 4 = .ok (.ifCond .ne 17, 3) := by decide +kernel
theorem dc_41_7 : decode (ax_code 41) 7 = .ok (.aload_n 0, 1) := by decide +kernel
theorem dc_41_8 : decode (ax_code 41) 8 = .ok (.getstatic 22, 3) := by decide +kernel
theorem dc_41_11 : decode (ax_code 41) 11 = .ok (.if_acmp .eq 10, 3) := by decide +kernel
theorem dc_41_14 : decode (ax_code 41) 14 = .ok (.aload_n 0, 1) := by decide +kernel
theorem dc_41_15 : decode (ax_code 41) 15 = .ok (.getstatic 25, 3) := by decide +kernel
theorem dc_41_18 : decode (ax_code 41) 18 = .ok (.if_acmp .ne 7, 3) := by decide +kernel
theorem dc_41_21 : decode (ax_code 41) 21 = .ok (.iconst 1, 1) := by decide +kernel
theorem dc_41_22 : decode (ax_code 41) 22 = .ok (.goto 4, 3) := by decide +kernel
theorem dc_41_25 : decode (ax_code 41) 25 = .ok (.iconst 0, 1) := by decide +kernel
theorem dc_41_26 : decode (ax_code 41) 26 = .ok (.ireturn, 1) := by decide +kernel
theorem dc_42_0 : decode (ax_code 42) 0 = .ok (.iload_n 1, 1) := by decide +kernel
theorem dc_42_1 : decode (ax_code 42) 1 = .ok (.invokestatic 173, 3) := by decide +kernel
theorem dc_42_4 : decode (ax_code 42) 4 = .ok (.ifCond .eq 19, 3) := by decide +kernel
theorem dc_42_7 : decode (ax_code 42) 7 = .ok (.aload_n 0, 1) := by decide +kernel
theorem dc_42_8 : decode (ax_code 42) 8 = .ok (.iload_n 2, 1) := by decide +kernel
theorem dc_42_9 : decode (ax_code 42) 9 = .ok (.invokevirtual 154, 3) := by decide +kernel
theorem dc_42_12 : decode (ax_code 42) 12 = .ok (.ifCond .eq 11, 3) := by decide +kernel
theorem dc_42_15 : decode (ax_code 42) 15 = .ok (.aload_n 0, 1) := by decide +kernel
theorem dc_42_16 : decode (ax_code 42) 16 = .ok (.iload_n 3, 1) := by decide +kernel
theorem dc_42_17 : decode (ax_code 42) 17 = .ok (.invokevirtual 147, 3) := by decide +kernel
theorem dc_42_20 : decode (ax_code 42) 20 = .ok (.ifCond .ne 6, 3) := by decide +kernel
theorem dc_42_23 : decode (ax_code 42) 23 = .ok (.bipush (-2), 2) := by decide +kernel
theorem dc_42_25 : decode (ax_code 42) 25 = .ok (.ireturn, 1) := by decide +kernel
theorem dc_42_26 : decode (ax_code 42) 26 = .ok (.aload_n 0, 1) := by decide +kernel
theorem dc_42_27 : decode (ax_code 42) 27 = .ok (.getfield 10, 3) := by decide +kernel
theorem dc_42_30 : decode (ax_code 42) 30 = .ok (.getfield 77, 3) := by decide +kernel
theorem dc_42_33 : decode (ax_code 42) 33 = .ok (.iload_n 2, 1) := by decide +kernel
theorem dc_42_34 : decode (ax_code 42) 34 = .ok (.aload_n 0, 1) := by decide +kernel
theorem dc_42_35 : decode (ax_code 42) 35 = .ok (.getfield 10, 3) := by decide +kernel
theorem dc_42_38 : decode (ax_code 42) 38 = .ok (.getfield 77, 3) := by decide +kernel
theorem dc_42_41 : decode (ax_code 42) 41 = .ok (.getfield 117, 3) := by decide +kernel
theorem dc_42_44 : decode (ax_code 42) 44 = .ok (.invokevirtual 157, 3) := by decide +kernel
theorem dc_42_47 : decode (ax_code 42) 47 = .ok (.aload_n 0, 1) := by decide +kernel
theorem dc_42_48 : decode (ax_code 42) 48 = .ok (.getfield 10, 3) := by decide +kernel
theorem dc_42_51 : decode (ax_code 42) 51 = .ok (.getfield 77, 3) := by decide +kernel
theorem dc_42_54 : decode (ax_code 42) 54 = .ok (.iload_n 1, 1) := by decide +kernel
theorem dc_42_55 : decode (ax_code 42) 55 = .ok (.iload_n 3, 1) := by decide +kernel
theorem dc_42_56 : decode (ax_code 42) 56 = .ok (.invokevirtual 176, 3) := by decide +kernel
theorem dc_42_59 : decode (ax_code 42) 59 = .ok (.ireturn, 1) := by decide +kernel
theorem dc_43_0 : decode (ax_code 43) 0 = .ok (.iconst 1, 1) := by decide +kernel
theorem dc_43_1 : decode (ax_code 43) 1 = .ok (.istore_n 3, 1) := by decide +kernel
theorem dc_43_2 : decode (ax_code 43) 2 = .ok (.iconst 0, 1) := by decide +kernel
theorem dc_43_3 : decode (ax_code 43) 3 = .ok (.istore 4, 2) := by decide +kernel
theorem dc_43_5 : decode (ax_code 43) 5 = .ok (.iload 4, 2) := by decide +kernel
theorem dc_43_7 : decode (ax_code 43) 7 = .ok (.iload_n 2, 1) := by decide +kernel
theorem dc_43_8 : decode (ax_code 43) 8 = .ok (.if_icmp .ge 56, 3) := by decide +kernel
theorem dc_43_11 : decode (ax_code 43) 11 = .ok (.aload_n 0, 1) := by decide +kernel
theorem dc_43_12 : decode (ax_code 43) 12 = .ok (.getfield 36, 3) := by decide +kernel
theorem dc_43_15 : decode (ax_code 43) 15 = .ok (.iload_n 2, 1) := by decide +kernel
theorem dc_43_16 : decode (ax_code 43) 16 = .ok (.aaload, 1) := by decide +kernel
theorem dc_43_17 : decode (ax_code 43) 17 = .ok (.iload 4, 2) := by decide +kernel
theorem dc_43_19 : decode (ax_code 43) 19 = .ok (.iaload, 1) := by decide +kernel
theorem dc_43_20 : decode (ax_code 43) 20 = .ok (.iload_n 1, 1) := by decide +kernel
theorem dc_43_21 : decode (ax_code 43) 21 = .ok (.ishr, 1) := by decide +kernel
theorem dc_43_22 : decode (ax_code 43) 22 = .ok (.iconst 1, 1) := by decide +kernel
theorem dc_43_23 : decode (ax_code 43) 23 = .ok (.iand, 1) := by decide +kernel
theorem dc_43_24 : decode (ax_code 43) 24 = .ok (.ifCond .eq 7, 3) := by decide +kernel
theorem dc_43_27 : decode (ax_code 43) 27 = .ok (.iconst 1, 1) := by decide +kernel
theorem dc_43_28 : decode (ax_code 43) 28 = .ok (.goto 4, 3) := by decide +kernel
theorem dc_43_31 : decode (ax_code 43) 31 = .ok (.iconst 0, 1) := by decide +kernel
theorem dc_43_32 : decode (ax_code 43) 32 = .ok (.istore 5, 2) := by decide +kernel
theorem dc_43_34 : decode (ax_code 43) 34 = .ok (.bipush 8, 2) := by decide +kernel
theorem dc_43_36 : decode (ax_code 43) 36 = .ok (.iload_n 3, 1) := by decide +kernel
theorem dc_43_37 : decode (ax_code 43) 37 = .ok (.imul, 1) := by decide +kernel
theorem dc_43_38 : decode (ax_code 43) 38 = .ok (.iload 5, 2) := by decide +kernel
theorem dc_43_40 : decode (ax_code 43) 40 = .ok (.ifCond .eq 15, 3) := by decide +kernel
theorem dc_43_43 : decode (ax_code 43) 43 = .ok (.aload_n 0, 1) := by decide +kernel
theorem dc_43_44 : decode (ax_code 43) 44 = .ok (.getfield 42, 3) := by decide +kernel
theorem dc_43_47 : decode (ax_code 43) 47 = .ok (.iload 4, 2) := by decide +kernel
theorem dc_43_49 : decode (ax_code 43) 49 = .ok (.iaload, 1) := by decide +kernel
theorem dc_43_50 : decode (ax_code 43) 50 = .ok (.iconst 1, 1) := by decide +kernel
theorem dc_43_51 : decode (ax_code 43) 51 = .ok (.iadd, 1) := by decide +kernel
theorem dc_43_52 : decode (ax_code 43) 52 = .ok (.goto 4, 3) := by decide +kernel
theorem dc_43_55 : decode (ax_code 43) 55 = .ok (.iconst 0, 1) := by decide +kernel
theorem dc_43_56 : decode (ax_code 43) 56 = .ok (.iadd, 1) := by decide +kernel
theorem dc_43_57 : decode (ax_code 43) 57 = .ok (.istore_n 3, 1) := by decide +kernel
theorem dc_43_58 : decode (ax_code 43) 58 = .ok (.iinc 4 1, 3) := by decide +kernel
theorem dc_43_61 : decode (ax_code 43) 61 = .ok (.goto (-56), 3) := by decide +kernel
theorem dc_43_64 : decode (ax_code 43) 64 = .ok (.iload_n 3, 1) := by decide +kernel
theorem dc_43_65 : decode (ax_code 43) 65 = .ok (.ireturn, 1) := by decide +kernel
theorem dc_44_0 : decode (ax_code 44) 0 = .ok (.iload_n 1, 1) := by decide +kernel
theorem dc_44_1 : decode (ax_code 44) 1 = .ok (.invokestatic 173, 3) := by decide +kernel
theorem dc_44_4 : decode (ax_code 44) 4 = .ok (.ifCond .eq 11, 3) := by decide +kernel
theorem dc_44_7 : decode (ax_code 44) 7 = .ok (.aload_n 0, 1) := by decide +kernel
theorem dc_44_8 : decode (ax_code 44) 8 = .ok (.iload_n 2, 1) := by decide +kernel
theorem dc_44_9 : decode (ax_code 44) 9 = .ok (.invokevirtual 147, 3) := by decide +kernel
theorem dc_44_12 : decode (ax_code 44) 12 = .ok (.ifCond .ne 6, 3) := by decide +kernel
theorem dc_44_15 : decode (ax_code 44) 15 = .ok (.bipush (-2), 2) := by decide +kernel
theorem dc_44_17 : decode (ax_code 44) 17 = .ok (.ireturn, 1) := by decide +kernel
theorem dc_44_18 : decode (ax_code 44) 18 = .ok (.aload_n 0, 1) := by decide +kernel
theorem dc_44_19 : decode (ax_code 44) 19 = .ok (.getfield 10, 3) := by decide +kernel
theorem dc_44_22 : decode (ax_code 44) 22 = .ok (.getfield 77, 3) := by decide +kernel
theorem dc_44_25 : decode (ax_code 44) 25 = .ok (.iload_n 1, 1) := by decide +kernel
theorem dc_44_26 : decode (ax_code 44) 26 = .ok (.iload_n 2, 1) := by decide +kernel
theorem dc_44_27 : decode (ax_code 44) 27 = .ok (.iload_n 3, 1) := by decide +kernel
theorem dc_44_28 : decode (ax_code 44) 28 = .ok (.invokevirtual 180, 3) := by decide +kernel
theorem dc_44_31 : decode (ax_code 44) 31 = .ok (.ireturn, 1) := by decide +kernel
theorem dc_45_0 : decode (ax_code 45) 0 = .ok (.iconst 0, 1) := by decide +kernel
theorem dc_45_1 : decode (ax_code 45) 1 = .ok (.istore 4, 2) := by decide +kernel
theorem dc_45_3 : decode (ax_code 45) 3 = .ok (.iconst 0, 1) := by decide +kernel
theorem dc_45_4 : decode (ax_code 45) 4 = .ok (.istore 5, 2) := by decide +kernel
theorem dc_45_6 : decode (ax_code 45) 6 = .ok (.iload 5, 2) := by decide +kernel
theorem dc_45_8 : decode (ax_code 45) 8 = .ok (.aload_n 0, 1) := by decide +kernel
theorem dc_45_9 : decode (ax_code 45) 9 = .ok (.getfield 31, 3) := by decide +kernel
theorem dc_45_12 : decode (ax_code 45) 12 = .ok (.iload_n 2, 1) := by decide +kernel
theorem dc_45_13 : decode (ax_code 45) 13 = .ok (.iaload, 1) := by decide +kernel
theorem dc_45_14 : decode (ax_code 45) 14 = .ok (.if_icmp .ge 24, 3) := by decide +kernel
theorem dc_45_17 : decode (ax_code 45) 17 = .ok (.aload_n 0, 1) := by decide +kernel
theorem dc_45_18 : decode (ax_code 45) 18 = .ok (.iload_n 1, 1) := by decide +kernel
theorem dc_45_19 : decode (ax_code 45) 19 = .ok (.iload 5, 2) := by decide +kernel
theorem dc_45_21 : decode (ax_code 45) 21 = .ok (.iload_n 2, 1) := by decide +kernel
theorem dc_45_22 : decode (ax_code 45) 22 = .ok (.invokevirtual 127, 3) := by decide +kernel
theorem dc_45_25 : decode (ax_code 45) 25 = .ok (.iload_n 3, 1) := by decide +kernel
theorem dc_45_26 : decode (ax_code 45) 26 = .ok (.if_icmp .ne 6, 3) := by decide +kernel
theorem dc_45_29 : decode (ax_code 45) 29 = .ok (.iinc 4 1, 3) := by decide +kernel
theorem dc_45_32 : decode (ax_code 45) 32 = .ok (.iinc 5 1, 3) := by decide +kernel
theorem dc_45_35 : decode (ax_code 45) 35 = .ok (.goto (-29), 3) := by decide +kernel
theorem dc_45_38 : decode (ax_code 45) 38 = .ok (.iload 4, 2) := by decide +kernel
theorem dc_45_40 : decode (ax_code 45) 40 = .ok (.ireturn, 1) := by decide +kernel
theorem dc_46_0 : decode (ax_code 46) 0 = .ok (.aload_n 0, 1) := by decide +kernel
theorem dc_46_1 : decode (ax_code 46) 1 = .ok (.iload_n 2, 1) := by decide +kernel
theorem dc_46_2 : decode (ax_code 46) 2 = .ok (.iload_n 3, 1) := by decide +kernel
theorem dc_46_3 : decode (ax_code 46) 3 = .ok (.invokevirtual 111, 3) := by decide +kernel
theorem dc_46_6 : decode (ax_code 46) 6 = .ok (.aload_n 0, 1) := by decide +kernel
theorem dc_46_7 : decode (ax_code 46) 7 = .ok (.iload_n 1, 1) := by decide +kernel
theorem dc_46_8 : decode (ax_code 46) 8 = .ok (.iload_n 3, 1) := by decide +kernel
theorem dc_46_9 : decode (ax_code 46) 9 = .ok (.invokevirtual 124, 3) := by decide +kernel
theorem dc_46_12 : decode (ax_code 46) 12 = .ok (.ireturn, 1) := by decide +kernel
theorem dc_47_0 : decode (ax_code 47) 0 = .ok (.iload_n 1, 1) := by decide +kernel
theorem dc_47_1 : decode (ax_code 47) 1 = .ok (.invokestatic 173, 3) := by decide +kernel
theorem dc_47_4 : decode (ax_code 47) 4 = .ok (.ifCond .eq 11, 3) := by decide +kernel
theorem dc_47_7 : decode (ax_code 47) 7 = .ok (.aload_n 0, 1) := by decide +kernel
theorem dc_47_8 : decode (ax_code 47) 8 = .ok (.iload_n 2, 1) := by decide +kernel
theorem dc_47_9 : decode (ax_code 47) 9 = .ok (.invokevirtual 147, 3) := by decide +kernel
theorem dc_47_12 : decode (ax_code 47) 12 = .ok (.ifCond .ne 6, 3) := by decide +kernel
theorem dc_47_15 : decode (ax_code 47) 15 = .ok (.bipush (-2), 2) := by decide +kernel
theorem dc_47_17 : decode (ax_code 47) 17 = .ok (.ireturn, 1) := by decide +kernel
theorem dc_47_18 : decode (ax_code 47) 18 = .ok (.aload_n 0, 1) := by decide +kernel
theorem dc_47_19 : decode (ax_code 47) 19 = .ok (.getfield 10, 3) := by decide +kernel
theorem dc_47_22 : decode (ax_code 47) 22 = .ok (.getfield 77, 3) := by decide +kernel
theorem dc_47_25 : decode (ax_code 47) 25 = .ok (.iload_n 1, 1) := by decide +kernel
theorem dc_47_26 : decode (ax_code 47) 26 = .ok (.iload_n 2, 1) := by decide +kernel
theorem dc_47_27 : decode (ax_code 47) 27 = .ok (.iload_n 3, 1) := by decide +kernel
theorem dc_47_28 : decode (ax_code 47) 28 = .ok (.iload 4, 2) := by decide +kernel
theorem dc_47_30 : decode (ax_code 47) 30 = .ok (.invokevirtual 184, 3) := by decide +kernel
theorem dc_47_33 : decode (ax_code 47) 33 = .ok (.istore 5, 2) := by decide +kernel
theorem dc_47_35 : decode (ax_code 47) 35 = .ok (.iload 5, 2) := by decide +kernel
theorem dc_47_37 : decode (ax_code 47) 37 = .ok (.ifCond .ge 8, 3) := by decide +kernel
theorem dc_47_40 : decode (ax_code 47) 40 = .ok (.bipush (-12), 2) := by decide +kernel
theorem dc_47_42 : decode (ax_code 47) 42 = .ok (.goto 5, 3) := by decide +kernel
theorem dc_47_45 : decode (ax_code 47) 45 = .ok (.iload 5, 2) := by decide +kernel
theorem dc_47_47 : decode (ax_code 47) 47 = .ok (.ireturn, 1) := by decide +kernel
theorem dc_48_0 : decode (ax_code 48) 0 = .ok (.iconst 0, 1) := by decide +kernel
theorem dc_48_1 : decode (ax_code 48) 1 = .ok (.istore 5, 2) := by decide +kernel
theorem dc_48_3 : decode (ax_code 48) 3 = .ok (.iconst 0, 1) := by decide +kernel
theorem dc_48_4 : decode (ax_code 48) 4 = .ok (.istore 6, 2) := by decide +kernel
theorem dc_48_6 : decode (ax_code 48) 6 = .ok (.iload 6, 2) := by decide +kernel
theorem dc_48_8 : decode (ax_code 48) 8 = .ok (.aload_n 0, 1) := by decide +kernel
theorem dc_48_9 : decode (ax_code 48) 9 = .ok (.getfield 31, 3) := by decide +kernel
theorem dc_48_12 : decode (ax_code 48) 12 = .ok (.iload_n 2, 1) := by decide +kernel
theorem dc_48_13 : decode (ax_code 48) 13 = .ok (.iaload, 1) := by decide +kernel
theorem dc_48_14 : decode (ax_code 48) 14 = .ok (.if_icmp .ge 37, 3) := by decide +kernel
theorem dc_48_17 : decode (ax_code 48) 17 = .ok (.aload_n 0, 1) := by decide +kernel
theorem dc_48_18 : decode (ax_code 48) 18 = .ok (.iload_n 1, 1) := by decide +kernel
theorem dc_48_19 : decode (ax_code 48) 19 = .ok (.iload 6, 2) := by decide +kernel
theorem dc_48_21 : decode (ax_code 48) 21 = .ok (.iload_n 2, 1) := by decide +kernel
theorem dc_48_22 : decode (ax_code 48) 22 = .ok (.invokevirtual 127, 3) := by decide +kernel
theorem dc_48_25 : decode (ax_code 48) 25 = .ok (.iload_n 3, 1) := by decide +kernel
theorem dc_48_26 : decode (ax_code 48) 26 = .ok (.if_icmp .eq 6, 3) := by decide +kernel
theorem dc_48_29 : decode (ax_code 48) 29 = .ok (.goto 16, 3) := by decide +kernel
theorem dc_48_32 : decode (ax_code 48) 32 = .ok (.iload 5, 2) := by decide +kernel
theorem dc_48_34 : decode (ax_code 48) 34 = .ok (.iload 4, 2) := by decide +kernel
theorem dc_48_36 : decode (ax_code 48) 36 = .ok (.if_icmp .ne 6, 3) := by decide +kernel
theorem dc_48_39 : decode (ax_code 48) 39 = .ok (.iload 6, 2) := by decide +kernel
theorem dc_48_41 : decode (ax_code 48) 41 = .ok (.ireturn, 1) := by decide +kernel
theorem dc_48_42 : decode (ax_code 48) 42 = .ok (.iinc 5 1, 3) := by decide +kernel
theorem dc_48_45 : decode (ax_code 48) 45 = .ok (.iinc 6 1, 3) := by decide +kernel
theorem dc_48_48 : decode (ax_code 48) 48 = .ok (.goto (-42), 3) := by decide +kernel
theorem dc_48_51 : decode (ax_code 48) 51 = .ok (.iconst (-1), 1) := by decide +kernel
theorem dc_48_52 : decode (ax_code 48) 52 = .ok (.ireturn, 1) := by decide +kernel
theorem dc_49_0 : decode (ax_code 49) 0 = .ok (.iload_n 1, 1) := by decide +kernel
theorem dc_49_1 : decode (ax_code 49) 1 = .ok (.invokestatic 173, 3) := by decide +kernel
theorem dc_49_4 : decode (ax_code 49) 4 = .ok (.ifCond .eq 21, 3) := by decide +kernel
theorem dc_49_7 : decode (ax_code 49) 7 = .ok (.aload_n 0, 1) := by decide +kernel
theorem dc_49_8 : decode (ax_code 49) 8 = .ok (.iload 4, 2) := by decide +kernel
theorem dc_49_10 : decode (ax_code 49) 10 = .ok (.iload_n 2, 1) := by decide +kernel
theorem dc_49_11 : decode (ax_code 49) 11 = .ok (.invokevirtual 143, 3) := by decide +kernel
theorem dc_49_14 : decode (ax_code 49) 14 = .ok (.ifCond .eq 11, 3) := by decide +kernel
theorem dc_49_17 : decode (ax_code 49) 17 = .ok (.iload 6, 2) := by decide +kernel
theorem dc_49_19 : decode (ax_code 49) 19 = .ok (.invokestatic 164, 3) := by decide +kernel
theorem dc_49_22 : decode (ax_code 49) 22 = .ok (.ifCond .ne 7, 3) := by decide +kernel
theorem dc_49_25 : decode (ax_code 49) 25 = .ok (.ldc2_w 167, 3) := by decide +kernel
theorem dc_49_28 : decode (ax_code 49) 28 = .ok (.lreturn, 1) := by decide +kernel
theorem dc_49_29 : decode (ax_code 49) 29 = .ok (.aload_n 0, 1) := by decide +kernel
theorem dc_49_30 : decode (ax_code 49) 30 = .ok (.getfield 33, 3) := by decide +kernel
theorem dc_49_33 : decode (ax_code 49) 33 = .ok (.aload_n 0, 1) := by decide +kernel
theorem dc_49_34 : decode (ax_code 49) 34 = .ok (.getfield 10, 3) := by decide +kernel
theorem dc_49_37 : decode (ax_code 49) 37 = .ok (.iload_n 2, 1) := by decide +kernel
theorem dc_49_38 : decode (ax_code 49) 38 = .ok (.iconst (-1), 1) := by decide +kernel
theorem dc_49_39 : decode (ax_code 49) 39 = .ok (.invokevirtual 188, 3) := by decide +kernel
theorem dc_49_42 : decode (ax_code 49) 42 = .ok (.aload_n 0, 1) := by decide +kernel
theorem dc_49_43 : decode (ax_code 49) 43 = .ok (.getfield 33, 3) := by decide +kernel
theorem dc_49_46 : decode (ax_code 49) 46 = .ok (.aload_n 0, 1) := by decide +kernel
theorem dc_49_47 : decode (ax_code 49) 47 = .ok (.getfield 10, 3) := by decide +kernel
theorem dc_49_50 : decode (ax_code 49) 50 = .ok (.getfield 77, 3) := by decide +kernel
theorem dc_49_53 : decode (ax_code 49) 53 = .ok (.iload_n 1, 1) := by decide +kernel
theorem dc_49_54 : decode (ax_code 49) 54 = .ok (.iload_n 2, 1) := by decide +kernel
theorem dc_49_55 : decode (ax_code 49) 55 = .ok (.iload_n 3, 1) := by decide +kernel
theorem dc_49_56 : decode (ax_code 49) 56 = .ok (.invokevirtual 192, 3) := by decide +kernel
theorem dc_49_59 : decode (ax_code 49) 59 = .ok (.istore 7, 2) := by decide +kernel
theorem dc_49_61 : decode (ax_code 49) 61 = .ok (.iload 7, 2) := by decide +kernel
theorem dc_49_63 : decode (ax_code 49) 63 = .ok (.ifCond .ne 7, 3) := by decide +kernel
theorem dc_49_66 : decode (ax_code 49) 66 = .ok (.ldc2_w 195, 3) := by decide +kernel
theorem dc_49_69 : decode (ax_code 49) 69 = .ok (.lreturn, 1) := by decide +kernel
theorem dc_49_70 : decode (ax_code 49) 70 = .ok (.aload_n 0, 1) := by decide +kernel
theorem dc_49_71 : decode (ax_code 49) 71 = .ok (.getfield 33, 3) := by decide +kernel
theorem dc_49_74 : decode (ax_code 49) 74 = .ok (.aload_n 0, 1) := by decide +kernel
theorem dc_49_75 : decode (ax_code 49) 75 = .ok (.getfield 10, 3) := by decide +kernel
theorem dc_49_78 : decode (ax_code 49) 78 = .ok (.getfield 77, 3) := by decide +kernel
theorem dc_49_81 : decode (ax_code 49) 81 = .ok (.iload_n 1, 1) := by decide +kernel
theorem dc_49_82 : decode (ax_code 49) 82 = .ok (.iload_n 2, 1) := by decide +kernel
theorem dc_49_83 : decode (ax_code 49) 83 = .ok (.iload_n 3, 1) := by decide +kernel
theorem dc_49_84 : decode (ax_code 49) 84 = .ok (.iload 4, 2) := by decide +kernel
theorem dc_49_86 : decode (ax_code 49) 86 = .ok (.iload 5, 2) := by decide +kernel
theorem dc_49_88 : decode (ax_code 49) 88 = .ok (.invokevirtual 197, 3) := by decide +kernel
theorem dc_49_91 : decode (ax_code 49) 91 = .ok (.i2l, 1) := by decide +kernel
theorem dc_49_92 : decode (ax_code 49) 92 = .ok (.iload 7, 2) := by decide +kernel
theorem dc_49_94 : decode (ax_code 49) 94 = .ok (.i2l, 1) := by decide +kernel
theorem dc_49_95 : decode (ax_code 49) 95 = .ok (.iload 6, 2) := by decide +kernel
theorem dc_49_97 : decode (ax_code 49) 97 = .ok (.invokestatic 201, 3) := by decide +kernel
theorem dc_49_100 : decode (ax_code 49) 100 = .ok (.lreturn, 1) := by decide +kernel
theorem dc_50_0 : decode (ax_code 50) 0 = .ok (.aload_n 0, 1) := by decide +kernel
theorem dc_50_1 : decode (ax_code 50) 1 = .ok (.getfield 9, 3) := by decide +kernel
theorem dc_50_4 : decode (ax_code 50) 4 = .ok (.iconst 0, 1) := by decide +kernel
theorem dc_50_5 : decode (ax_code 50) 5 = .ok (.iconst 0, 1) := by decide +kernel
theorem dc_50_6 : decode (ax_code 50) 6 = .ok (.iastore, 1) := by decide +kernel
theorem dc_50_7 : decode (ax_code 50) 7 = .ok (.aload_n 0, 1) := by decide +kernel
theorem dc_50_8 : decode (ax_code 50) 8 = .ok (.iconst 1, 1) := by decide +kernel
theorem dc_50_9 : decode (ax_code 50) 9 = .ok (.putfield 18, 3) := by decide +kernel
theorem dc_50_12 : decode (ax_code 50) 12 = .ok (.iconst 0, 1) := by decide +kernel
theorem dc_50_13 : decode (ax_code 50) 13 = .ok (.istore 4, 2) := by decide +kernel
theorem dc_50_15 : decode (ax_code 50) 15 = .ok (.iload 4, 2) := by decide +kernel
theorem dc_50_17 : decode (ax_code 50) 17 = .ok (.iload_n 2, 1) := by decide +kernel
theorem dc_50_18 : decode (ax_code 50) 18 = .ok (.if_icmp .ge 17, 3) := by decide +kernel
theorem dc_50_21 : decode (ax_code 50) 21 = .ok (.aload_n 0, 1) := by decide +kernel
theorem dc_50_22 : decode (ax_code 50) 22 = .ok (.aload_n 1, 1) := by decide +kernel
theorem dc_50_23 : decode (ax_code 50) 23 = .ok (.iload 4, 2) := by decide +kernel
theorem dc_50_25 : decode (ax_code 50) 25 = .ok (.iload_n 3, 1) := by decide +kernel
theorem dc_50_26 : decode (ax_code 50) 26 = .ok (.invokevirtual 41, 3) := by decide +kernel
theorem dc_50_29 : decode (ax_code 50) 29 = .ok (.iinc 4 1, 3) := by decide +kernel
theorem dc_50_32 : decode (ax_code 50) 32 = .ok (.goto (-17), 3) := by decide +kernel
theorem dc_50_35 : decode (ax_code 50) 35 = .ok (.return_, 1) := by decide +kernel
theorem dc_51_0 : decode (ax_code 51) 0 = .ok (.aload_n 1, 1) := by decide +kernel
theorem dc_51_1 : decode (ax_code 51) 1 = .ok (.getfield 45, 3) := by decide +kernel
theorem dc_51_4 : decode (ax_code 51) 4 = .ok (.iload_n 2, 1) := by decide +kernel
theorem dc_51_5 : decode (ax_code 51) 5 = .ok (.invokevirtual 51, 3) := by decide +kernel
theorem dc_51_8 : decode (ax_code 51) 8 = .ok (.astore 4, 2) := by decide +kernel
theorem dc_51_10 : decode (ax_code 51) 10 = .ok (.aload 4, 2) := by decide +kernel
theorem dc_51_12 : decode (ax_code 51) 12 = .ok (.ifnonnull 4, 3) := by decide +kernel
theorem dc_51_15 : decode (ax_code 51) 15 = .ok (.return_, 1) := by decide +kernel
theorem dc_51_16 : decode (ax_code 51) 16 = .ok (.aload_n 1, 1) := by decide +kernel
theorem dc_51_17 : decode (ax_code 51) 17 = .ok (.getfield 45, 3) := by decide +kernel
theorem dc_51_20 : decode (ax_code 51) 20 = .ok (.getfield 57, 3) := by decide +kernel
theorem dc_51_23 : decode (ax_code 51) 23 = .ok (.iload_n 2, 1) := by decide +kernel
theorem dc_51_24 : decode (ax_code 51) 24 = .ok (.iaload, 1) := by decide +kernel
theorem dc_51_25 : decode (ax_code 51) 25 = .ok (.istore 5, 2) := by decide +kernel
theorem dc_51_27 : decode (ax_code 51) 27 = .ok (.aload 4, 2) := by decide +kernel
theorem dc_51_29 : decode (ax_code 51) 29 = .ok (.getfield 60, 3) := by decide +kernel
theorem dc_51_32 : decode (ax_code 51) 32 = .ok (.invokevirtual 66, 3) := by decide +kernel
theorem dc_51_35 : decode (ax_code 51) 35 = .ok (.ifCond .eq 16, 3) := by decide +kernel
theorem dc_51_38 : decode (ax_code 51) 38 = .ok (.aload 4, 2) := by decide +kernel
theorem dc_51_40 : decode (ax_code 51) 40 = .ok (.getfield 72, 3) := by decide +kernel
theorem dc_51_43 : decode (ax_code 51) 43 = .ok (.iload_n 3, 1) := by decide +kernel
theorem dc_51_44 : decode (ax_code 51) 44 = .ok (.if_icmp .eq 7, 3) := by decide +kernel
theorem dc_51_47 : decode (ax_code 51) 47 = .ok (.iconst 1, 1) := by decide +kernel
theorem dc_51_48 : decode (ax_code 51) 48 = .ok (.goto 4, 3) := by decide +kernel
theorem dc_51_51 : decode (ax_code 51) 51 = .ok (.iconst 0, 1) := by decide +kernel
theorem dc_51_52 : decode (ax_code 51) 52 = .ok (.istore 6, 2) := by decide +kernel
theorem dc_51_54 : decode (ax_code 51) 54 = .ok (.iconst 0, 1) := by decide +kernel
theorem dc_51_55 : decode (ax_code 51) 55 = .ok (.istore 7, 2) := by decide +kernel
theorem dc_51_57 : decode (ax_code 51) 57 = .ok (.iconst 0, 1) := by decide +kernel
theorem dc_51_58 : decode (ax_code 51) 58 = .ok (.istore 8, 2) := by decide +kernel
theorem dc_51_60 : decode (ax_code 51) 60 = .ok (.iload 8, 2) := by decide +kernel
theorem dc_51_62 : decode (ax_code 51) 62 = .ok (.aload_n 0, 1) := by decide +kernel
theorem dc_51_63 : decode (ax_code 51) 63 = .ok (.getfield 18, 3) := by decide +kernel
theorem dc_51_66 : decode (ax_code 51) 66 = .ok (.if_icmp .ge 110, 3) := by decide +kernel
theorem dc_51_69 : decode (ax_code 51) 69 = .ok (.iload 6, 2) := by decide +kernel
theorem dc_51_71 : decode (ax_code 51) 71 = .ok (.ifCond .eq 36, 3) := by decide +kernel
theorem dc_51_74 : decode (ax_code 51) 74 = .ok (.aload_n 1, 1) := by decide +kernel
theorem dc_51_75 : decode (ax_code 51) 75 = .ok (.aload 4, 2) := by decide +kernel
theorem dc_51_77 : decode (ax_code 51) 77 = .ok (.getfield 72, 3) := by decide +kernel
theorem dc_51_80 : decode (ax_code 51) 80 = .ok (.iload_n 2, 1) := by decide +kernel
theorem dc_51_81 : decode (ax_code 51) 81 = .ok (.aload_n 1, 1) := by decide +kernel
theorem dc_51_82 : decode (ax_code 51) 82 = .ok (.getfield 45, 3) := by decide +kernel
theorem dc_51_85 : decode (ax_code 51) 85 = .ok (.aload 4, 2) := by decide +kernel
theorem dc_51_87 : decode (ax_code 51) 87 = .ok (.getfield 72, 3) := by decide +kernel
theorem dc_51_90 : decode (ax_code 51) 90 = .ok (.aload_n 0, 1) := by decide +kernel
theorem dc_51_91 : decode (ax_code 51) 91 = .ok (.getfield 9, 3) := by decide +kernel
theorem dc_51_94 : decode (ax_code 51) 94 = .ok (.iload 8, 2) := by decide +kernel
theorem dc_51_96 : decode (ax_code 51) 96 = .ok (.iaload, 1) := by decide +kernel
theorem dc_51_97 : decode (ax_code 51) 97 = .ok (.iload_n 2, 1) := by decide +kernel
theorem dc_51_98 : decode (ax_code 51) 98 = .ok (.invokevirtual 75, 3) := by decide +kernel
theorem dc_51_101 : decode (ax_code 51) 101 = .ok (.invokevirtual 79, 3) := by decide +kernel
theorem dc_51_104 : decode (ax_code 51) 104 = .ok (.goto 4, 3) := by decide +kernel
theorem dc_51_107 : decode (ax_code 51) 107 = .ok (.iconst (-1), 1) := by decide +kernel
theorem dc_51_108 : decode (ax_code 51) 108 = .ok (.istore 9, 2) := by decide +kernel
theorem dc_51_110 : decode (ax_code 51) 110 = .ok (.iconst 0, 1) := by decide +kernel
theorem dc_51_111 : decode (ax_code 51) 111 = .ok (.istore 10, 2) := by decide +kernel
theorem dc_51_113 : decode (ax_code 51) 113 = .ok (.iload 10, 2) := by decide +kernel
theorem dc_51_115 : decode (ax_code 51) 115 = .ok (.iload 5, 2) := by decide +kernel
theorem dc_51_117 : decode (ax_code 51) 117 = .ok (.if_icmp .ge 53, 3) := by decide +kernel
theorem dc_51_120 : decode (ax_code 51) 120 = .ok (.iload 9, 2) := by decide +kernel
theorem dc_51_122 : decode (ax_code 51) 122 = .ok (.iconst (-1), 1) := by decide +kernel
theorem dc_51_123 : decode (ax_code 51) 123 = .ok (.if_icmp .eq 10, 3) := by decide +kernel
theorem dc_51_126 : decode (ax_code 51) 126 = .ok (.iload 9, 2) := by decide +kernel
theorem dc_51_128 : decode (ax_code 51) 128 = .ok (.iload 10, 2) := by decide +kernel
theorem dc_51_130 : decode (ax_code 51) 130 = .ok (.if_icmp .ne 34, 3) := by decide +kernel
theorem dc_51_133 : decode (ax_code 51) 133 = .ok (.iload 7, 2) := by decide +kernel
theorem dc_51_135 : decode (ax_code 51) 135 = .ok (.sipush 1620, 3) := by decide +kernel
theorem dc_51_138 : decode (ax_code 51) 138 = .ok (.if_icmp .ge 26, 3) := by decide +kernel
theorem dc_51_141 : decode (ax_code 51) 141 = .ok (.aload_n 0, 1) := by decide +kernel
theorem dc_51_142 : decode (ax_code 51) 142 = .ok (.getfield 15, 3) := by decide +kernel
theorem dc_51_145 : decode (ax_code 51) 145 = .ok (.iload 7, 2) := by decide +kernel
theorem dc_51_147 : decode (ax_code 51) 147 = .ok (.iinc 7 1, 3) := by decide +kernel
theorem dc_51_150 : decode (ax_code 51) 150 = .ok (.aload_n 0, 1) := by decide +kernel
theorem dc_51_151 : decode (ax_code 51) 151 = .ok (.getfield 9, 3) := by decide +kernel
theorem dc_51_154 : decode (ax_code 51) 154 = .ok (.iload 8, 2) := by decide +kernel
theorem dc_51_156 : decode (ax_code 51) 156 = .ok (.iaload, 1) := by decide +kernel
theorem dc_51_157 : decode (ax_code 51) 157 = .ok (.iload 5, 2) := by decide +kernel
theorem dc_51_159 : decode (ax_code 51) 159 = .ok (.imul, 1) := by decide +kernel
theorem dc_51_160 : decode (ax_code 51) 160 = .ok (.iload 10, 2) := by decide +kernel
theorem dc_51_162 : decode (ax_code 51) 162 = .ok (.iadd, 1) := by decide +kernel
theorem dc_51_163 : decode (ax_code 51) 163 = .ok (.iastore, 1) := by decide +kernel
theorem dc_51_164 : decode (ax_code 51) 164 = .ok (.iinc 10 1, 3) := by decide +kernel
theorem dc_51_167 : decode (ax_code 51) 167 = .ok (.goto (-54), 3) := by decide +kernel
theorem dc_51_170 : decode (ax_code 51) 170 = .ok (.iinc 8 1, 3) := by decide +kernel
theorem dc_51_173 : decode (ax_code 51) 173 = .ok (.goto (-113), 3) := by decide +kernel
theorem dc_51_176 : decode (ax_code 51) 176 = .ok (.aload_n 0, 1) := by decide +kernel
theorem dc_51_177 : decode (ax_code 51) 177 = .ok (.getfield 9, 3) := by decide +kernel
theorem dc_51_180 : decode (ax_code 51) 180 = .ok (.astore 8, 2) := by decide +kernel
theorem dc_51_182 : decode (ax_code 51) 182 = .ok (.aload_n 0, 1) := by decide +kernel
theorem dc_51_183 : decode (ax_code 51) 183 = .ok (.aload_n 0, 1) := by decide +kernel
theorem dc_51_184 : decode (ax_code 51) 184 = .ok (.getfield 15, 3) := by decide +kernel
theorem dc_51_187 : decode (ax_code 51) 187 = .ok (.putfield 9, 3) := by decide +kernel
theorem dc_51_190 : decode (ax_code 51) 190 = .ok (.aload_n 0, 1) := by decide +kernel
theorem dc_51_191 : decode (ax_code 51) 191 = .ok (.aload 8, 2) := by decide +kernel
theorem dc_51_193 : decode (ax_code 51) 193 = .ok (.putfield 15, 3) := by decide +kernel
theorem dc_51_196 : decode (ax_code 51) 196 = .ok (.aload_n 0, 1) := by decide +kernel
theorem dc_51_197 : decode (ax_code 51) 197 = .ok (.iload 7, 2) := by decide +kernel
theorem dc_51_199 : decode (ax_code 51) 199 = .ok (.putfield 18, 3) := by decide +kernel
theorem dc_51_202 : decode (ax_code 51) 202 = .ok (.return_, 1) := by decide +kernel
theorem dc_52_0 : decode (ax_code 52) 0 = .ok (.aload_n 0, 1) := by decide +kernel
theorem dc_52_1 : decode (ax_code 52) 1 = .ok (.getstatic 10, 3) := by decide +kernel
theorem dc_52_4 : decode (ax_code 52) 4 = .ok (.if_acmp .eq 10, 3) := by decide +kernel
theorem dc_52_7 : decode (ax_code 52) 7 = .ok (.aload_n 0, 1) := by decide +kernel
theorem dc_52_8 : decode (ax_code 52) 8 = .ok (.getstatic 13, 3) := by decide +kernel
theorem dc_52_11 : decode (ax_code 52) 11 = .ok (.if_acmp .ne 7, 3) := by decide +kernel
theorem dc_52_14 : decode (ax_code 52) 14 = .ok (.iconst 1, 1) := by decide +kernel
theorem dc_52_15 : decode (ax_code 52) 15 = .ok (.goto 4, 3) := by decide +kernel
theorem dc_52_18 : decode (ax_code 52) 18 = .ok (.iconst 0, 1) := by decide +kernel
theorem dc_52_19 : decode (ax_code 52) 19 = .ok (.ireturn, 1) := by decide +kernel
theorem dc_53_0 : decode (ax_code 53) 0 = .ok (.aload_n 0, 1) := by decide +kernel
theorem dc_53_1 : decode (ax_code 53) 1 = .ok (.getfield 12, 3) := by decide +kernel
theorem dc_53_4 : decode (ax_code 53) 4 = .ok (.iload_n 2, 1) := by decide +kernel
theorem dc_53_5 : decode (ax_code 53) 5 = .ok (.invokevirtual 66, 3) := by decide +kernel
theorem dc_53_8 : decode (ax_code 53) 8 = .ok (.astore 4, 2) := by decide +kernel
theorem dc_53_10 : decode (ax_code 53) 10 = .ok (.aload_n 0, 1) := by decide +kernel
theorem dc_53_11 : decode (ax_code 53) 11 = .ok (.getfield 21, 3) := by decide +kernel
theorem dc_53_14 : decode (ax_code 53) 14 = .ok (.iload_n 1, 1) := by decide +kernel
theorem dc_53_15 : decode (ax_code 53) 15 = .ok (.iload_n 2, 1) := by decide +kernel
theorem dc_53_16 : decode (ax_code 53) 16 = .ok (.iload_n 3, 1) := by decide +kernel
theorem dc_53_17 : decode (ax_code 53) 17 = .ok (.invokevirtual 70, 3) := by decide +kernel
theorem dc_53_20 : decode (ax_code 53) 20 = .ok (.istore 5, 2) := by decide +kernel
theorem dc_53_22 : decode (ax_code 53) 22 = .ok (.aload 4, 2) := by decide +kernel
theorem dc_53_24 : decode (ax_code 53) 24 = .ok (.ifnull 23, 3) := by decide +kernel
theorem dc_53_27 : decode (ax_code 53) 27 = .ok (.iload 5, 2) := by decide +kernel
theorem dc_53_29 : decode (ax_code 53) 29 = .ok (.ifCond .lt 18, 3) := by decide +kernel
theorem dc_53_32 : decode (ax_code 53) 32 = .ok (.iload 5, 2) := by decide +kernel
theorem dc_53_34 : decode (ax_code 53) 34 = .ok (.aload 4, 2) := by decide +kernel
theorem dc_53_36 : decode (ax_code 53) 36 = .ok (.getfield 74, 3) := by decide +kernel
theorem dc_53_39 : decode (ax_code 53) 39 = .ok (.if_icmp .ge 8, 3) := by decide +kernel
theorem dc_53_42 : decode (ax_code 53) 42 = .ok (.iload 5, 2) := by decide +kernel
theorem dc_53_44 : decode (ax_code 53) 44 = .ok (.goto 4, 3) := by decide +kernel
theorem dc_53_47 : decode (ax_code 53) 47 = .ok (.iconst 0, 1) := by decide +kernel
theorem dc_53_48 : decode (ax_code 53) 48 = .ok (.ireturn, 1) := by decide +kernel
theorem dc_54_0 : decode (ax_code 54) 0 = .ok (.iload_n 1, 1) := by decide +kernel
theorem dc_54_1 : decode (ax_code 54) 1 = .ok (.iload_n 2, 1) := by decide +kernel
theorem dc_54_2 : decode (ax_code 54) 2 = .ok (.iload_n 3, 1) := by decide +kernel
theorem dc_54_3 : decode (ax_code 54) 3 = .ok (.invokestatic 22, 3) := by decide +kernel
theorem dc_54_6 : decode (ax_code 54) 6 = .ok (.istore 4, 2) := by decide +kernel
theorem dc_54_8 : decode (ax_code 54) 8 = .ok (.iconst 0, 1) := by decide +kernel
theorem dc_54_9 : decode (ax_code 54) 9 = .ok (.istore 5, 2) := by decide +kernel
theorem dc_54_11 : decode (ax_code 54) 11 = .ok (.iload 5, 2) := by decide +kernel
theorem dc_54_13 : decode (ax_code 54) 13 = .ok (.aload_n 0, 1) := by decide +kernel
theorem dc_54_14 : decode (ax_code 54) 14 = .ok (.getfield 18, 3) := by decide +kernel
theorem dc_54_17 : decode (ax_code 54) 17 = .ok (.if_icmp .ge 29, 3) := by decide +kernel
theorem dc_54_20 : decode (ax_code 54) 20 = .ok (.aload_n 0, 1) := by decide +kernel
theorem dc_54_21 : decode (ax_code 54) 21 = .ok (.getfield 9, 3) := by decide +kernel
theorem dc_54_24 : decode (ax_code 54) 24 = .ok (.iload 5, 2) := by decide +kernel
theorem dc_54_26 : decode (ax_code 54) 26 = .ok (.iaload, 1) := by decide +kernel
theorem dc_54_27 : decode (ax_code 54) 27 = .ok (.iload 4, 2) := by decide +kernel
theorem dc_54_29 : decode (ax_code 54) 29 = .ok (.if_icmp .ne 11, 3) := by decide +kernel
theorem dc_54_32 : decode (ax_code 54) 32 = .ok (.aload_n 0, 1) := by decide +kernel
theorem dc_54_33 : decode (ax_code 54) 33 = .ok (.getfield 15, 3) := by decide +kernel
theorem dc_54_36 : decode (ax_code 54) 36 = .ok (.iload 5, 2) := by decide +kernel
theorem dc_54_38 : decode (ax_code 54) 38 = .ok (.iaload, 1) := by decide +kernel
theorem dc_54_39 : decode (ax_code 54) 39 = .ok (.ireturn, 1) := by decide +kernel
theorem dc_54_40 : decode (ax_code 54) 40 = .ok (.iinc 5 1, 3) := by decide +kernel
theorem dc_54_43 : decode (ax_code 54) 43 = .ok (.goto (-32), 3) := by decide +kernel
theorem dc_54_46 : decode (ax_code 54) 46 = .ok (.iconst (-1), 1) := by decide +kernel
theorem dc_54_47 : decode (ax_code 54) 47 = .ok (.ireturn, 1) := by decide +kernel
theorem dc_55_0 : decode (ax_code 55) 0 = .ok (.iload_n 2, 1) := by decide +kernel
theorem dc_55_1 : decode (ax_code 55) 1 = .ok (.iconst 3, 1) := by decide +kernel
theorem dc_55_2 : decode (ax_code 55) 2 = .ok (.ishl, 1) := by decide +kernel
theorem dc_55_3 : decode (ax_code 55) 3 = .ok (.iload_n 1, 1) := by decide +kernel
theorem dc_55_4 : decode (ax_code 55) 4 = .ok (.ior, 1) := by decide +kernel
theorem dc_55_5 : decode (ax_code 55) 5 = .ok (.iconst 2, 1) := by decide +kernel
theorem dc_55_6 : decode (ax_code 55) 6 = .ok (.ishl, 1) := by decide +kernel
theorem dc_55_7 : decode (ax_code 55) 7 = .ok (.iload_n 0, 1) := by decide +kernel
theorem dc_55_8 : decode (ax_code 55) 8 = .ok (.ior, 1) := by decide +kernel
theorem dc_55_9 : decode (ax_code 55) 9 = .ok (.ireturn, 1) := by decide +kernel
theorem dc_56_0 : decode (ax_code 56) 0 = .ok (.iconst 0, 1) := by decide +kernel
theorem dc_56_1 : decode (ax_code 56) 1 = .ok (.istore 5, 2) := by decide +kernel
theorem dc_56_3 : decode (ax_code 56) 3 = .ok (.iconst 0, 1) := by decide +kernel
theorem dc_56_4 : decode (ax_code 56) 4 = .ok (.istore 6, 2) := by decide +kernel
theorem dc_56_6 : decode (ax_code 56) 6 = .ok (.iload 6, 2) := by decide +kernel
theorem dc_56_8 : decode (ax_code 56) 8 = .ok (.aload_n 0, 1) := by decide +kernel
theorem dc_56_9 : decode (ax_code 56) 9 = .ok (.getfield 18, 3) := by decide +kernel
theorem dc_56_12 : decode (ax_code 56) 12 = .ok (.if_icmp .ge 30, 3) := by decide +kernel
theorem dc_56_15 : decode (ax_code 56) 15 = .ok (.aload_n 1, 1) := by decide +kernel
theorem dc_56_16 : decode (ax_code 56) 16 = .ok (.iload_n 2, 1) := by decide +kernel
theorem dc_56_17 : decode (ax_code 56) 17 = .ok (.aload_n 0, 1) := by decide +kernel
theorem dc_56_18 : decode (ax_code 56) 18 = .ok (.getfield 9, 3) := by decide +kernel
theorem dc_56_21 : decode (ax_code 56) 21 = .ok (.iload 6, 2) := by decide +kernel
theorem dc_56_23 : decode (ax_code 56) 23 = .ok (.iaload, 1) := by decide +kernel
theorem dc_56_24 : decode (ax_code 56) 24 = .ok (.iload_n 3, 1) := by decide +kernel
theorem dc_56_25 : decode (ax_code 56) 25 = .ok (.invokevirtual 75, 3) := by decide +kernel
theorem dc_56_28 : decode (ax_code 56) 28 = .ok (.iload 4, 2) := by decide +kernel
theorem dc_56_30 : decode (ax_code 56) 30 = .ok (.if_icmp .ne 6, 3) := by decide +kernel
theorem dc_56_33 : decode (ax_code 56) 33 = .ok (.iinc 5 1, 3) := by decide +kernel
theorem dc_56_36 : decode (ax_code 56) 36 = .ok (.iinc 6 1, 3) := by decide +kernel
theorem dc_56_39 : decode (ax_code 56) 39 = .ok (.goto (-33), 3) := by decide +kernel
theorem dc_56_42 : decode (ax_code 56) 42 = .ok (.iload 5, 2) := by decide +kernel
theorem dc_56_44 : decode (ax_code 56) 44 = .ok (.ireturn, 1) := by decide +kernel
theorem dc_57_0 : decode (ax_code 57) 0 = .ok (.iconst 0, 1) := by decide +kernel
theorem dc_57_1 : decode (ax_code 57) 1 = .ok (.istore 7, 2) := by decide +kernel
theorem dc_57_3 : decode (ax_code 57) 3 = .ok (.iconst 0, 1) := by decide +kernel
theorem dc_57_4 : decode (ax_code 57) 4 = .ok (.istore 8, 2) := by decide +kernel
theorem dc_57_6 : decode (ax_code 57) 6 = .ok (.iload 8, 2) := by decide +kernel
theorem dc_57_8 : decode (ax_code 57) 8 = .ok (.aload_n 0, 1) := by decide +kernel
theorem dc_57_9 : decode (ax_code 57) 9 = .ok (.getfield 18, 3) := by decide +kernel
theorem dc_57_12 : decode (ax_code 57) 12 = .ok (.if_icmp .ge 42, 3) := by decide +kernel
theorem dc_57_15 : decode (ax_code 57) 15 = .ok (.aload_n 1, 1) := by decide +kernel
theorem dc_57_16 : decode (ax_code 57) 16 = .ok (.iload_n 2, 1) := by decide +kernel
theorem dc_57_17 : decode (ax_code 57) 17 = .ok (.aload_n 0, 1) := by decide +kernel
theorem dc_57_18 : decode (ax_code 57) 18 = .ok (.getfield 9, 3) := by decide +kernel
theorem dc_57_21 : decode (ax_code 57) 21 = .ok (.iload 8, 2) := by decide +kernel
theorem dc_57_23 : decode (ax_code 57) 23 = .ok (.iaload, 1) := by decide +kernel
theorem dc_57_24 : decode (ax_code 57) 24 = .ok (.iload_n 3, 1) := by decide +kernel
theorem dc_57_25 : decode (ax_code 57) 25 = .ok (.invokevirtual 75, 3) := by decide +kernel
theorem dc_57_28 : decode (ax_code 57) 28 = .ok (.iload 4, 2) := by decide +kernel
theorem dc_57_30 : decode (ax_code 57) 30 = .ok (.if_icmp .ne 18, 3) := by decide +kernel
theorem dc_57_33 : decode (ax_code 57) 33 = .ok (.aload_n 1, 1) := by decide +kernel
theorem dc_57_34 : decode (ax_code 57) 34 = .ok (.getfield 82, 3) := by decide +kernel
theorem dc_57_37 : decode (ax_code 57) 37 = .ok (.iload 5, 2) := by decide +kernel
theorem dc_57_39 : decode (ax_code 57) 39 = .ok (.iaload, 1) := by decide +kernel
theorem dc_57_40 : decode (ax_code 57) 40 = .ok (.iload 6, 2) := by decide +kernel
theorem dc_57_42 : decode (ax_code 57) 42 = .ok (.if_icmp .ne 6, 3) := by decide +kernel
theorem dc_57_45 : decode (ax_code 57) 45 = .ok (.iinc 7 1, 3) := by decide +kernel
theorem dc_57_48 : decode (ax_code 57) 48 = .ok (.iinc 8 1, 3) := by decide +kernel
theorem dc_57_51 : decode (ax_code 57) 51 = .ok (.goto (-45), 3) := by decide +kernel
theorem dc_57_54 : decode (ax_code 57) 54 = .ok (.iload 7, 2) := by decide +kernel
theorem dc_57_56 : decode (ax_code 57) 56 = .ok (.ireturn, 1) := by decide +kernel
theorem dc_58_0 : decode (ax_code 58) 0 = .ok (.lload_n 0, 1) := by decide +kernel
theorem dc_58_1 : decode (ax_code 58) 1 = .ok (.invokestatic 381, 3) := by decide +kernel
theorem dc_58_4 : decode (ax_code 58) 4 = .ok (.lload_n 2, 1) := by decide +kernel
theorem dc_58_5 : decode (ax_code 58) 5 = .ok (.invokestatic 303, 3) := by decide +kernel
theorem dc_58_8 : decode (ax_code 58) 8 = .ok (.lstore 5, 2) := by decide +kernel
theorem dc_58_10 : decode (ax_code 58) 10 = .ok (.iload 4, 2) := by decide +kernel
theorem dc_58_12 : decode (ax_code 58) 12 = .ok (.ifCond .ne 10, 3) := by decide +kernel
theorem dc_58_15 : decode (ax_code 58) 15 = .ok (.lload_n 0, 1) := by decide +kernel
theorem dc_58_16 : decode (ax_code 58) 16 = .ok (.lload 5, 2) := by decide +kernel
theorem dc_58_18 : decode (ax_code 58) 18 = .ok (.ldiv, 1) := by decide +kernel
theorem dc_58_19 : decode (ax_code 58) 19 = .ok (.goto 7, 3) := by decide +kernel
theorem dc_58_22 : decode (ax_code 58) 22 = .ok (.lload_n 2, 1) := by decide +kernel
theorem dc_58_23 : decode (ax_code 58) 23 = .ok (.lload 5, 2) := by decide +kernel
theorem dc_58_25 : decode (ax_code 58) 25 = .ok (.ldiv, 1) := by decide +kernel
theorem dc_58_26 : decode (ax_code 58) 26 = .ok (.lreturn, 1) := by decide +kernel
theorem dc_60_0 : decode (ax_code 60) 0 = .ok (.lload_n 0, 1) := by decide +kernel
theorem dc_60_1 : decode (ax_code 60) 1 = .ok (.lstore 4, 2) := by decide +kernel
theorem dc_60_3 : decode (ax_code 60) 3 = .ok (.lload_n 2, 1) := by decide +kernel
theorem dc_60_4 : decode (ax_code 60) 4 = .ok (.lstore 6, 2) := by decide +kernel
theorem dc_60_6 : decode (ax_code 60) 6 = .ok (.iconst 0, 1) := by decide +kernel
theorem dc_60_7 : decode (ax_code 60) 7 = .ok (.istore 8, 2) := by decide +kernel
theorem dc_60_9 : decode (ax_code 60) 9 = .ok (.iload 8, 2) := by decide +kernel
theorem dc_60_11 : decode (ax_code 60) 11 = .ok (.sipush 200, 3) := by decide +kernel
theorem dc_60_14 : decode (ax_code 60) 14 = .ok (.if_icmp .ge 31, 3) := by decide +kernel
theorem dc_60_17 : decode (ax_code 60) 17 = .ok (.lload 6, 2) := by decide +kernel
theorem dc_60_19 : decode (ax_code 60) 19 = .ok (.lconst 0, 1) := by decide +kernel
theorem dc_60_20 : decode (ax_code 60) 20 = .ok (.lcmp, 1) := by decide +kernel
theorem dc_60_21 : decode (ax_code 60) 21 = .ok (.ifCond .eq 24, 3) := by decide +kernel
theorem dc_60_24 : decode (ax_code 60) 24 = .ok (.lload 4, 2) := by decide +kernel
theorem dc_60_26 : decode (ax_code 60) 26 = .ok (.lload 6, 2) := by decide +kernel
theorem dc_60_28 : decode (ax_code 60) 28 = .ok (.lrem, 1) := by decide +kernel
theorem dc_60_29 : decode (ax_code 60) 29 = .ok (.lstore 9, 2) := by decide +kernel
theorem dc_60_31 : decode (ax_code 60) 31 = .ok (.lload 6, 2) := by decide +kernel
theorem dc_60_33 : decode (ax_code 60) 33 = .ok (.lstore 4, 2) := by decide +kernel
theorem dc_60_35 : decode (ax_code 60) 35 = .ok (.lload 9, 2) := by decide +kernel
theorem dc_60_37 : decode (ax_code 60) 37 = .ok (.lstore 6, 2) := by decide +kernel
theorem dc_60_39 : decode (ax_code 60) 39 = .ok (.iinc 8 1, 3) := by decide +kernel
theorem dc_60_42 : decode (ax_code 60) 42 = .ok (.goto (-33), 3) := by decide +kernel
theorem dc_60_45 : decode (ax_code 60) 45 = .ok (.lconst 1, 1) := by decide +kernel
theorem dc_60_46 : decode (ax_code 60) 46 = .ok (.lload 4, 2) := by decide +kernel
theorem dc_60_48 : decode (ax_code 60) 48 = .ok (.invokestatic 385, 3) := by decide +kernel
theorem dc_60_51 : decode (ax_code 60) 51 = .ok (.lreturn, 1) := by decide +kernel
theorem dc_62_0 : decode (ax_code 62) 0 = .ok (.iload_n 1, 1) := by decide +kernel
theorem dc_62_1 : decode (ax_code 62) 1 = .ok (.invokestatic 173, 3) := by decide +kernel
theorem dc_62_4 : decode (ax_code 62) 4 = .ok (.ifCond .ne 6, 3) := by decide +kernel
theorem dc_62_7 : decode (ax_code 62) 7 = .ok (.bipush (-2), 2) := by decide +kernel
theorem dc_62_9 : decode (ax_code 62) 9 = .ok (.ireturn, 1) := by decide +kernel
theorem dc_62_10 : decode (ax_code 62) 10 = .ok (.aload_n 0, 1) := by decide +kernel
theorem dc_62_11 : decode (ax_code 62) 11 = .ok (.getfield 26, 3) := by decide +kernel
theorem dc_62_14 : decode (ax_code 62) 14 = .ok (.aload_n 0, 1) := by decide +kernel
theorem dc_62_15 : decode (ax_code 62) 15 = .ok (.getfield 10, 3) := by decide +kernel
theorem dc_62_18 : decode (ax_code 62) 18 = .ok (.getfield 77, 3) := by decide +kernel
theorem dc_62_21 : decode (ax_code 62) 21 = .ok (.iload_n 1, 1) := by decide +kernel
theorem dc_62_22 : decode (ax_code 62) 22 = .ok (.invokevirtual 205, 3) := by decide +kernel
theorem dc_62_25 : decode (ax_code 62) 25 = .ok (.aload_n 0, 1) := by decide +kernel
theorem dc_62_26 : decode (ax_code 62) 26 = .ok (.getfield 26, 3) := by decide +kernel
theorem dc_62_29 : decode (ax_code 62) 29 = .ok (.getfield 209, 3) := by decide +kernel
theorem dc_62_32 : decode (ax_code 62) 32 = .ok (.ireturn, 1) := by decide +kernel
theorem dc_63_0 : decode (ax_code 63) 0 = .ok (.aload_n 0, 1) := by decide +kernel
theorem dc_63_1 : decode (ax_code 63) 1 = .ok (.iconst 0, 1) := by decide +kernel
theorem dc_63_2 : decode (ax_code 63) 2 = .ok (.putfield 21, 3) := by decide +kernel
theorem dc_63_5 : decode (ax_code 63) 5 = .ok (.iconst 0, 1) := by decide +kernel
theorem dc_63_6 : decode (ax_code 63) 6 = .ok (.istore_n 3, 1) := by decide +kernel
theorem dc_63_7 : decode (ax_code 63) 7 = .ok (.iload_n 3, 1) := by decide +kernel
theorem dc_63_8 : decode (ax_code 63) 8 = .ok (.aload_n 1, 1) := by decide +kernel
theorem dc_63_9 : decode (ax_code 63) 9 = .ok (.getfield 31, 3) := by decide +kernel
theorem dc_63_12 : decode (ax_code 63) 12 = .ok (.if_icmp .ge 25, 3) := by decide +kernel
theorem dc_63_15 : decode (ax_code 63) 15 = .ok (.aload_n 1, 1) := by decide +kernel
theorem dc_63_16 : decode (ax_code 63) 16 = .ok (.iload_n 2, 1) := by decide +kernel
theorem dc_63_17 : decode (ax_code 63) 17 = .ok (.iload_n 3, 1) := by decide +kernel
theorem dc_63_18 : decode (ax_code 63) 18 = .ok (.invokevirtual 36, 3) := by decide +kernel
theorem dc_63_21 : decode (ax_code 63) 21 = .ok (.ifCond .eq 10, 3) := by decide +kernel
theorem dc_63_24 : decode (ax_code 63) 24 = .ok (.aload_n 0, 1) := by decide +kernel
theorem dc_63_25 : decode (ax_code 63) 25 = .ok (.aload_n 1, 1) := by decide +kernel
theorem dc_63_26 : decode (ax_code 63) 26 = .ok (.iload_n 2, 1) := by decide +kernel
theorem dc_63_27 : decode (ax_code 63) 27 = .ok (.iload_n 3, 1) := by decide +kernel
theorem dc_63_28 : decode (ax_code 63) 28 = .ok (.invokevirtual 40, 3) := by decide +kernel
theorem dc_63_31 : decode (ax_code 63) 31 = .ok (.iinc 3 1, 3) := by decide +kernel
theorem dc_63_34 : decode (ax_code 63) 34 = .ok (.goto (-27), 3) := by decide +kernel
theorem dc_63_37 : decode (ax_code 63) 37 = .ok (.return_, 1) := by decide +kernel
theorem dc_64_0 : decode (ax_code 64) 0 = .ok (.aload_n 0, 1) := by decide +kernel
theorem dc_64_1 : decode (ax_code 64) 1 = .ok (.iload_n 2, 1) := by decide +kernel
theorem dc_64_2 : decode (ax_code 64) 2 = .ok (.invokevirtual 67, 3) := by decide +kernel
theorem dc_64_5 : decode (ax_code 64) 5 = .ok (.astore_n 3, 1) := by decide +kernel
theorem dc_64_6 : decode (ax_code 64) 6 = .ok (.aload_n 3, 1) := by decide +kernel
theorem dc_64_7 : decode (ax_code 64) 7 = .ok (.ifnull 25, 3) := by decide +kernel
theorem dc_64_10 : decode (ax_code 64) 10 = .ok (.aload_n 3, 1) := by decide +kernel
theorem dc_64_11 : decode (ax_code 64) 11 = .ok (.getfield 71, 3) := by decide +kernel
theorem dc_64_14 : decode (ax_code 64) 14 = .ok (.invokevirtual 78, 3) := by decide +kernel
theorem dc_64_17 : decode (ax_code 64) 17 = .ok (.ifCond .eq 15, 3) := by decide +kernel
theorem dc_64_20 : decode (ax_code 64) 20 = .ok (.aload_n 3, 1) := by decide +kernel
theorem dc_64_21 : decode (ax_code 64) 21 = .ok (.getfield 81, 3) := by decide +kernel
theorem dc_64_24 : decode (ax_code 64) 24 = .ok (.iload_n 1, 1) := by decide +kernel
theorem dc_64_25 : decode (ax_code 64) 25 = .ok (.if_icmp .ne 7, 3) := by decide +kernel
theorem dc_64_28 : decode (ax_code 64) 28 = .ok (.iconst 1, 1) := by decide +kernel
theorem dc_64_29 : decode (ax_code 64) 29 = .ok (.goto 4, 3) := by decide +kernel
theorem dc_64_32 : decode (ax_code 64) 32 = .ok (.iconst 0, 1) := by decide +kernel
theorem dc_64_33 : decode (ax_code 64) 33 = .ok (.ireturn, 1) := by decide +kernel
theorem dc_65_0 : decode (ax_code 65) 0 = .ok (.aload_n 1, 1) := by decide +kernel
theorem dc_65_1 : decode (ax_code 65) 1 = .ok (.getfield 44, 3) := by decide +kernel
theorem dc_65_4 : decode (ax_code 65) 4 = .ok (.iload_n 3, 1) := by decide +kernel
theorem dc_65_5 : decode (ax_code 65) 5 = .ok (.iaload, 1) := by decide +kernel
theorem dc_65_6 : decode (ax_code 65) 6 = .ok (.istore 4, 2) := by decide +kernel
theorem dc_65_8 : decode (ax_code 65) 8 = .ok (.iconst 0, 1) := by decide +kernel
theorem dc_65_9 : decode (ax_code 65) 9 = .ok (.istore 5, 2) := by decide +kernel
theorem dc_65_11 : decode (ax_code 65) 11 = .ok (.iload 5, 2) := by decide +kernel
theorem dc_65_13 : decode (ax_code 65) 13 = .ok (.iload 4, 2) := by decide +kernel
theorem dc_65_15 : decode (ax_code 65) 15 = .ok (.if_icmp .ge 24, 3) := by decide +kernel
theorem dc_65_18 : decode (ax_code 65) 18 = .ok (.aload_n 0, 1) := by decide +kernel
theorem dc_65_19 : decode (ax_code 65) 19 = .ok (.getfield 25, 3) := by decide +kernel
theorem dc_65_22 : decode (ax_code 65) 22 = .ok (.iload 5, 2) := by decide +kernel
theorem dc_65_24 : decode (ax_code 65) 24 = .ok (.aload_n 1, 1) := by decide +kernel
theorem dc_65_25 : decode (ax_code 65) 25 = .ok (.iload_n 2, 1) := by decide +kernel
theorem dc_65_26 : decode (ax_code 65) 26 = .ok (.iload 5, 2) := by decide +kernel
theorem dc_65_28 : decode (ax_code 65) 28 = .ok (.iload_n 3, 1) := by decide +kernel
theorem dc_65_29 : decode (ax_code 65) 29 = .ok (.invokevirtual 47, 3) := by decide +kernel
theorem dc_65_32 : decode (ax_code 65) 32 = .ok (.iastore, 1) := by decide +kernel
theorem dc_65_33 : decode (ax_code 65) 33 = .ok (.iinc 5 1, 3) := by decide +kernel
theorem dc_65_36 : decode (ax_code 65) 36 = .ok (.goto (-25), 3) := by decide +kernel
theorem dc_65_39 : decode (ax_code 65) 39 = .ok (.aload_n 0, 1) := by decide +kernel
theorem dc_65_40 : decode (ax_code 65) 40 = .ok (.iload 4, 2) := by decide +kernel
theorem dc_65_42 : decode (ax_code 65) 42 = .ok (.invokevirtual 51, 3) := by decide +kernel
theorem dc_65_45 : decode (ax_code 65) 45 = .ok (.iconst 0, 1) := by decide +kernel
theorem dc_65_46 : decode (ax_code 65) 46 = .ok (.istore 5, 2) := by decide +kernel
theorem dc_65_48 : decode (ax_code 65) 48 = .ok (.iload 5, 2) := by decide +kernel
theorem dc_65_50 : decode (ax_code 65) 50 = .ok (.iload 4, 2) := by decide +kernel
theorem dc_65_52 : decode (ax_code 65) 52 = .ok (.if_icmp .ge 107, 3) := by decide +kernel
theorem dc_65_55 : decode (ax_code 65) 55 = .ok (.iload 5, 2) := by decide +kernel
theorem dc_65_57 : decode (ax_code 65) 57 = .ok (.ifCond .le 40, 3) := by decide +kernel
theorem dc_65_60 : decode (ax_code 65) 60 = .ok (.aload_n 0, 1) := by decide +kernel
theorem dc_65_61 : decode (ax_code 65) 61 = .ok (.getfield 25, 3) := by decide +kernel
theorem dc_65_64 : decode (ax_code 65) 64 = .ok (.iload 5, 2) := by decide +kernel
theorem dc_65_66 : decode (ax_code 65) 66 = .ok (.iaload, 1) := by decide +kernel
theorem dc_65_67 : decode (ax_code 65) 67 = .ok (.aload_n 0, 1) := by decide +kernel
theorem dc_65_68 : decode (ax_code 65) 68 = .ok (.getfield 25, 3) := by decide +kernel
theorem dc_65_71 : decode (ax_code 65) 71 = .ok (.iload 5, 2) := by decide +kernel
theorem dc_65_73 : decode (ax_code 65) 73 = .ok (.iconst 1, 1) := by decide +kernel
theorem dc_65_74 : decode (ax_code 65) 74 = .ok (.isub, 1) := by decide +kernel
theorem dc_65_75 : decode (ax_code 65) 75 = .ok (.iaload, 1) := by decide +kernel
theorem dc_65_76 : decode (ax_code 65) 76 = .ok (.if_icmp .ne 21, 3) := by decide +kernel
theorem dc_65_79 : decode (ax_code 65) 79 = .ok (.aload_n 0, 1) := by decide +kernel
theorem dc_65_80 : decode (ax_code 65) 80 = .ok (.getfield 18, 3) := by decide +kernel
theorem dc_65_83 : decode (ax_code 65) 83 = .ok (.aload_n 0, 1) := by decide +kernel
theorem dc_65_84 : decode (ax_code 65) 84 = .ok (.getfield 21, 3) := by decide +kernel
theorem dc_65_87 : decode (ax_code 65) 87 = .ok (.iconst 1, 1) := by decide +kernel
theorem dc_65_88 : decode (ax_code 65) 88 = .ok (.isub, 1) := by decide +kernel
theorem dc_65_89 : decode (ax_code 65) 89 = .ok (.dup2, 1) := by decide +kernel
theorem dc_65_90 : decode (ax_code 65) 90 = .ok (.iaload, 1) := by decide +kernel
theorem dc_65_91 : decode (ax_code 65) 91 = .ok (.iconst 1, 1) := by decide +kernel
theorem dc_65_92 : decode (ax_code 65) 92 = .ok (.iadd, 1) := by decide +kernel
theorem dc_65_93 : decode (ax_code 65) 93 = .ok (.iastore, 1) := by decide +kernel
theorem dc_65_94 : decode (ax_code 65) 94 = .ok (.goto 59, 3) := by decide +kernel
theorem dc_65_97 : decode (ax_code 65) 97 = .ok (.aload_n 0, 1) := by decide +kernel
theorem dc_65_98 : decode (ax_code 65) 98 = .ok (.getfield 21, 3) := by decide +kernel
theorem dc_65_101 : decode (ax_code 65) 101 = .ok (.sipush 806, 3) := by decide +kernel
theorem dc_65_104 : decode (ax_code 65) 104 = .ok (.if_icmp .ge 49, 3) := by decide +kernel
theorem dc_65_107 : decode (ax_code 65) 107 = .ok (.aload_n 0, 1) := by decide +kernel
theorem dc_65_108 : decode (ax_code 65) 108 = .ok (.getfield 9, 3) := by decide +kernel
theorem dc_65_111 : decode (ax_code 65) 111 = .ok (.aload_n 0, 1) := by decide +kernel
theorem dc_65_112 : decode (ax_code 65) 112 = .ok (.getfield 21, 3) := by decide +kernel
theorem dc_65_115 : decode (ax_code 65) 115 = .ok (.iload_n 3, 1) := by decide +kernel
theorem dc_65_116 : decode (ax_code 65) 116 = .ok (.iastore, 1) := by decide +kernel
theorem dc_65_117 : decode (ax_code 65) 117 = .ok (.aload_n 0, 1) := by decide +kernel
theorem dc_65_118 : decode (ax_code 65) 118 = .ok (.getfield 15, 3) := by decide +kernel
theorem dc_65_121 : decode (ax_code 65) 121 = .ok (.aload_n 0, 1) := by decide +kernel
theorem dc_65_122 : decode (ax_code 65) 122 = .ok (.getfield 21, 3) := by decide +kernel
theorem dc_65_125 : decode (ax_code 65) 125 = .ok (.aload_n 0, 1) := by decide +kernel
theorem dc_65_126 : decode (ax_code 65) 126 = .ok (.getfield 25, 3) := by decide +kernel
theorem dc_65_129 : decode (ax_code 65) 129 = .ok (.iload 5, 2) := by decide +kernel
theorem dc_65_131 : decode (ax_code 65) 131 = .ok (.iaload, 1) := by decide +kernel
theorem dc_65_132 : decode (ax_code 65) 132 = .ok (.iastore, 1) := by decide +kernel
theorem dc_65_133 : decode (ax_code 65) 133 = .ok (.aload_n 0, 1) := by decide +kernel
theorem dc_65_134 : decode (ax_code 65) 134 = .ok (.getfield 18, 3) := by decide +kernel
theorem dc_65_137 : decode (ax_code 65) 137 = .ok (.aload_n 0, 1) := by decide +kernel
theorem dc_65_138 : decode (ax_code 65) 138 = .ok (.getfield 21, 3) := by decide +kernel
theorem dc_65_141 : decode (ax_code 65) 141 = .ok (.iconst 1, 1) := by decide +kernel
theorem dc_65_142 : decode (ax_code 65) 142 = .ok (.iastore, 1) := by decide +kernel
theorem dc_65_143 : decode (ax_code 65) 143 = .ok (.aload_n 0, 1) := by decide +kernel
theorem dc_65_144 : decode (ax_code 65) 144 = .ok (.dup, 1) := by decide +kernel
theorem dc_65_145 : decode (ax_code 65) 145 = .ok (.getfield 21, 3) := by decide +kernel
theorem dc_65_148 : decode (ax_code 65) 148 = .ok (.iconst 1, 1) := by decide +kernel
theorem dc_65_149 : decode (ax_code 65) 149 = .ok (.iadd, 1) := by decide +kernel
theorem dc_65_150 : decode (ax_code 65) 150 = .ok (.putfield 21, 3) := by decide +kernel
theorem dc_65_153 : decode (ax_code 65) 153 = .ok (.iinc 5 1, 3) := by decide +kernel
theorem dc_65_156 : decode (ax_code 65) 156 = .ok (.goto (-108), 3) := by decide +kernel
theorem dc_65_159 : decode (ax_code 65) 159 = .ok (.return_, 1) := by decide +kernel
theorem dc_66_0 : decode (ax_code 66) 0 = .ok (.iload_n 1, 1) := by decide +kernel
theorem dc_66_1 : decode (ax_code 66) 1 = .ok (.iconst 2, 1) := by decide +kernel
theorem dc_66_2 : decode (ax_code 66) 2 = .ok (.idiv, 1) := by decide +kernel
theorem dc_66_3 : decode (ax_code 66) 3 = .ok (.istore_n 2, 1) := by decide +kernel
theorem dc_66_4 : decode (ax_code 66) 4 = .ok (.iload_n 2, 1) := by decide +kernel
theorem dc_66_5 : decode (ax_code 66) 5 = .ok (.ifCond .le 88, 3) := by decide +kernel
theorem dc_66_8 : decode (ax_code 66) 8 = .ok (.iload_n 2, 1) := by decide +kernel
theorem dc_66_9 : decode (ax_code 66) 9 = .ok (.istore_n 3, 1) := by decide +kernel
theorem dc_66_10 : decode (ax_code 66) 10 = .ok (.iload_n 3, 1) := by decide +kernel
theorem dc_66_11 : decode (ax_code 66) 11 = .ok (.iload_n 1, 1) := by decide +kernel
theorem dc_66_12 : decode (ax_code 66) 12 = .ok (.if_icmp .ge 74, 3) := by decide +kernel
theorem dc_66_15 : decode (ax_code 66) 15 = .ok (.aload_n 0, 1) := by decide +kernel
theorem dc_66_16 : decode (ax_code 66) 16 = .ok (.getfield 25, 3) := by decide +kernel
theorem dc_66_19 : decode (ax_code 66) 19 = .ok (.iload_n 3, 1) := by decide +kernel
theorem dc_66_20 : decode (ax_code 66) 20 = .ok (.iaload, 1) := by decide +kernel
theorem dc_66_21 : decode (ax_code 66) 21 = .ok (.istore 4, 2) := by decide +kernel
theorem dc_66_23 : decode (ax_code 66) 23 = .ok (.iload_n 3, 1) := by decide +kernel
theorem dc_66_24 : decode (ax_code 66) 24 = .ok (.istore 5, 2) := by decide +kernel
theorem dc_66_26 : decode (ax_code 66) 26 = .ok (.iload 5, 2) := by decide +kernel
theorem dc_66_28 : decode (ax_code 66) 28 = .ok (.iload_n 2, 1) := by decide +kernel
theorem dc_66_29 : decode (ax_code 66) 29 = .ok (.if_icmp .lt 42, 3) := by decide +kernel
theorem dc_66_32 : decode (ax_code 66) 32 = .ok (.aload_n 0, 1) := by decide +kernel
theorem dc_66_33 : decode (ax_code 66) 33 = .ok (.getfield 25, 3) := by decide +kernel
theorem dc_66_36 : decode (ax_code 66) 36 = .ok (.iload 5, 2) := by decide +kernel
theorem dc_66_38 : decode (ax_code 66) 38 = .ok (.iload_n 2, 1) := by decide +kernel
theorem dc_66_39 : decode (ax_code 66) 39 = .ok (.isub, 1) := by decide +kernel
theorem dc_66_40 : decode (ax_code 66) 40 = .ok (.iaload, 1) := by decide +kernel
theorem dc_66_41 : decode (ax_code 66) 41 = .ok (.iload 4, 2) := by decide +kernel
theorem dc_66_43 : decode (ax_code 66) 43 = .ok (.if_icmp .le 28, 3) := by decide +kernel
theorem dc_66_46 : decode (ax_code 66) 46 = .ok (.aload_n 0, 1) := by decide +kernel
theorem dc_66_47 : decode (ax_code 66) 47 = .ok (.getfield 25, 3) := by decide +kernel
theorem dc_66_50 : decode (ax_code 66) 50 = .ok (.iload 5, 2) := by decide +kernel
theorem dc_66_52 : decode (ax_code 66) 52 = .ok (.aload_n 0, 1) := by decide +kernel
theorem dc_66_53 : decode (ax_code 66) 53 = .ok (.getfield 25, 3) := by decide +kernel
theorem dc_66_56 : decode (ax_code 66) 56 = .ok (.iload 5, 2) := by decide +kernel
theorem dc_66_58 : decode (ax_code 66) 58 = .ok (.iload_n 2, 1) := by decide +kernel
theorem dc_66_59 : decode (ax_code 66) 59 = .ok (.isub, 1) := by decide +kernel
theorem dc_66_60 : decode (ax_code 66) 60 = .ok (.iaload, 1) := by decide +kernel
theorem dc_66_61 : decode (ax_code 66) 61 = .ok (.iastore, 1) := by decide +kernel
theorem dc_66_62 : decode (ax_code 66) 62 = .ok (.iload 5, 2) := by decide +kernel
theorem dc_66_64 : decode (ax_code 66) 64 = .ok (.iload_n 2, 1) := by decide +kernel
theorem dc_66_65 : decode (ax_code 66) 65 = .ok (.isub, 1) := by decide +kernel
theorem dc_66_66 : decode (ax_code 66) 66 = .ok (.istore 5, 2) := by decide +kernel
theorem dc_66_68 : decode (ax_code 66) 68 = .ok (.goto (-42), 3) := by decide +kernel
theorem dc_66_71 : decode (ax_code 66) 71 = .ok (.aload_n 0, 1) := by decide +kernel
theorem dc_66_72 : decode (ax_code 66) 72 = .ok (.getfield 25, 3) := by decide +kernel
theorem dc_66_75 : decode (ax_code 66) 75 = .ok (.iload 5, 2) := by decide +kernel
theorem dc_66_77 : decode (ax_code 66) 77 = .ok (.iload 4, 2) := by decide +kernel
theorem dc_66_79 : decode (ax_code 66) 79 = .ok (.iastore, 1) := by decide +kernel
theorem dc_66_80 : decode (ax_code 66) 80 = .ok (.iinc 3 1, 3) := by decide +kernel
theorem dc_66_83 : decode (ax_code 66) 83 = .ok (.goto (-73), 3) := by decide +kernel
theorem dc_66_86 : decode (ax_code 66) 86 = .ok (.iload_n 2, 1) := by decide +kernel
theorem dc_66_87 : decode (ax_code 66) 87 = .ok (.iconst 2, 1) := by decide +kernel
theorem dc_66_88 : decode (ax_code 66) 88 = .ok (.idiv, 1) := by decide +kernel
theorem dc_66_89 : decode (ax_code 66) 89 = .ok (.istore_n 2, 1) := by decide +kernel
theorem dc_66_90 : decode (ax_code 66) 90 = .ok (.goto (-86), 3) := by decide +kernel
theorem dc_66_93 : decode (ax_code 66) 93 = .ok (.return_, 1) := by decide +kernel
theorem dc_67_0 : decode (ax_code 67) 0 = .ok (.iload_n 1, 1) := by decide +kernel
theorem dc_67_1 : decode (ax_code 67) 1 = .ok (.invokestatic 173, 3) := by decide +kernel
theorem dc_67_4 : decode (ax_code 67) 4 = .ok (.ifCond .eq 12, 3) := by decide +kernel
theorem dc_67_7 : decode (ax_code 67) 7 = .ok (.iload_n 3, 1) := by decide +kernel
theorem dc_67_8 : decode (ax_code 67) 8 = .ok (.ifCond .lt 8, 3) := by decide +kernel
theorem dc_67_11 : decode (ax_code 67) 11 = .ok (.iload_n 3, 1) := by decide +kernel
theorem dc_67_12 : decode (ax_code 67) 12 = .ok (.iconst 3, 1) := by decide +kernel
theorem dc_67_13 : decode (ax_code 67) 13 = .ok (.if_icmp .le 6, 3) := by decide +kernel
theorem dc_67_16 : decode (ax_code 67) 16 = .ok (.bipush (-2), 2) := by decide +kernel
theorem dc_67_18 : decode (ax_code 67) 18 = .ok (.ireturn, 1) := by decide +kernel
theorem dc_67_19 : decode (ax_code 67) 19 = .ok (.aload_n 0, 1) := by decide +kernel
theorem dc_67_20 : decode (ax_code 67) 20 = .ok (.getfield 26, 3) := by decide +kernel
theorem dc_67_23 : decode (ax_code 67) 23 = .ok (.aload_n 0, 1) := by decide +kernel
theorem dc_67_24 : decode (ax_code 67) 24 = .ok (.getfield 10, 3) := by decide +kernel
theorem dc_67_27 : decode (ax_code 67) 27 = .ok (.getfield 77, 3) := by decide +kernel
theorem dc_67_30 : decode (ax_code 67) 30 = .ok (.iload_n 1, 1) := by decide +kernel
theorem dc_67_31 : decode (ax_code 67) 31 = .ok (.invokevirtual 205, 3) := by decide +kernel
theorem dc_67_34 : decode (ax_code 67) 34 = .ok (.iload_n 2, 1) := by decide +kernel
theorem dc_67_35 : decode (ax_code 67) 35 = .ok (.ifCond .lt 14, 3) := by decide +kernel
theorem dc_67_38 : decode (ax_code 67) 38 = .ok (.iload_n 2, 1) := by decide +kernel
theorem dc_67_39 : decode (ax_code 67) 39 = .ok (.aload_n 0, 1) := by decide +kernel
theorem dc_67_40 : decode (ax_code 67) 40 = .ok (.getfield 26, 3) := by decide +kernel
theorem dc_67_43 : decode (ax_code 67) 43 = .ok (.getfield 209, 3) := by decide +kernel
theorem dc_67_46 : decode (ax_code 67) 46 = .ok (.if_icmp .lt 6, 3) := by decide +kernel
theorem dc_67_49 : decode (ax_code 67) 49 = .ok (.bipush (-12), 2) := by decide +kernel
theorem dc_67_51 : decode (ax_code 67) 51 = .ok (.ireturn, 1) := by decide +kernel
theorem dc_67_52 : decode (ax_code 67) 52 = .ok (.iload_n 3, 1) := by decide +kernel
theorem dc_67_53 : decode (ax_code 67) 53 = .ok (.tableswitch 57 0 2 #[27, 37, 47], 27) := by decide +kernel
theorem dc_67_80 : decode (ax_code 67) 80 = .ok (.aload_n 0, 1) := by decide +kernel
theorem dc_67_81 : decode (ax_code 67) 81 = .ok (.getfield 26, 3) := by decide +kernel
theorem dc_67_84 : decode (ax_code 67) 84 = .ok (.getfield 212, 3) := by decide +kernel
theorem dc_67_87 : decode (ax_code 67) 87 = .ok (.iload_n 2, 1) := by decide +kernel
theorem dc_67_88 : decode (ax_code 67) 88 = .ok (.iaload, 1) := by decide +kernel
theorem dc_67_89 : decode (ax_code 67) 89 = .ok (.ireturn, 1) := by decide +kernel
theorem dc_67_90 : decode (ax_code 67) 90 = .ok (.aload_n 0, 1) := by decide +kernel
theorem dc_67_91 : decode (ax_code 67) 91 = .ok (.getfield 26, 3) := by decide +kernel
theorem dc_67_94 : decode (ax_code 67) 94 = .ok (.getfield 215, 3) := by decide +kernel
theorem dc_67_97 : decode (ax_code 67) 97 = .ok (.iload_n 2, 1) := by decide +kernel
theorem dc_67_98 : decode (ax_code 67) 98 = .ok (.iaload, 1) := by decide +kernel
theorem dc_67_99 : decode (ax_code 67) 99 = .ok (.ireturn, 1) := by decide +kernel
theorem dc_67_100 : decode (ax_code 67) 100 = .ok (.aload_n 0, 1) := by decide +kernel
theorem dc_67_101 : decode (ax_code 67) 101 = .ok (.getfield 26, 3) := by decide +kernel
theorem dc_67_104 : decode (ax_code 67) 104 = .ok (.getfield 218, 3) := by decide +kernel
theorem dc_67_107 : decode (ax_code 67) 107 = .ok (.iload_n 2, 1) := by decide +kernel
theorem dc_67_108 : decode (ax_code 67) 108 = .ok (.iaload, 1) := by decide +kernel
theorem dc_67_109 : decode (ax_code 67) 109 = .ok (.ireturn, 1) := by decide +kernel
theorem dc_67_110 : decode (ax_code 67) 110 = .ok (.aload_n 0, 1) := by decide +kernel
theorem dc_67_111 : decode (ax_code 67) 111 = .ok (.getfield 10, 3) := by decide +kernel
theorem dc_67_114 : decode (ax_code 67) 114 = .ok (.iload_n 1, 1) := by decide +kernel
theorem dc_67_115 : decode (ax_code 67) 115 = .ok (.aload_n 0, 1) := by decide +kernel
theorem dc_67_116 : decode (ax_code 67) 116 = .ok (.getfield 26, 3) := by decide +kernel
theorem dc_67_119 : decode (ax_code 67) 119 = .ok (.getfield 212, 3) := by decide +kernel
theorem dc_67_122 : decode (ax_code 67) 122 = .ok (.iload_n 2, 1) := by decide +kernel
theorem dc_67_123 : decode (ax_code 67) 123 = .ok (.iaload, 1) := by decide +kernel
theorem dc_67_124 : decode (ax_code 67) 124 = .ok (.aload_n 0, 1) := by decide +kernel
theorem dc_67_125 : decode (ax_code 67) 125 = .ok (.getfield 26, 3) := by decide +kernel
theorem dc_67_128 : decode (ax_code 67) 128 = .ok (.getfield 215, 3) := by decide +kernel
theorem dc_67_131 : decode (ax_code 67) 131 = .ok (.iload_n 2, 1) := by decide +kernel
theorem dc_67_132 : decode (ax_code 67) 132 = .ok (.iaload, 1) := by decide +kernel
theorem dc_67_133 : decode (ax_code 67) 133 = .ok (.invokevirtual 221, 3) := by decide +kernel
theorem dc_67_136 : decode (ax_code 67) 136 = .ok (.ireturn, 1) := by decide +kernel
theorem dc_68_0 : decode (ax_code 68) 0 = .ok (.iload_n 1, 1) := by decide +kernel
theorem dc_68_1 : decode (ax_code 68) 1 = .ok (.invokestatic 173, 3) := by decide +kernel
theorem dc_68_4 : decode (ax_code 68) 4 = .ok (.ifCond .ne 6, 3) := by decide +kernel
theorem dc_68_7 : decode (ax_code 68) 7 = .ok (.bipush (-2), 2) := by decide +kernel
theorem dc_68_9 : decode (ax_code 68) 9 = .ok (.ireturn, 1) := by decide +kernel
theorem dc_68_10 : decode (ax_code 68) 10 = .ok (.aload_n 0, 1) := by decide +kernel
theorem dc_68_11 : decode (ax_code 68) 11 = .ok (.getfield 26, 3) := by decide +kernel
theorem dc_68_14 : decode (ax_code 68) 14 = .ok (.aload_n 0, 1) := by decide +kernel
theorem dc_68_15 : decode (ax_code 68) 15 = .ok (.getfield 10, 3) := by decide +kernel
theorem dc_68_18 : decode (ax_code 68) 18 = .ok (.getfield 77, 3) := by decide +kernel
theorem dc_68_21 : decode (ax_code 68) 21 = .ok (.iload_n 1, 1) := by decide +kernel
theorem dc_68_22 : decode (ax_code 68) 22 = .ok (.invokevirtual 224, 3) := by decide +kernel
theorem dc_68_25 : decode (ax_code 68) 25 = .ok (.ifCond .eq 7, 3) := by decide +kernel
theorem dc_68_28 : decode (ax_code 68) 28 = .ok (.iconst 1, 1) := by decide +kernel
theorem dc_68_29 : decode (ax_code 68) 29 = .ok (.goto 4, 3) := by decide +kernel
theorem dc_68_32 : decode (ax_code 68) 32 = .ok (.iconst 0, 1) := by decide +kernel
theorem dc_68_33 : decode (ax_code 68) 33 = .ok (.ireturn, 1) := by decide +kernel
theorem dc_69_0 : decode (ax_code 69) 0 = .ok (.aload_n 0, 1) := by decide +kernel
theorem dc_69_1 : decode (ax_code 69) 1 = .ok (.aload_n 1, 1) := by decide +kernel
theorem dc_69_2 : decode (ax_code 69) 2 = .ok (.iload_n 2, 1) := by decide +kernel
theorem dc_69_3 : decode (ax_code 69) 3 = .ok (.invokevirtual 55, 3) := by decide +kernel
theorem dc_69_6 : decode (ax_code 69) 6 = .ok (.iconst 0, 1) := by decide +kernel
theorem dc_69_7 : decode (ax_code 69) 7 = .ok (.istore_n 3, 1) := by decide +kernel
theorem dc_69_8 : decode (ax_code 69) 8 = .ok (.iload_n 3, 1) := by decide +kernel
theorem dc_69_9 : decode (ax_code 69) 9 = .ok (.aload_n 1, 1) := by decide +kernel
theorem dc_69_10 : decode (ax_code 69) 10 = .ok (.getfield 31, 3) := by decide +kernel
theorem dc_69_13 : decode (ax_code 69) 13 = .ok (.if_icmp .ge 57, 3) := by decide +kernel
theorem dc_69_16 : decode (ax_code 69) 16 = .ok (.iconst 0, 1) := by decide +kernel
theorem dc_69_17 : decode (ax_code 69) 17 = .ok (.istore 4, 2) := by decide +kernel
theorem dc_69_19 : decode (ax_code 69) 19 = .ok (.iload 4, 2) := by decide +kernel
theorem dc_69_21 : decode (ax_code 69) 21 = .ok (.iload_n 3, 1) := by decide +kernel
theorem dc_69_22 : decode (ax_code 69) 22 = .ok (.if_icmp .ge 42, 3) := by decide +kernel
theorem dc_69_25 : decode (ax_code 69) 25 = .ok (.aload_n 1, 1) := by decide +kernel
theorem dc_69_26 : decode (ax_code 69) 26 = .ok (.iload_n 2, 1) := by decide +kernel
theorem dc_69_27 : decode (ax_code 69) 27 = .ok (.iload 4, 2) := by decide +kernel
theorem dc_69_29 : decode (ax_code 69) 29 = .ok (.invokevirtual 36, 3) := by decide +kernel
theorem dc_69_32 : decode (ax_code 69) 32 = .ok (.ifCond .eq 26, 3) := by decide +kernel
theorem dc_69_35 : decode (ax_code 69) 35 = .ok (.aload_n 1, 1) := by decide +kernel
theorem dc_69_36 : decode (ax_code 69) 36 = .ok (.iload_n 2, 1) := by decide +kernel
theorem dc_69_37 : decode (ax_code 69) 37 = .ok (.iload_n 3, 1) := by decide +kernel
theorem dc_69_38 : decode (ax_code 69) 38 = .ok (.invokevirtual 36, 3) := by decide +kernel
theorem dc_69_41 : decode (ax_code 69) 41 = .ok (.ifCond .eq 17, 3) := by decide +kernel
theorem dc_69_44 : decode (ax_code 69) 44 = .ok (.aload_n 0, 1) := by decide +kernel
theorem dc_69_45 : decode (ax_code 69) 45 = .ok (.aload_n 1, 1) := by decide +kernel
theorem dc_69_46 : decode (ax_code 69) 46 = .ok (.iload_n 2, 1) := by decide +kernel
theorem dc_69_47 : decode (ax_code 69) 47 = .ok (.iload 4, 2) := by decide +kernel
theorem dc_69_49 : decode (ax_code 69) 49 = .ok (.iload_n 3, 1) := by decide +kernel
theorem dc_69_50 : decode (ax_code 69) 50 = .ok (.invokevirtual 59, 3) := by decide +kernel
theorem dc_69_53 : decode (ax_code 69) 53 = .ok (.ifCond .ne 5, 3) := by decide +kernel
theorem dc_69_56 : decode (ax_code 69) 56 = .ok (.iconst 0, 1) := by decide +kernel
theorem dc_69_57 : decode (ax_code 69) 57 = .ok (.ireturn, 1) := by decide +kernel
theorem dc_69_58 : decode (ax_code 69) 58 = .ok (.iinc 4 1, 3) := by decide +kernel
theorem dc_69_61 : decode (ax_code 69) 61 = .ok (.goto (-42), 3) := by decide +kernel
theorem dc_69_64 : decode (ax_code 69) 64 = .ok (.iinc 3 1, 3) := by decide +kernel
theorem dc_69_67 : decode (ax_code 69) 67 = .ok (.goto (-59), 3) := by decide +kernel
theorem dc_69_70 : decode (ax_code 69) 70 = .ok (.iconst 1, 1) := by decide +kernel
theorem dc_69_71 : decode (ax_code 69) 71 = .ok (.ireturn, 1) := by decide +kernel
theorem dc_70_0 : decode (ax_code 70) 0 = .ok (.iconst 0, 1) := by decide +kernel
theorem dc_70_1 : decode (ax_code 70) 1 = .ok (.istore 5, 2) := by decide +kernel
theorem dc_70_3 : decode (ax_code 70) 3 = .ok (.iload 5, 2) := by decide +kernel
theorem dc_70_5 : decode (ax_code 70) 5 = .ok (.aload_n 0, 1) := by decide +kernel
theorem dc_70_6 : decode (ax_code 70) 6 = .ok (.getfield 21, 3) := by decide +kernel
theorem dc_70_9 : decode (ax_code 70) 9 = .ok (.if_icmp .ge 17, 3) := by decide +kernel
theorem dc_70_12 : decode (ax_code 70) 12 = .ok (.aload_n 0, 1) := by decide +kernel
theorem dc_70_13 : decode (ax_code 70) 13 = .ok (.getfield 28, 3) := by decide +kernel
theorem dc_70_16 : decode (ax_code 70) 16 = .ok (.iload 5, 2) := by decide +kernel
theorem dc_70_18 : decode (ax_code 70) 18 = .ok (.iconst (-1), 1) := by decide +kernel
theorem dc_70_19 : decode (ax_code 70) 19 = .ok (.iastore, 1) := by decide +kernel
theorem dc_70_20 : decode (ax_code 70) 20 = .ok (.iinc 5 1, 3) := by decide +kernel
theorem dc_70_23 : decode (ax_code 70) 23 = .ok (.goto (-20), 3) := by decide +kernel
theorem dc_70_26 : decode (ax_code 70) 26 = .ok (.iconst 0, 1) := by decide +kernel
theorem dc_70_27 : decode (ax_code 70) 27 = .ok (.istore 5, 2) := by decide +kernel
theorem dc_70_29 : decode (ax_code 70) 29 = .ok (.iload 5, 2) := by decide +kernel
theorem dc_70_31 : decode (ax_code 70) 31 = .ok (.aload_n 1, 1) := by decide +kernel
theorem dc_70_32 : decode (ax_code 70) 32 = .ok (.getfield 44, 3) := by decide +kernel
theorem dc_70_35 : decode (ax_code 70) 35 = .ok (.iload 4, 2) := by decide +kernel
theorem dc_70_37 : decode (ax_code 70) 37 = .ok (.iaload, 1) := by decide +kernel
theorem dc_70_38 : decode (ax_code 70) 38 = .ok (.if_icmp .ge 85, 3) := by decide +kernel
theorem dc_70_41 : decode (ax_code 70) 41 = .ok (.aload_n 0, 1) := by decide +kernel
theorem dc_70_42 : decode (ax_code 70) 42 = .ok (.iload 4, 2) := by decide +kernel
theorem dc_70_44 : decode (ax_code 70) 44 = .ok (.aload_n 1, 1) := by decide +kernel
theorem dc_70_45 : decode (ax_code 70) 45 = .ok (.iload_n 2, 1) := by decide +kernel
theorem dc_70_46 : decode (ax_code 70) 46 = .ok (.iload 5, 2) := by decide +kernel
theorem dc_70_48 : decode (ax_code 70) 48 = .ok (.iload 4, 2) := by decide +kernel
theorem dc_70_50 : decode (ax_code 70) 50 = .ok (.invokevirtual 47, 3) := by decide +kernel
theorem dc_70_53 : decode (ax_code 70) 53 = .ok (.invokevirtual 63, 3) := by decide +kernel
theorem dc_70_56 : decode (ax_code 70) 56 = .ok (.istore 6, 2) := by decide +kernel
theorem dc_70_58 : decode (ax_code 70) 58 = .ok (.iload 6, 2) := by decide +kernel
theorem dc_70_60 : decode (ax_code 70) 60 = .ok (.ifCond .ge 6, 3) := by decide +kernel
theorem dc_70_63 : decode (ax_code 70) 63 = .ok (.goto 54, 3) := by decide +kernel
theorem dc_70_66 : decode (ax_code 70) 66 = .ok (.aload_n 1, 1) := by decide +kernel
theorem dc_70_67 : decode (ax_code 70) 67 = .ok (.iload_n 2, 1) := by decide +kernel
theorem dc_70_68 : decode (ax_code 70) 68 = .ok (.iload_n 3, 1) := by decide +kernel
theorem dc_70_69 : decode (ax_code 70) 69 = .ok (.invokevirtual 67, 3) := by decide +kernel
theorem dc_70_72 : decode (ax_code 70) 72 = .ok (.iconst 4, 1) := by decide +kernel
theorem dc_70_73 : decode (ax_code 70) 73 = .ok (.imul, 1) := by decide +kernel
theorem dc_70_74 : decode (ax_code 70) 74 = .ok (.aload_n 1, 1) := by decide +kernel
theorem dc_70_75 : decode (ax_code 70) 75 = .ok (.getfield 70, 3) := by decide +kernel
theorem dc_70_78 : decode (ax_code 70) 78 = .ok (.iload_n 3, 1) := by decide +kernel
theorem dc_70_79 : decode (ax_code 70) 79 = .ok (.iaload, 1) := by decide +kernel
theorem dc_70_80 : decode (ax_code 70) 80 = .ok (.iadd, 1) := by decide +kernel
theorem dc_70_81 : decode (ax_code 70) 81 = .ok (.istore 7, 2) := by decide +kernel
theorem dc_70_83 : decode (ax_code 70) 83 = .ok (.aload_n 0, 1) := by decide +kernel
theorem dc_70_84 : decode (ax_code 70) 84 = .ok (.getfield 28, 3) := by decide +kernel
theorem dc_70_87 : decode (ax_code 70) 87 = .ok (.iload 6, 2) := by decide +kernel
theorem dc_70_89 : decode (ax_code 70) 89 = .ok (.iaload, 1) := by decide +kernel
theorem dc_70_90 : decode (ax_code 70) 90 = .ok (.iconst (-1), 1) := by decide +kernel
theorem dc_70_91 : decode (ax_code 70) 91 = .ok (.if_icmp .ne 12, 3) := by decide +kernel
theorem dc_70_94 : decode (ax_code 70) 94 = .ok (.aload_n 0, 1) := by decide +kernel
theorem dc_70_95 : decode (ax_code 70) 95 = .ok (.getfield 28, 3) := by decide +kernel
theorem dc_70_98 : decode (ax_code 70) 98 = .ok (.iload 6, 2) := by decide +kernel
theorem dc_70_100 : decode (ax_code 70) 100 = .ok (.iload 7, 2) := by decide +kernel
theorem dc_70_102 : decode (ax_code 70) 102 = .ok (.iastore, 1) := by decide +kernel
theorem dc_70_103 : decode (ax_code 70) 103 = .ok (.aload_n 0, 1) := by decide +kernel
theorem dc_70_104 : decode (ax_code 70) 104 = .ok (.getfield 28, 3) := by decide +kernel
theorem dc_70_107 : decode (ax_code 70) 107 = .ok (.iload 6, 2) := by decide +kernel
theorem dc_70_109 : decode (ax_code 70) 109 = .ok (.iaload, 1) := by decide +kernel
theorem dc_70_110 : decode (ax_code 70) 110 = .ok (.iload 7, 2) := by decide +kernel
theorem dc_70_112 : decode (ax_code 70) 112 = .ok (.if_icmp .eq 5, 3) := by decide +kernel
theorem dc_70_115 : decode (ax_code 70) 115 = .ok (.iconst 0, 1) := by decide +kernel
theorem dc_70_116 : decode (ax_code 70) 116 = .ok (.ireturn, 1) := by decide +kernel
theorem dc_70_117 : decode (ax_code 70) 117 = .ok (.iinc 5 1, 3) := by decide +kernel
theorem dc_70_120 : decode (ax_code 70) 120 = .ok (.goto (-91), 3) := by decide +kernel
theorem dc_70_123 : decode (ax_code 70) 123 = .ok (.iconst 1, 1) := by decide +kernel
theorem dc_70_124 : decode (ax_code 70) 124 = .ok (.ireturn, 1) := by decide +kernel
theorem dc_71_0 : decode (ax_code 71) 0 = .ok (.iconst 0, 1) := by decide +kernel
theorem dc_71_1 : decode (ax_code 71) 1 = .ok (.istore_n 3, 1) := by decide +kernel
theorem dc_71_2 : decode (ax_code 71) 2 = .ok (.aload_n 0, 1) := by decide +kernel
theorem dc_71_3 : decode (ax_code 71) 3 = .ok (.getfield 21, 3) := by decide +kernel
theorem dc_71_6 : decode (ax_code 71) 6 = .ok (.istore 4, 2) := by decide +kernel
theorem dc_71_8 : decode (ax_code 71) 8 = .ok (.iload_n 3, 1) := by decide +kernel
theorem dc_71_9 : decode (ax_code 71) 9 = .ok (.iload 4, 2) := by decide +kernel
theorem dc_71_11 : decode (ax_code 71) 11 = .ok (.if_icmp .ge 59, 3) := by decide +kernel
theorem dc_71_14 : decode (ax_code 71) 14 = .ok (.iload_n 3, 1) := by decide +kernel
theorem dc_71_15 : decode (ax_code 71) 15 = .ok (.iload 4, 2) := by decide +kernel
theorem dc_71_17 : decode (ax_code 71) 17 = .ok (.iadd, 1) := by decide +kernel
theorem dc_71_18 : decode (ax_code 71) 18 = .ok (.iconst 2, 1) := by decide +kernel
theorem dc_71_19 : decode (ax_code 71) 19 = .ok (.idiv, 1) := by decide +kernel
theorem dc_71_20 : decode (ax_code 71) 20 = .ok (.istore 5, 2) := by decide +kernel
theorem dc_71_22 : decode (ax_code 71) 22 = .ok (.aload_n 0, 1) := by decide +kernel
theorem dc_71_23 : decode (ax_code 71) 23 = .ok (.getfield 9, 3) := by decide +kernel
theorem dc_71_26 : decode (ax_code 71) 26 = .ok (.iload 5, 2) := by decide +kernel
theorem dc_71_28 : decode (ax_code 71) 28 = .ok (.iaload, 1) := by decide +kernel
theorem dc_71_29 : decode (ax_code 71) 29 = .ok (.iload_n 1, 1) := by decide +kernel
theorem dc_71_30 : decode (ax_code 71) 30 = .ok (.if_icmp .lt 25, 3) := by decide +kernel
theorem dc_71_33 : decode (ax_code 71) 33 = .ok (.aload_n 0, 1) := by decide +kernel
theorem dc_71_34 : decode (ax_code 71) 34 = .ok (.getfield 9, 3) := by decide +kernel
theorem dc_71_37 : decode (ax_code 71) 37 = .ok (.iload 5, 2) := by decide +kernel
theorem dc_71_39 : decode (ax_code 71) 39 = .ok (.iaload, 1) := by decide +kernel
theorem dc_71_40 : decode (ax_code 71) 40 = .ok (.iload_n 1, 1) := by decide +kernel
theorem dc_71_41 : decode (ax_code 71) 41 = .ok (.if_icmp .ne 22, 3) := by decide +kernel
theorem dc_71_44 : decode (ax_code 71) 44 = .ok (.aload_n 0, 1) := by decide +kernel
theorem dc_71_45 : decode (ax_code 71) 45 = .ok (.getfield 15, 3) := by decide +kernel
theorem dc_71_48 : decode (ax_code 71) 48 = .ok (.iload 5, 2) := by decide +kernel
theorem dc_71_50 : decode (ax_code 71) 50 = .ok (.iaload, 1) := by decide +kernel
theorem dc_71_51 : decode (ax_code 71) 51 = .ok (.iload_n 2, 1) := by decide +kernel
theorem dc_71_52 : decode (ax_code 71) 52 = .ok (.if_icmp .ge 11, 3) := by decide +kernel
theorem dc_71_55 : decode (ax_code 71) 55 = .ok (.iload 5, 2) := by decide +kernel
theorem dc_71_57 : decode (ax_code 71) 57 = .ok (.iconst 1, 1) := by decide +kernel
theorem dc_71_58 : decode (ax_code 71) 58 = .ok (.iadd, 1) := by decide +kernel
theorem dc_71_59 : decode (ax_code 71) 59 = .ok (.istore_n 3, 1) := by decide +kernel
theorem dc_71_60 : decode (ax_code 71) 60 = .ok (.goto 7, 3) := by decide +kernel
theorem dc_71_63 : decode (ax_code 71) 63 = .ok (.iload 5, 2) := by decide +kernel
theorem dc_71_65 : decode (ax_code 71) 65 = .ok (.istore 4, 2) := by decide +kernel
theorem dc_71_67 : decode (ax_code 71) 67 = .ok (.goto (-59), 3) := by decide +kernel
theorem dc_71_70 : decode (ax_code 71) 70 = .ok (.iload_n 3, 1) := by decide +kernel
theorem dc_71_71 : decode (ax_code 71) 71 = .ok (.aload_n 0, 1) := by decide +kernel
theorem dc_71_72 : decode (ax_code 71) 72 = .ok (.getfield 21, 3) := by decide +kernel
theorem dc_71_75 : decode (ax_code 71) 75 = .ok (.if_icmp .ge 27, 3) := by decide +kernel
theorem dc_71_78 : decode (ax_code 71) 78 = .ok (.aload_n 0, 1) := by decide +kernel
theorem dc_71_79 : decode (ax_code 71) 79 = .ok (.getfield 9, 3) := by decide +kernel
theorem dc_71_82 : decode (ax_code 71) 82 = .ok (.iload_n 3, 1) := by decide +kernel
theorem dc_71_83 : decode (ax_code 71) 83 = .ok (.iaload, 1) := by decide +kernel
theorem dc_71_84 : decode (ax_code 71) 84 = .ok (.iload_n 1, 1) := by decide +kernel
theorem dc_71_85 : decode (ax_code 71) 85 = .ok (.if_icmp .ne 17, 3) := by decide +kernel
theorem dc_71_88 : decode (ax_code 71) 88 = .ok (.aload_n 0, 1) := by decide +kernel
theorem dc_71_89 : decode (ax_code 71) 89 = .ok (.getfield 15, 3) := by decide +kernel
theorem dc_71_92 : decode (ax_code 71) 92 = .ok (.iload_n 3, 1) := by decide +kernel
theorem dc_71_93 : decode (ax_code 71) 93 = .ok (.iaload, 1) := by decide +kernel
theorem dc_71_94 : decode (ax_code 71) 94 = .ok (.iload_n 2, 1) := by decide +kernel
theorem dc_71_95 : decode (ax_code 71) 95 = .ok (.if_icmp .ne 7, 3) := by decide +kernel
theorem dc_71_98 : decode (ax_code 71) 98 = .ok (.iload_n 3, 1) := by decide +kernel
theorem dc_71_99 : decode (ax_code 71) 99 = .ok (.goto 4, 3) := by decide +kernel
theorem dc_71_102 : decode (ax_code 71) 102 = .ok (.iconst (-1), 1) := by decide +kernel
theorem dc_71_103 : decode (ax_code 71) 103 = .ok (.ireturn, 1) := by decide +kernel
theorem dc_72_0 : decode (ax_code 72) 0 = .ok (.iload_n 1, 1) := by decide +kernel
theorem dc_72_1 : decode (ax_code 72) 1 = .ok (.invokestatic 173, 3) := by decide +kernel
theorem dc_72_4 : decode (ax_code 72) 4 = .ok (.ifCond .eq 40, 3) := by decide +kernel
theorem dc_72_7 : decode (ax_code 72) 7 = .ok (.aload_n 0, 1) := by decide +kernel
theorem dc_72_8 : decode (ax_code 72) 8 = .ok (.getfield 10, 3) := by decide +kernel
theorem dc_72_11 : decode (ax_code 72) 11 = .ok (.getfield 77, 3) := by decide +kernel
theorem dc_72_14 : decode (ax_code 72) 14 = .ok (.iload_n 1, 1) := by decide +kernel
theorem dc_72_15 : decode (ax_code 72) 15 = .ok (.iload_n 2, 1) := by decide +kernel
theorem dc_72_16 : decode (ax_code 72) 16 = .ok (.invokevirtual 228, 3) := by decide +kernel
theorem dc_72_19 : decode (ax_code 72) 19 = .ok (.ifCond .eq 25, 3) := by decide +kernel
theorem dc_72_22 : decode (ax_code 72) 22 = .ok (.iload 4, 2) := by decide +kernel
theorem dc_72_24 : decode (ax_code 72) 24 = .ok (.ifCond .lt 20, 3) := by decide +kernel
theorem dc_72_27 : decode (ax_code 72) 27 = .ok (.iload 4, 2) := by decide +kernel
theorem dc_72_29 : decode (ax_code 72) 29 = .ok (.aload_n 0, 1) := by decide +kernel
theorem dc_72_30 : decode (ax_code 72) 30 = .ok (.getfield 10, 3) := by decide +kernel
theorem dc_72_33 : decode (ax_code 72) 33 = .ok (.getfield 77, 3) := by decide +kernel
theorem dc_72_36 : decode (ax_code 72) 36 = .ok (.getfield 231, 3) := by decide +kernel
theorem dc_72_39 : decode (ax_code 72) 39 = .ok (.iload_n 2, 1) := by decide +kernel
theorem dc_72_40 : decode (ax_code 72) 40 = .ok (.iaload, 1) := by decide +kernel
theorem dc_72_41 : decode (ax_code 72) 41 = .ok (.if_icmp .lt 6, 3) := by decide +kernel
theorem dc_72_44 : decode (ax_code 72) 44 = .ok (.bipush (-2), 2) := by decide +kernel
theorem dc_72_46 : decode (ax_code 72) 46 = .ok (.ireturn, 1) := by decide +kernel
theorem dc_72_47 : decode (ax_code 72) 47 = .ok (.aload_n 0, 1) := by decide +kernel
theorem dc_72_48 : decode (ax_code 72) 48 = .ok (.getfield 10, 3) := by decide +kernel
theorem dc_72_51 : decode (ax_code 72) 51 = .ok (.getfield 77, 3) := by decide +kernel
theorem dc_72_54 : decode (ax_code 72) 54 = .ok (.iload_n 1, 1) := by decide +kernel
theorem dc_72_55 : decode (ax_code 72) 55 = .ok (.iload_n 2, 1) := by decide +kernel
theorem dc_72_56 : decode (ax_code 72) 56 = .ok (.iload_n 3, 1) := by decide +kernel
theorem dc_72_57 : decode (ax_code 72) 57 = .ok (.invokevirtual 180, 3) := by decide +kernel
theorem dc_72_60 : decode (ax_code 72) 60 = .ok (.ifCond .ne 5, 3) := by decide +kernel
theorem dc_72_63 : decode (ax_code 72) 63 = .ok (.iconst (-1), 1) := by decide +kernel
theorem dc_72_64 : decode (ax_code 72) 64 = .ok (.ireturn, 1) := by decide +kernel
theorem dc_72_65 : decode (ax_code 72) 65 = .ok (.aload_n 0, 1) := by decide +kernel
theorem dc_72_66 : decode (ax_code 72) 66 = .ok (.getfield 10, 3) := by decide +kernel
theorem dc_72_69 : decode (ax_code 72) 69 = .ok (.iload_n 1, 1) := by decide +kernel
theorem dc_72_70 : decode (ax_code 72) 70 = .ok (.iload_n 2, 1) := by decide +kernel
theorem dc_72_71 : decode (ax_code 72) 71 = .ok (.iload_n 3, 1) := by decide +kernel
theorem dc_72_72 : decode (ax_code 72) 72 = .ok (.invokevirtual 221, 3) := by decide +kernel
theorem dc_72_75 : decode (ax_code 72) 75 = .ok (.istore 5, 2) := by decide +kernel
theorem dc_72_77 : decode (ax_code 72) 77 = .ok (.aload_n 0, 1) := by decide +kernel
theorem dc_72_78 : decode (ax_code 72) 78 = .ok (.getfield 10, 3) := by decide +kernel
theorem dc_72_81 : decode (ax_code 72) 81 = .ok (.getfield 234, 3) := by decide +kernel
theorem dc_72_84 : decode (ax_code 72) 84 = .ok (.iload_n 1, 1) := by decide +kernel
theorem dc_72_85 : decode (ax_code 72) 85 = .ok (.iload_n 2, 1) := by decide +kernel
theorem dc_72_86 : decode (ax_code 72) 86 = .ok (.iload_n 3, 1) := by decide +kernel
theorem dc_72_87 : decode (ax_code 72) 87 = .ok (.iload 4, 2) := by decide +kernel
theorem dc_72_89 : decode (ax_code 72) 89 = .ok (.invokevirtual 238, 3) := by decide +kernel
theorem dc_72_92 : decode (ax_code 72) 92 = .ok (.ifCond .eq 8, 3) := by decide +kernel
theorem dc_72_95 : decode (ax_code 72) 95 = .ok (.iload 5, 2) := by decide +kernel
theorem dc_72_97 : decode (ax_code 72) 97 = .ok (.goto 5, 3) := by decide +kernel
theorem dc_72_100 : decode (ax_code 72) 100 = .ok (.bipush (-4), 2) := by decide +kernel
theorem dc_72_102 : decode (ax_code 72) 102 = .ok (.ireturn, 1) := by decide +kernel
theorem dc_73_0 : decode (ax_code 73) 0 = .ok (.iload_n 1, 1) := by decide +kernel
theorem dc_73_1 : decode (ax_code 73) 1 = .ok (.iload_n 2, 1) := by decide +kernel
theorem dc_73_2 : decode (ax_code 73) 2 = .ok (.iload_n 3, 1) := by decide +kernel
theorem dc_73_3 : decode (ax_code 73) 3 = .ok (.invokestatic 22, 3) := by decide +kernel
theorem dc_73_6 : decode (ax_code 73) 6 = .ok (.istore 5, 2) := by decide +kernel
theorem dc_73_8 : decode (ax_code 73) 8 = .ok (.iconst 0, 1) := by decide +kernel
theorem dc_73_9 : decode (ax_code 73) 9 = .ok (.istore 6, 2) := by decide +kernel
theorem dc_73_11 : decode (ax_code 73) 11 = .ok (.iload 6, 2) := by decide +kernel
theorem dc_73_13 : decode (ax_code 73) 13 = .ok (.aload_n 0, 1) := by decide +kernel
theorem dc_73_14 : decode (ax_code 73) 14 = .ok (.getfield 18, 3) := by decide +kernel
theorem dc_73_17 : decode (ax_code 73) 17 = .ok (.if_icmp .ge 21, 3) := by decide +kernel
theorem dc_73_20 : decode (ax_code 73) 20 = .ok (.aload_n 0, 1) := by decide +kernel
theorem dc_73_21 : decode (ax_code 73) 21 = .ok (.getfield 9, 3) := by decide +kernel
theorem dc_73_24 : decode (ax_code 73) 24 = .ok (.iload 6, 2) := by decide +kernel
theorem dc_73_26 : decode (ax_code 73) 26 = .ok (.iaload, 1) := by decide +kernel
theorem dc_73_27 : decode (ax_code 73) 27 = .ok (.iload 5, 2) := by decide +kernel
theorem dc_73_29 : decode (ax_code 73) 29 = .ok (.if_icmp .eq 9, 3) := by decide +kernel
theorem dc_73_32 : decode (ax_code 73) 32 = .ok (.iinc 6 1, 3) := by decide +kernel
theorem dc_73_35 : decode (ax_code 73) 35 = .ok (.goto (-24), 3) := by decide +kernel
theorem dc_73_38 : decode (ax_code 73) 38 = .ok (.iload 6, 2) := by decide +kernel
theorem dc_73_40 : decode (ax_code 73) 40 = .ok (.bipush 40, 2) := by decide +kernel
theorem dc_73_42 : decode (ax_code 73) 42 = .ok (.if_icmp .lt 5, 3) := by decide +kernel
theorem dc_73_45 : decode (ax_code 73) 45 = .ok (.iconst 0, 1) := by decide +kernel
theorem dc_73_46 : decode (ax_code 73) 46 = .ok (.ireturn, 1) := by decide +kernel
theorem dc_73_47 : decode (ax_code 73) 47 = .ok (.iload 6, 2) := by decide +kernel
theorem dc_73_49 : decode (ax_code 73) 49 = .ok (.aload_n 0, 1) := by decide +kernel
theorem dc_73_50 : decode (ax_code 73) 50 = .ok (.getfield 18, 3) := by decide +kernel
theorem dc_73_53 : decode (ax_code 73) 53 = .ok (.if_icmp .ne 13, 3) := by decide +kernel
theorem dc_73_56 : decode (ax_code 73) 56 = .ok (.aload_n 0, 1) := by decide +kernel
theorem dc_73_57 : decode (ax_code 73) 57 = .ok (.dup, 1) := by decide +kernel
theorem dc_73_58 : decode (ax_code 73) 58 = .ok (.getfield 18, 3) := by decide +kernel
theorem dc_73_61 : decode (ax_code 73) 61 = .ok (.iconst 1, 1) := by decide +kernel
theorem dc_73_62 : decode (ax_code 73) 62 = .ok (.iadd, 1) := by decide +kernel
theorem dc_73_63 : decode (ax_code 73) 63 = .ok (.putfield 18, 3) := by decide +kernel
theorem dc_73_66 : decode (ax_code 73) 66 = .ok (.aload_n 0, 1) := by decide +kernel
theorem dc_73_67 : decode (ax_code 73) 67 = .ok (.getfield 9, 3) := by decide +kernel
theorem dc_73_70 : decode (ax_code 73) 70 = .ok (.iload 6, 2) := by decide +kernel
theorem dc_73_72 : decode (ax_code 73) 72 = .ok (.iload 5, 2) := by decide +kernel
theorem dc_73_74 : decode (ax_code 73) 74 = .ok (.iastore, 1) := by decide +kernel
theorem dc_73_75 : decode (ax_code 73) 75 = .ok (.aload_n 0, 1) := by decide +kernel
theorem dc_73_76 : decode (ax_code 73) 76 = .ok (.getfield 15, 3) := by decide +kernel
theorem dc_73_79 : decode (ax_code 73) 79 = .ok (.iload 6, 2) := by decide +kernel
theorem dc_73_81 : decode (ax_code 73) 81 = .ok (.iload 4, 2) := by decide +kernel
theorem dc_73_83 : decode (ax_code 73) 83 = .ok (.iastore, 1) := by decide +kernel
theorem dc_73_84 : decode (ax_code 73) 84 = .ok (.iconst 1, 1) := by decide +kernel
theorem dc_73_85 : decode (ax_code 73) 85 = .ok (.ireturn, 1) := by decide +kernel
theorem dc_74_0 : decode (ax_code 74) 0 = .ok (.iconst 0, 1) := by decide +kernel
theorem dc_74_1 : decode (ax_code 74) 1 = .ok (.istore_n 2, 1) := by decide +kernel
theorem dc_74_2 : decode (ax_code 74) 2 = .ok (.iload_n 1, 1) := by decide +kernel
theorem dc_74_3 : decode (ax_code 74) 3 = .ok (.istore_n 3, 1) := by decide +kernel
theorem dc_74_4 : decode (ax_code 74) 4 = .ok (.iconst 0, 1) := by decide +kernel
theorem dc_74_5 : decode (ax_code 74) 5 = .ok (.istore 4, 2) := by decide +kernel
theorem dc_74_7 : decode (ax_code 74) 7 = .ok (.iload 4, 2) := by decide +kernel
theorem dc_74_9 : decode (ax_code 74) 9 = .ok (.iconst 3, 1) := by decide +kernel
theorem dc_74_10 : decode (ax_code 74) 10 = .ok (.if_icmp .ge 130, 3) := by decide +kernel
theorem dc_74_13 : decode (ax_code 74) 13 = .ok (.aload_n 0, 1) := by decide +kernel
theorem dc_74_14 : decode (ax_code 74) 14 = .ok (.getfield 26, 3) := by decide +kernel
theorem dc_74_17 : decode (ax_code 74) 17 = .ok (.aload_n 0, 1) := by decide +kernel
theorem dc_74_18 : decode (ax_code 74) 18 = .ok (.getfield 10, 3) := by decide +kernel
theorem dc_74_21 : decode (ax_code 74) 21 = .ok (.getfield 77, 3) := by decide +kernel
theorem dc_74_24 : decode (ax_code 74) 24 = .ok (.iload 4, 2) := by decide +kernel
theorem dc_74_26 : decode (ax_code 74) 26 = .ok (.invokevirtual 205, 3) := by decide +kernel
theorem dc_74_29 : decode (ax_code 74) 29 = .ok (.iconst 0, 1) := by decide +kernel
theorem dc_74_30 : decode (ax_code 74) 30 = .ok (.istore 5, 2) := by decide +kernel
theorem dc_74_32 : decode (ax_code 74) 32 = .ok (.iload 5, 2) := by decide +kernel
theorem dc_74_34 : decode (ax_code 74) 34 = .ok (.aload_n 0, 1) := by decide +kernel
theorem dc_74_35 : decode (ax_code 74) 35 = .ok (.getfield 26, 3) := by decide +kernel
theorem dc_74_38 : decode (ax_code 74) 38 = .ok (.getfield 209, 3) := by decide +kernel
theorem dc_74_41 : decode (ax_code 74) 41 = .ok (.if_icmp .ge 93, 3) := by decide +kernel
theorem dc_74_44 : decode (ax_code 74) 44 = .ok (.iload_n 3, 1) := by decide +kernel
theorem dc_74_45 : decode (ax_code 74) 45 = .ok (.ldc 244, 2) := by decide +kernel
theorem dc_74_47 : decode (ax_code 74) 47 = .ok (.imul, 1) := by decide +kernel
theorem dc_74_48 : decode (ax_code 74) 48 = .ok (.sipush 12345, 3) := by decide +kernel
theorem dc_74_51 : decode (ax_code 74) 51 = .ok (.iadd, 1) := by decide +kernel
theorem dc_74_52 : decode (ax_code 74) 52 = .ok (.istore_n 3, 1) := by decide +kernel
theorem dc_74_53 : decode (ax_code 74) 53 = .ok (.iconst 1, 1) := by decide +kernel
theorem dc_74_54 : decode (ax_code 74) 54 = .ok (.aload_n 0, 1) := by decide +kernel
theorem dc_74_55 : decode (ax_code 74) 55 = .ok (.getfield 10, 3) := by decide +kernel
theorem dc_74_58 : decode (ax_code 74) 58 = .ok (.getfield 77, 3) := by decide +kernel
theorem dc_74_61 : decode (ax_code 74) 61 = .ok (.getfield 231, 3) := by decide +kernel
theorem dc_74_64 : decode (ax_code 74) 64 = .ok (.aload_n 0, 1) := by decide +kernel
theorem dc_74_65 : decode (ax_code 74) 65 = .ok (.getfield 26, 3) := by decide +kernel
theorem dc_74_68 : decode (ax_code 74) 68 = .ok (.getfield 212, 3) := by decide +kernel
theorem dc_74_71 : decode (ax_code 74) 71 = .ok (.iload 5, 2) := by decide +kernel
theorem dc_74_73 : decode (ax_code 74) 73 = .ok (.iaload, 1) := by decide +kernel
theorem dc_74_74 : decode (ax_code 74) 74 = .ok (.iaload, 1) := by decide +kernel
theorem dc_74_75 : decode (ax_code 74) 75 = .ok (.invokestatic 245, 3) := by decide +kernel
theorem dc_74_78 : decode (ax_code 74) 78 = .ok (.istore 6, 2) := by decide +kernel
theorem dc_74_80 : decode (ax_code 74) 80 = .ok (.aload_n 0, 1) := by decide +kernel
theorem dc_74_81 : decode (ax_code 74) 81 = .ok (.getfield 10, 3) := by decide +kernel
theorem dc_74_84 : decode (ax_code 74) 84 = .ok (.getfield 234, 3) := by decide +kernel
theorem dc_74_87 : decode (ax_code 74) 87 = .ok (.iload 4, 2) := by decide +kernel
theorem dc_74_89 : decode (ax_code 74) 89 = .ok (.aload_n 0, 1) := by decide +kernel
theorem dc_74_90 : decode (ax_code 74) 90 = .ok (.getfield 26, 3) := by decide +kernel
theorem dc_74_93 : decode (ax_code 74) 93 = .ok (.getfield 212, 3) := by decide +kernel
theorem dc_74_96 : decode (ax_code 74) 96 = .ok (.iload 5, 2) := by decide +kernel
theorem dc_74_98 : decode (ax_code 74) 98 = .ok (.iaload, 1) := by decide +kernel
theorem dc_74_99 : decode (ax_code 74) 99 = .ok (.aload_n 0, 1) := by decide +kernel
theorem dc_74_100 : decode (ax_code 74) 100 = .ok (.getfield 26, 3) := by decide +kernel
theorem dc_74_103 : decode (ax_code 74) 103 = .ok (.getfield 215, 3) := by decide +kernel
theorem dc_74_106 : decode (ax_code 74) 106 = .ok (.iload 5, 2) := by decide +kernel
theorem dc_74_108 : decode (ax_code 74) 108 = .ok (.iaload, 1) := by decide +kernel
theorem dc_74_109 : decode (ax_code 74) 109 = .ok (.iload_n 3, 1) := by decide +kernel
theorem dc_74_110 : decode (ax_code 74) 110 = .ok (.bipush 8, 2) := by decide +kernel
theorem dc_74_112 : decode (ax_code 74) 112 = .ok (.iushr, 1) := by decide +kernel
theorem dc_74_113 : decode (ax_code 74) 113 = .ok (.iload 6, 2) := by decide +kernel
theorem dc_74_115 : decode (ax_code 74) 115 = .ok (.irem, 1) := by decide +kernel
theorem dc_74_116 : decode (ax_code 74) 116 = .ok (.invokevirtual 238, 3) := by decide +kernel
theorem dc_74_119 : decode (ax_code 74) 119 = .ok (.ifCond .ne 6, 3) := by decide +kernel
theorem dc_74_122 : decode (ax_code 74) 122 = .ok (.bipush (-4), 2) := by decide +kernel
theorem dc_74_124 : decode (ax_code 74) 124 = .ok (.ireturn, 1) := by decide +kernel
theorem dc_74_125 : decode (ax_code 74) 125 = .ok (.iinc 2 1, 3) := by decide +kernel
theorem dc_74_128 : decode (ax_code 74) 128 = .ok (.iinc 5 1, 3) := by decide +kernel
theorem dc_74_131 : decode (ax_code 74) 131 = .ok (.goto (-99), 3) := by decide +kernel
theorem dc_74_134 : decode (ax_code 74) 134 = .ok (.iinc 4 1, 3) := by decide +kernel
theorem dc_74_137 : decode (ax_code 74) 137 = .ok (.goto (-130), 3) := by decide +kernel
theorem dc_74_140 : decode (ax_code 74) 140 = .ok (.iload_n 2, 1) := by decide +kernel
theorem dc_74_141 : decode (ax_code 74) 141 = .ok (.ireturn, 1) := by decide +kernel
theorem dc_75_0 : decode (ax_code 75) 0 = .ok (.aload_n 0, 1) := by decide +kernel
theorem dc_75_1 : decode (ax_code 75) 1 = .ok (.getfield 10, 3) := by decide +kernel
theorem dc_75_4 : decode (ax_code 75) 4 = .ok (.getfield 234, 3) := by decide +kernel
theorem dc_75_7 : decode (ax_code 75) 7 = .ok (.getfield 250, 3) := by decide +kernel
theorem dc_75_10 : decode (ax_code 75) 10 = .ok (.istore_n 1, 1) := by decide +kernel
theorem dc_75_11 : decode (ax_code 75) 11 = .ok (.aload_n 0, 1) := by decide +kernel
theorem dc_75_12 : decode (ax_code 75) 12 = .ok (.getfield 10, 3) := by decide +kernel
theorem dc_75_15 : decode (ax_code 75) 15 = .ok (.getfield 234, 3) := by decide +kernel
theorem dc_75_18 : decode (ax_code 75) 18 = .ok (.iconst 0, 1) := by decide +kernel
theorem dc_75_19 : decode (ax_code 75) 19 = .ok (.putfield 250, 3) := by decide +kernel
theorem dc_75_22 : decode (ax_code 75) 22 = .ok (.iload_n 1, 1) := by decide +kernel
theorem dc_75_23 : decode (ax_code 75) 23 = .ok (.ireturn, 1) := by decide +kernel
theorem dc_76_0 : decode (ax_code 76) 0 = .ok (.iload_n 1, 1) := by decide +kernel
theorem dc_76_1 : decode (ax_code 76) 1 = .ok (.ifCond .lt 19, 3) := by decide +kernel
theorem dc_76_4 : decode (ax_code 76) 4 = .ok (.iload_n 1, 1) := by decide +kernel
theorem dc_76_5 : decode (ax_code 76) 5 = .ok (.iconst 4, 1) := by decide +kernel
theorem dc_76_6 : decode (ax_code 76) 6 = .ok (.if_icmp .gt 14, 3) := by decide +kernel
theorem dc_76_9 : decode (ax_code 76) 9 = .ok (.iload 6, 2) := by decide +kernel
theorem dc_76_11 : decode (ax_code 76) 11 = .ok (.ifCond .lt 9, 3) := by decide +kernel
theorem dc_76_14 : decode (ax_code 76) 14 = .ok (.iload 6, 2) := by decide +kernel
theorem dc_76_16 : decode (ax_code 76) 16 = .ok (.iconst 4, 1) := by decide +kernel
theorem dc_76_17 : decode (ax_code 76) 17 = .ok (.if_icmp .le 6, 3) := by decide +kernel
theorem dc_76_20 : decode (ax_code 76) 20 = .ok (.bipush (-2), 2) := by decide +kernel
theorem dc_76_22 : decode (ax_code 76) 22 = .ok (.ireturn, 1) := by decide +kernel
theorem dc_76_23 : decode (ax_code 76) 23 = .ok (.iload_n 2, 1) := by decide +kernel
theorem dc_76_24 : decode (ax_code 76) 24 = .ok (.ifCond .lt 19, 3) := by decide +kernel
theorem dc_76_27 : decode (ax_code 76) 27 = .ok (.iload_n 2, 1) := by decide +kernel
theorem dc_76_28 : decode (ax_code 76) 28 = .ok (.bipush 8, 2) := by decide +kernel
theorem dc_76_30 : decode (ax_code 76) 30 = .ok (.if_icmp .ge 13, 3) := by decide +kernel
theorem dc_76_33 : decode (ax_code 76) 33 = .ok (.iload_n 3, 1) := by decide +kernel
theorem dc_76_34 : decode (ax_code 76) 34 = .ok (.ifCond .lt 9, 3) := by decide +kernel
theorem dc_76_37 : decode (ax_code 76) 37 = .ok (.iload_n 3, 1) := by decide +kernel
theorem dc_76_38 : decode (ax_code 76) 38 = .ok (.bipush 8, 2) := by decide +kernel
theorem dc_76_40 : decode (ax_code 76) 40 = .ok (.if_icmp .lt 6, 3) := by decide +kernel
theorem dc_76_43 : decode (ax_code 76) 43 = .ok (.bipush (-2), 2) := by decide +kernel
theorem dc_76_45 : decode (ax_code 76) 45 = .ok (.ireturn, 1) := by decide +kernel
theorem dc_76_46 : decode (ax_code 76) 46 = .ok (.iload 4, 2) := by decide +kernel
theorem dc_76_48 : decode (ax_code 76) 48 = .ok (.invokestatic 173, 3) := by decide +kernel
theorem dc_76_51 : decode (ax_code 76) 51 = .ok (.ifCond .eq 32, 3) := by decide +kernel
theorem dc_76_54 : decode (ax_code 76) 54 = .ok (.iload 5, 2) := by decide +kernel
theorem dc_76_56 : decode (ax_code 76) 56 = .ok (.invokestatic 173, 3) := by decide +kernel
theorem dc_76_59 : decode (ax_code 76) 59 = .ok (.ifCond .eq 24, 3) := by decide +kernel
theorem dc_76_62 : decode (ax_code 76) 62 = .ok (.iload 4, 2) := by decide +kernel
theorem dc_76_64 : decode (ax_code 76) 64 = .ok (.iload 5, 2) := by decide +kernel
theorem dc_76_66 : decode (ax_code 76) 66 = .ok (.if_icmp .eq 17, 3) := by decide +kernel
theorem dc_76_69 : decode (ax_code 76) 69 = .ok (.iload 7, 2) := by decide +kernel
theorem dc_76_71 : decode (ax_code 76) 71 = .ok (.bipush (-99), 2) := by decide +kernel
theorem dc_76_73 : decode (ax_code 76) 73 = .ok (.if_icmp .lt 10, 3) := by decide +kernel
theorem dc_76_76 : decode (ax_code 76) 76 = .ok (.iload 7, 2) := by decide +kernel
theorem dc_76_78 : decode (ax_code 76) 78 = .ok (.bipush 99, 2) := by decide +kernel
theorem dc_76_80 : decode (ax_code 76) 80 = .ok (.if_icmp .le 6, 3) := by decide +kernel
theorem dc_76_83 : decode (ax_code 76) 83 = .ok (.bipush (-2), 2) := by decide +kernel
theorem dc_76_85 : decode (ax_code 76) 85 = .ok (.ireturn, 1) := by decide +kernel
theorem dc_76_86 : decode (ax_code 76) 86 = .ok (.aload_n 0, 1) := by decide +kernel
theorem dc_76_87 : decode (ax_code 76) 87 = .ok (.getfield 10, 3) := by decide +kernel
theorem dc_76_90 : decode (ax_code 76) 90 = .ok (.getfield 253, 3) := by decide +kernel
theorem dc_76_93 : decode (ax_code 76) 93 = .ok (.bipush 8, 2) := by decide +kernel
theorem dc_76_95 : decode (ax_code 76) 95 = .ok (.if_icmp .lt 6, 3) := by decide +kernel
theorem dc_76_98 : decode (ax_code 76) 98 = .ok (.bipush (-4), 2) := by decide +kernel
theorem dc_76_100 : decode (ax_code 76) 100 = .ok (.ireturn, 1) := by decide +kernel
theorem dc_76_101 : decode (ax_code 76) 101 = .ok (.aload_n 0, 1) := by decide +kernel
theorem dc_76_102 : decode (ax_code 76) 102 = .ok (.getfield 10, 3) := by decide +kernel
theorem dc_76_105 : decode (ax_code 76) 105 = .ok (.getfield 256, 3) := by decide +kernel
theorem dc_76_108 : decode (ax_code 76) 108 = .ok (.aload_n 0, 1) := by decide +kernel
theorem dc_76_109 : decode (ax_code 76) 109 = .ok (.getfield 10, 3) := by decide +kernel
theorem dc_76_112 : decode (ax_code 76) 112 = .ok (.getfield 253, 3) := by decide +kernel
theorem dc_76_115 : decode (ax_code 76) 115 = .ok (.new 251, 3) := by decide +kernel
theorem dc_76_118 : decode (ax_code 76) 118 = .ok (.dup, 1) := by decide +kernel
theorem dc_76_119 : decode (ax_code 76) 119 = .ok (.iload_n 1, 1) := by decide +kernel
theorem dc_76_120 : decode (ax_code 76) 120 = .ok (.iload_n 2, 1) := by decide +kernel
theorem dc_76_121 : decode (ax_code 76) 121 = .ok (.iload_n 3, 1) := by decide +kernel
theorem dc_76_122 : decode (ax_code 76) 122 = .ok (.aload_n 0, 1) := by decide +kernel
theorem dc_76_123 : decode (ax_code 76) 123 = .ok (.getfield 10, 3) := by decide +kernel
theorem dc_76_126 : decode (ax_code 76) 126 = .ok (.iload_n 2, 1) := by decide +kernel
theorem dc_76_127 : decode (ax_code 76) 127 = .ok (.invokevirtual 260, 3) := by decide +kernel
theorem dc_76_130 : decode (ax_code 76) 130 = .ok (.invokespecial 264, 3) := by decide +kernel
theorem dc_76_133 : decode (ax_code 76) 133 = .ok (.aastore, 1) := by decide +kernel
theorem dc_76_134 : decode (ax_code 76) 134 = .ok (.aload_n 0, 1) := by decide +kernel
theorem dc_76_135 : decode (ax_code 76) 135 = .ok (.getfield 10, 3) := by decide +kernel
theorem dc_76_138 : decode (ax_code 76) 138 = .ok (.getfield 267, 3) := by decide +kernel
theorem dc_76_141 : decode (ax_code 76) 141 = .ok (.aload_n 0, 1) := by decide +kernel
theorem dc_76_142 : decode (ax_code 76) 142 = .ok (.getfield 10, 3) := by decide +kernel
theorem dc_76_145 : decode (ax_code 76) 145 = .ok (.getfield 253, 3) := by decide +kernel
theorem dc_76_148 : decode (ax_code 76) 148 = .ok (.new 67, 3) := by decide +kernel
theorem dc_76_151 : decode (ax_code 76) 151 = .ok (.dup, 1) := by decide +kernel
theorem dc_76_152 : decode (ax_code 76) 152 = .ok (.iload 6, 2) := by decide +kernel
theorem dc_76_154 : decode (ax_code 76) 154 = .ok (.iload_n 2, 1) := by decide +kernel
theorem dc_76_155 : decode (ax_code 76) 155 = .ok (.iload_n 3, 1) := by decide +kernel
theorem dc_76_156 : decode (ax_code 76) 156 = .ok (.iload 7, 2) := by decide +kernel
theorem dc_76_158 : decode (ax_code 76) 158 = .ok (.aload_n 0, 1) := by decide +kernel
theorem dc_76_159 : decode (ax_code 76) 159 = .ok (.getfield 10, 3) := by decide +kernel
theorem dc_76_162 : decode (ax_code 76) 162 = .ok (.iload_n 2, 1) := by decide +kernel
theorem dc_76_163 : decode (ax_code 76) 163 = .ok (.invokevirtual 270, 3) := by decide +kernel
theorem dc_76_166 : decode (ax_code 76) 166 = .ok (.invokespecial 274, 3) := by decide +kernel
theorem dc_76_169 : decode (ax_code 76) 169 = .ok (.aastore, 1) := by decide +kernel
theorem dc_76_170 : decode (ax_code 76) 170 = .ok (.aload_n 0, 1) := by decide +kernel
theorem dc_76_171 : decode (ax_code 76) 171 = .ok (.getfield 10, 3) := by decide +kernel
theorem dc_76_174 : decode (ax_code 76) 174 = .ok (.getfield 277, 3) := by decide +kernel
theorem dc_76_177 : decode (ax_code 76) 177 = .ok (.aload_n 0, 1) := by decide +kernel
theorem dc_76_178 : decode (ax_code 76) 178 = .ok (.getfield 10, 3) := by decide +kernel
theorem dc_76_181 : decode (ax_code 76) 181 = .ok (.getfield 253, 3) := by decide +kernel
theorem dc_76_184 : decode (ax_code 76) 184 = .ok (.iload 4, 2) := by decide +kernel
theorem dc_76_186 : decode (ax_code 76) 186 = .ok (.iastore, 1) := by decide +kernel
theorem dc_76_187 : decode (ax_code 76) 187 = .ok (.aload_n 0, 1) := by decide +kernel
theorem dc_76_188 : decode (ax_code 76) 188 = .ok (.getfield 10, 3) := by decide +kernel
theorem dc_76_191 : decode (ax_code 76) 191 = .ok (.getfield 280, 3) := by decide +kernel
theorem dc_76_194 : decode (ax_code 76) 194 = .ok (.aload_n 0, 1) := by decide +kernel
theorem dc_76_195 : decode (ax_code 76) 195 = .ok (.getfield 10, 3) := by decide +kernel
theorem dc_76_198 : decode (ax_code 76) 198 = .ok (.getfield 253, 3) := by decide +kernel
theorem dc_76_201 : decode (ax_code 76) 201 = .ok (.iload 5, 2) := by decide +kernel
theorem dc_76_203 : decode (ax_code 76) 203 = .ok (.iastore, 1) := by decide +kernel
theorem dc_76_204 : decode (ax_code 76) 204 = .ok (.aload_n 0, 1) := by decide +kernel
theorem dc_76_205 : decode (ax_code 76) 205 = .ok (.getfield 10, 3) := by decide +kernel
theorem dc_76_208 : decode (ax_code 76) 208 = .ok (.dup, 1) := by decide +kernel
theorem dc_76_209 : decode (ax_code 76) 209 = .ok (.getfield 253, 3) := by decide +kernel
theorem dc_76_212 : decode (ax_code 76) 212 = .ok (.iconst 1, 1) := by decide +kernel
theorem dc_76_213 : decode (ax_code 76) 213 = .ok (.iadd, 1) := by decide +kernel
theorem dc_76_214 : decode (ax_code 76) 214 = .ok (.putfield 253, 3) := by decide +kernel
theorem dc_76_217 : decode (ax_code 76) 217 = .ok (.aload_n 0, 1) := by decide +kernel
theorem dc_76_218 : decode (ax_code 76) 218 = .ok (.getfield 10, 3) := by decide +kernel
theorem dc_76_221 : decode (ax_code 76) 221 = .ok (.getfield 253, 3) := by decide +kernel
theorem dc_76_224 : decode (ax_code 76) 224 = .ok (.iconst 1, 1) := by decide +kernel
theorem dc_76_225 : decode (ax_code 76) 225 = .ok (.isub, 1) := by decide +kernel
theorem dc_76_226 : decode (ax_code 76) 226 = .ok (.ireturn, 1) := by decide +kernel
theorem dc_77_0 : decode (ax_code 77) 0 = .ok (.iload_n 1, 1) := by decide +kernel
theorem dc_77_1 : decode (ax_code 77) 1 = .ok (.ifCond .lt 20, 3) := by decide +kernel
theorem dc_77_4 : decode (ax_code 77) 4 = .ok (.iload_n 1, 1) := by decide +kernel
theorem dc_77_5 : decode (ax_code 77) 5 = .ok (.aload_n 0, 1) := by decide +kernel
theorem dc_77_6 : decode (ax_code 77) 6 = .ok (.getfield 44, 3) := by decide +kernel
theorem dc_77_9 : decode (ax_code 77) 9 = .ok (.if_icmp .ge 12, 3) := by decide +kernel
theorem dc_77_12 : decode (ax_code 77) 12 = .ok (.aload_n 0, 1) := by decide +kernel
theorem dc_77_13 : decode (ax_code 77) 13 = .ok (.getfield 27, 3) := by decide +kernel
theorem dc_77_16 : decode (ax_code 77) 16 = .ok (.iload_n 1, 1) := by decide +kernel
theorem dc_77_17 : decode (ax_code 77) 17 = .ok (.aaload, 1) := by decide +kernel
theorem dc_77_18 : decode (ax_code 77) 18 = .ok (.goto 4, 3) := by decide +kernel
theorem dc_77_21 : decode (ax_code 77) 21 = .ok (.aconst_null, 1) := by decide +kernel
theorem dc_77_22 : decode (ax_code 77) 22 = .ok (.areturn, 1) := by decide +kernel
theorem dc_78_0 : decode (ax_code 78) 0 = .ok (.aload_n 0, 1) := by decide +kernel
theorem dc_78_1 : decode (ax_code 78) 1 = .ok (.invokespecial 3, 3) := by decide +kernel
theorem dc_78_4 : decode (ax_code 78) 4 = .ok (.aload_n 0, 1) := by decide +kernel
theorem dc_78_5 : decode (ax_code 78) 5 = .ok (.iload_n 1, 1) := by decide +kernel
theorem dc_78_6 : decode (ax_code 78) 6 = .ok (.putfield 9, 3) := by decide +kernel
theorem dc_78_9 : decode (ax_code 78) 9 = .ok (.aload_n 0, 1) := by decide +kernel
theorem dc_78_10 : decode (ax_code 78) 10 = .ok (.iload_n 2, 1) := by decide +kernel
theorem dc_78_11 : decode (ax_code 78) 11 = .ok (.putfield 15, 3) := by decide +kernel
theorem dc_78_14 : decode (ax_code 78) 14 = .ok (.aload_n 0, 1) := by decide +kernel
theorem dc_78_15 : decode (ax_code 78) 15 = .ok (.iload_n 3, 1) := by decide +kernel
theorem dc_78_16 : decode (ax_code 78) 16 = .ok (.putfield 18, 3) := by decide +kernel
theorem dc_78_19 : decode (ax_code 78) 19 = .ok (.aload_n 0, 1) := by decide +kernel
theorem dc_78_20 : decode (ax_code 78) 20 = .ok (.aload 4, 2) := by decide +kernel
theorem dc_78_22 : decode (ax_code 78) 22 = .ok (.putfield 21, 3) := by decide +kernel
theorem dc_78_25 : decode (ax_code 78) 25 = .ok (.return_, 1) := by decide +kernel
theorem dc_79_0 : decode (ax_code 79) 0 = .ok (.iload_n 1, 1) := by decide +kernel
theorem dc_79_1 : decode (ax_code 79) 1 = .ok (.ifCond .lt 20, 3) := by decide +kernel
theorem dc_79_4 : decode (ax_code 79) 4 = .ok (.iload_n 1, 1) := by decide +kernel
theorem dc_79_5 : decode (ax_code 79) 5 = .ok (.aload_n 0, 1) := by decide +kernel
theorem dc_79_6 : decode (ax_code 79) 6 = .ok (.getfield 44, 3) := by decide +kernel
theorem dc_79_9 : decode (ax_code 79) 9 = .ok (.if_icmp .ge 12, 3) := by decide +kernel
theorem dc_79_12 : decode (ax_code 79) 12 = .ok (.aload_n 0, 1) := by decide +kernel
theorem dc_79_13 : decode (ax_code 79) 13 = .ok (.getfield 33, 3) := by decide +kernel
theorem dc_79_16 : decode (ax_code 79) 16 = .ok (.iload_n 1, 1) := by decide +kernel
theorem dc_79_17 : decode (ax_code 79) 17 = .ok (.aaload, 1) := by decide +kernel
theorem dc_79_18 : decode (ax_code 79) 18 = .ok (.goto 4, 3) := by decide +kernel
theorem dc_79_21 : decode (ax_code 79) 21 = .ok (.aconst_null, 1) := by decide +kernel
theorem dc_79_22 : decode (ax_code 79) 22 = .ok (.areturn, 1) := by decide +kernel
theorem dc_80_0 : decode (ax_code 80) 0 = .ok (.aload_n 0, 1) := by decide +kernel
theorem dc_80_1 : decode (ax_code 80) 1 = .ok (.invokespecial 3, 3) := by decide +kernel
theorem dc_80_4 : decode (ax_code 80) 4 = .ok (.aload_n 0, 1) := by decide +kernel
theorem dc_80_5 : decode (ax_code 80) 5 = .ok (.iload_n 1, 1) := by decide +kernel
theorem dc_80_6 : decode (ax_code 80) 6 = .ok (.putfield 9, 3) := by decide +kernel
theorem dc_80_9 : decode (ax_code 80) 9 = .ok (.aload_n 0, 1) := by decide +kernel
theorem dc_80_10 : decode (ax_code 80) 10 = .ok (.iload_n 2, 1) := by decide +kernel
theorem dc_80_11 : decode (ax_code 80) 11 = .ok (.putfield 15, 3) := by decide +kernel
theorem dc_80_14 : decode (ax_code 80) 14 = .ok (.aload_n 0, 1) := by decide +kernel
theorem dc_80_15 : decode (ax_code 80) 15 = .ok (.iload_n 3, 1) := by decide +kernel
theorem dc_80_16 : decode (ax_code 80) 16 = .ok (.putfield 18, 3) := by decide +kernel
theorem dc_80_19 : decode (ax_code 80) 19 = .ok (.aload_n 0, 1) := by decide +kernel
theorem dc_80_20 : decode (ax_code 80) 20 = .ok (.iload 4, 2) := by decide +kernel
theorem dc_80_22 : decode (ax_code 80) 22 = .ok (.putfield 21, 3) := by decide +kernel
theorem dc_80_25 : decode (ax_code 80) 25 = .ok (.aload_n 0, 1) := by decide +kernel
theorem dc_80_26 : decode (ax_code 80) 26 = .ok (.aload 5, 2) := by decide +kernel
theorem dc_80_28 : decode (ax_code 80) 28 = .ok (.putfield 24, 3) := by decide +kernel
theorem dc_80_31 : decode (ax_code 80) 31 = .ok (.return_, 1) := by decide +kernel
theorem dc_81_0 : decode (ax_code 81) 0 = .ok (.iload_n 1, 1) := by decide +kernel
theorem dc_81_1 : decode (ax_code 81) 1 = .ok (.ifCond .lt 22, 3) := by decide +kernel
theorem dc_81_4 : decode (ax_code 81) 4 = .ok (.iload_n 1, 1) := by decide +kernel
theorem dc_81_5 : decode (ax_code 81) 5 = .ok (.aload_n 0, 1) := by decide +kernel
theorem dc_81_6 : decode (ax_code 81) 6 = .ok (.getfield 10, 3) := by decide +kernel
theorem dc_81_9 : decode (ax_code 81) 9 = .ok (.getfield 253, 3) := by decide +kernel
theorem dc_81_12 : decode (ax_code 81) 12 = .ok (.if_icmp .ge 11, 3) := by decide +kernel
theorem dc_81_15 : decode (ax_code 81) 15 = .ok (.aload_n 0, 1) := by decide +kernel
theorem dc_81_16 : decode (ax_code 81) 16 = .ok (.iload_n 2, 1) := by decide +kernel
theorem dc_81_17 : decode (ax_code 81) 17 = .ok (.invokevirtual 154, 3) := by decide +kernel
theorem dc_81_20 : decode (ax_code 81) 20 = .ok (.ifCond .ne 6, 3) := by decide +kernel
theorem dc_81_23 : decode (ax_code 81) 23 = .ok (.bipush (-2), 2) := by decide +kernel
theorem dc_81_25 : decode (ax_code 81) 25 = .ok (.ireturn, 1) := by decide +kernel
theorem dc_81_26 : decode (ax_code 81) 26 = .ok (.aload_n 0, 1) := by decide +kernel
theorem dc_81_27 : decode (ax_code 81) 27 = .ok (.getfield 10, 3) := by decide +kernel
theorem dc_81_30 : decode (ax_code 81) 30 = .ok (.getfield 77, 3) := by decide +kernel
theorem dc_81_33 : decode (ax_code 81) 33 = .ok (.iload_n 2, 1) := by decide +kernel
theorem dc_81_34 : decode (ax_code 81) 34 = .ok (.aload_n 0, 1) := by decide +kernel
theorem dc_81_35 : decode (ax_code 81) 35 = .ok (.getfield 10, 3) := by decide +kernel
theorem dc_81_38 : decode (ax_code 81) 38 = .ok (.getfield 77, 3) := by decide +kernel
theorem dc_81_41 : decode (ax_code 81) 41 = .ok (.getfield 117, 3) := by decide +kernel
theorem dc_81_44 : decode (ax_code 81) 44 = .ok (.invokevirtual 157, 3) := by decide +kernel
theorem dc_81_47 : decode (ax_code 81) 47 = .ok (.aload_n 0, 1) := by decide +kernel
theorem dc_81_48 : decode (ax_code 81) 48 = .ok (.getfield 10, 3) := by decide +kernel
theorem dc_81_51 : decode (ax_code 81) 51 = .ok (.iload_n 1, 1) := by decide +kernel
theorem dc_81_52 : decode (ax_code 81) 52 = .ok (.invokevirtual 283, 3) := by decide +kernel
theorem dc_81_55 : decode (ax_code 81) 55 = .ok (.ireturn, 1) := by decide +kernel
theorem dc_82_0 : decode (ax_code 82) 0 = .ok (.aload_n 0, 1) := by decide +kernel
theorem dc_82_1 : decode (ax_code 82) 1 = .ok (.iload_n 1, 1) := by decide +kernel
theorem dc_82_2 : decode (ax_code 82) 2 = .ok (.invokevirtual 79, 3) := by decide +kernel
theorem dc_82_5 : decode (ax_code 82) 5 = .ok (.astore_n 2, 1) := by decide +kernel
theorem dc_82_6 : decode (ax_code 82) 6 = .ok (.aload_n 0, 1) := by decide +kernel
theorem dc_82_7 : decode (ax_code 82) 7 = .ok (.iload_n 1, 1) := by decide +kernel
theorem dc_82_8 : decode (ax_code 82) 8 = .ok (.invokevirtual 83, 3) := by decide +kernel
theorem dc_82_11 : decode (ax_code 82) 11 = .ok (.astore_n 3, 1) := by decide +kernel
theorem dc_82_12 : decode (ax_code 82) 12 = .ok (.aload_n 2, 1) := by decide +kernel
theorem dc_82_13 : decode (ax_code 82) 13 = .ok (.ifnull 29, 3) := by decide +kernel
theorem dc_82_16 : decode (ax_code 82) 16 = .ok (.aload_n 3, 1) := by decide +kernel
theorem dc_82_17 : decode (ax_code 82) 17 = .ok (.ifnull 25, 3) := by decide +kernel
theorem dc_82_20 : decode (ax_code 82) 20 = .ok (.aload_n 2, 1) := by decide +kernel
theorem dc_82_21 : decode (ax_code 82) 21 = .ok (.aload_n 0, 1) := by decide +kernel
theorem dc_82_22 : decode (ax_code 82) 22 = .ok (.getfield 12, 3) := by decide +kernel
theorem dc_82_25 : decode (ax_code 82) 25 = .ok (.invokevirtual 87, 3) := by decide +kernel
theorem dc_82_28 : decode (ax_code 82) 28 = .ok (.ifCond .eq 14, 3) := by decide +kernel
theorem dc_82_31 : decode (ax_code 82) 31 = .ok (.aload_n 3, 1) := by decide +kernel
theorem dc_82_32 : decode (ax_code 82) 32 = .ok (.aload_n 0, 1) := by decide +kernel
theorem dc_82_33 : decode (ax_code 82) 33 = .ok (.getfield 12, 3) := by decide +kernel
theorem dc_82_36 : decode (ax_code 82) 36 = .ok (.invokevirtual 91, 3) := by decide +kernel
theorem dc_82_39 : decode (ax_code 82) 39 = .ok (.goto 4, 3) := by decide +kernel
theorem dc_82_42 : decode (ax_code 82) 42 = .ok (.iconst 0, 1) := by decide +kernel
theorem dc_82_43 : decode (ax_code 82) 43 = .ok (.ireturn, 1) := by decide +kernel
theorem dc_83_0 : decode (ax_code 83) 0 = .ok (.iconst 0, 1) := by decide +kernel
theorem dc_83_1 : decode (ax_code 83) 1 = .ok (.istore_n 2, 1) := by decide +kernel
theorem dc_83_2 : decode (ax_code 83) 2 = .ok (.aload_n 0, 1) := by decide +kernel
theorem dc_83_3 : decode (ax_code 83) 3 = .ok (.astore_n 3, 1) := by decide +kernel
theorem dc_83_4 : decode (ax_code 83) 4 = .ok (.iconst 0, 1) := by decide +kernel
theorem dc_83_5 : decode (ax_code 83) 5 = .ok (.istore 4, 2) := by decide +kernel
theorem dc_83_7 : decode (ax_code 83) 7 = .ok (.iload 4, 2) := by decide +kernel
theorem dc_83_9 : decode (ax_code 83) 9 = .ok (.bipush 8, 2) := by decide +kernel
theorem dc_83_11 : decode (ax_code 83) 11 = .ok (.if_icmp .ge 39, 3) := by decide +kernel
theorem dc_83_14 : decode (ax_code 83) 14 = .ok (.aload_n 3, 1) := by decide +kernel
theorem dc_83_15 : decode (ax_code 83) 15 = .ok (.getfield 9, 3) := by decide +kernel
theorem dc_83_18 : decode (ax_code 83) 18 = .ok (.iconst 4, 1) := by decide +kernel
theorem dc_83_19 : decode (ax_code 83) 19 = .ok (.if_icmp .ne 31, 3) := by decide +kernel
theorem dc_83_22 : decode (ax_code 83) 22 = .ok (.aload_n 3, 1) := by decide +kernel
theorem dc_83_23 : decode (ax_code 83) 23 = .ok (.getfield 21, 3) := by decide +kernel
theorem dc_83_26 : decode (ax_code 83) 26 = .ok (.ifnull 24, 3) := by decide +kernel
theorem dc_83_29 : decode (ax_code 83) 29 = .ok (.iload_n 2, 1) := by decide +kernel
theorem dc_83_30 : decode (ax_code 83) 30 = .ok (.ifCond .ne 7, 3) := by decide +kernel
theorem dc_83_33 : decode (ax_code 83) 33 = .ok (.iconst 1, 1) := by decide +kernel
theorem dc_83_34 : decode (ax_code 83) 34 = .ok (.goto 4, 3) := by decide +kernel
theorem dc_83_37 : decode (ax_code 83) 37 = .ok (.iconst 0, 1) := by decide +kernel
theorem dc_83_38 : decode (ax_code 83) 38 = .ok (.istore_n 2, 1) := by decide +kernel
theorem dc_83_39 : decode (ax_code 83) 39 = .ok (.aload_n 3, 1) := by decide +kernel
theorem dc_83_40 : decode (ax_code 83) 40 = .ok (.getfield 21, 3) := by decide +kernel
theorem dc_83_43 : decode (ax_code 83) 43 = .ok (.astore_n 3, 1) := by decide +kernel
theorem dc_83_44 : decode (ax_code 83) 44 = .ok (.iinc 4 1, 3) := by decide +kernel
theorem dc_83_47 : decode (ax_code 83) 47 = .ok (.goto (-40), 3) := by decide +kernel
theorem dc_83_50 : decode (ax_code 83) 50 = .ok (.aload_n 3, 1) := by decide +kernel
theorem dc_83_51 : decode (ax_code 83) 51 = .ok (.aload_n 1, 1) := by decide +kernel
theorem dc_83_52 : decode (ax_code 83) 52 = .ok (.invokevirtual 25, 3) := by decide +kernel
theorem dc_83_55 : decode (ax_code 83) 55 = .ok (.iload_n 2, 1) := by decide +kernel
theorem dc_83_56 : decode (ax_code 83) 56 = .ok (.if_icmp .eq 7, 3) := by decide +kernel
theorem dc_83_59 : decode (ax_code 83) 59 = .ok (.iconst 1, 1) := by decide +kernel
theorem dc_83_60 : decode (ax_code 83) 60 = .ok (.goto 4, 3) := by decide +kernel
theorem dc_83_63 : decode (ax_code 83) 63 = .ok (.iconst 0, 1) := by decide +kernel
theorem dc_83_64 : decode (ax_code 83) 64 = .ok (.ireturn, 1) := by decide +kernel
theorem dc_84_0 : decode (ax_code 84) 0 = .ok (.aload_n 0, 1) := by decide +kernel
theorem dc_84_1 : decode (ax_code 84) 1 = .ok (.getfield 9, 3) := by decide +kernel
theorem dc_84_4 : decode (ax_code 84) 4 = .ok (.ifCond .ne 5, 3) := by decide +kernel
theorem dc_84_7 : decode (ax_code 84) 7 = .ok (.iconst 1, 1) := by decide +kernel
theorem dc_84_8 : decode (ax_code 84) 8 = .ok (.ireturn, 1) := by decide +kernel
theorem dc_84_9 : decode (ax_code 84) 9 = .ok (.aload_n 0, 1) := by decide +kernel
theorem dc_84_10 : decode (ax_code 84) 10 = .ok (.getfield 9, 3) := by decide +kernel
theorem dc_84_13 : decode (ax_code 84) 13 = .ok (.iconst 4, 1) := by decide +kernel
theorem dc_84_14 : decode (ax_code 84) 14 = .ok (.if_icmp .eq 25, 3) := by decide +kernel
theorem dc_84_17 : decode (ax_code 84) 17 = .ok (.aload_n 0, 1) := by decide +kernel
theorem dc_84_18 : decode (ax_code 84) 18 = .ok (.getfield 15, 3) := by decide +kernel
theorem dc_84_21 : decode (ax_code 84) 21 = .ok (.aload_n 1, 1) := by decide +kernel
theorem dc_84_22 : decode (ax_code 84) 22 = .ok (.getfield 29, 3) := by decide +kernel
theorem dc_84_25 : decode (ax_code 84) 25 = .ok (.if_icmp .ge 14, 3) := by decide +kernel
theorem dc_84_28 : decode (ax_code 84) 28 = .ok (.aload_n 0, 1) := by decide +kernel
theorem dc_84_29 : decode (ax_code 84) 29 = .ok (.getfield 18, 3) := by decide +kernel
theorem dc_84_32 : decode (ax_code 84) 32 = .ok (.aload_n 1, 1) := by decide +kernel
theorem dc_84_33 : decode (ax_code 84) 33 = .ok (.getfield 29, 3) := by decide +kernel
theorem dc_84_36 : decode (ax_code 84) 36 = .ok (.if_icmp .lt 5, 3) := by decide +kernel
theorem dc_84_39 : decode (ax_code 84) 39 = .ok (.iconst 0, 1) := by decide +kernel
theorem dc_84_40 : decode (ax_code 84) 40 = .ok (.ireturn, 1) := by decide +kernel
theorem dc_84_41 : decode (ax_code 84) 41 = .ok (.aload_n 1, 1) := by decide +kernel
theorem dc_84_42 : decode (ax_code 84) 42 = .ok (.getfield 34, 3) := by decide +kernel
theorem dc_84_45 : decode (ax_code 84) 45 = .ok (.aload_n 0, 1) := by decide +kernel
theorem dc_84_46 : decode (ax_code 84) 46 = .ok (.getfield 15, 3) := by decide +kernel
theorem dc_84_49 : decode (ax_code 84) 49 = .ok (.iaload, 1) := by decide +kernel
theorem dc_84_50 : decode (ax_code 84) 50 = .ok (.istore_n 2, 1) := by decide +kernel
theorem dc_84_51 : decode (ax_code 84) 51 = .ok (.aload_n 1, 1) := by decide +kernel
theorem dc_84_52 : decode (ax_code 84) 52 = .ok (.getfield 34, 3) := by decide +kernel
theorem dc_84_55 : decode (ax_code 84) 55 = .ok (.aload_n 0, 1) := by decide +kernel
theorem dc_84_56 : decode (ax_code 84) 56 = .ok (.getfield 18, 3) := by decide +kernel
theorem dc_84_59 : decode (ax_code 84) 59 = .ok (.iaload, 1) := by decide +kernel
theorem dc_84_60 : decode (ax_code 84) 60 = .ok (.istore_n 3, 1) := by decide +kernel
theorem dc_84_61 : decode (ax_code 84) 61 = .ok (.aload_n 0, 1) := by decide +kernel
theorem dc_84_62 : decode (ax_code 84) 62 = .ok (.getfield 9, 3) := by decide +kernel
theorem dc_84_65 : decode (ax_code 84) 65 = .ok (.iconst 1, 1) := by decide +kernel
theorem dc_84_66 : decode (ax_code 84) 66 = .ok (.if_icmp .ne 14, 3) := by decide +kernel
theorem dc_84_69 : decode (ax_code 84) 69 = .ok (.iload_n 2, 1) := by decide +kernel
theorem dc_84_70 : decode (ax_code 84) 70 = .ok (.iload_n 3, 1) := by decide +kernel
theorem dc_84_71 : decode (ax_code 84) 71 = .ok (.if_icmp .ne 7, 3) := by decide +kernel
theorem dc_84_74 : decode (ax_code 84) 74 = .ok (.iconst 1, 1) := by decide +kernel
theorem dc_84_75 : decode (ax_code 84) 75 = .ok (.goto 4, 3) := by decide +kernel
theorem dc_84_78 : decode (ax_code 84) 78 = .ok (.iconst 0, 1) := by decide +kernel
theorem dc_84_79 : decode (ax_code 84) 79 = .ok (.ireturn, 1) := by decide +kernel
theorem dc_84_80 : decode (ax_code 84) 80 = .ok (.aload_n 0, 1) := by decide +kernel
theorem dc_84_81 : decode (ax_code 84) 81 = .ok (.getfield 9, 3) := by decide +kernel
theorem dc_84_84 : decode (ax_code 84) 84 = .ok (.iconst 2, 1) := by decide +kernel
theorem dc_84_85 : decode (ax_code 84) 85 = .ok (.if_icmp .ne 14, 3) := by decide +kernel
theorem dc_84_88 : decode (ax_code 84) 88 = .ok (.iload_n 2, 1) := by decide +kernel
theorem dc_84_89 : decode (ax_code 84) 89 = .ok (.iload_n 3, 1) := by decide +kernel
theorem dc_84_90 : decode (ax_code 84) 90 = .ok (.if_icmp .le 7, 3) := by decide +kernel
theorem dc_84_93 : decode (ax_code 84) 93 = .ok (.iconst 1, 1) := by decide +kernel
theorem dc_84_94 : decode (ax_code 84) 94 = .ok (.goto 4, 3) := by decide +kernel
theorem dc_84_97 : decode (ax_code 84) 97 = .ok (.iconst 0, 1) := by decide +kernel
theorem dc_84_98 : decode (ax_code 84) 98 = .ok (.ireturn, 1) := by decide +kernel
theorem dc_84_99 : decode (ax_code 84) 99 = .ok (.aload_n 0, 1) := by decide +kernel
theorem dc_84_100 : decode (ax_code 84) 100 = .ok (.getfield 9, 3) := by decide +kernel
theorem dc_84_103 : decode (ax_code 84) 103 = .ok (.iconst 3, 1) := by decide +kernel
theorem dc_84_104 : decode (ax_code 84) 104 = .ok (.if_icmp .ne 15, 3) := by decide +kernel
theorem dc_84_107 : decode (ax_code 84) 107 = .ok (.iload_n 2, 1) := by decide +kernel
theorem dc_84_108 : decode (ax_code 84) 108 = .ok (.iload_n 3, 1) := by decide +kernel
theorem dc_84_109 : decode (ax_code 84) 109 = .ok (.iadd, 1) := by decide +kernel
theorem dc_84_110 : decode (ax_code 84) 110 = .ok (.iconst 2, 1) := by decide +kernel
theorem dc_84_111 : decode (ax_code 84) 111 = .ok (.irem, 1) := by decide +kernel
theorem dc_84_112 : decode (ax_code 84) 112 = .ok (.ifCond .ne 7, 3) := by decide +kernel
theorem dc_84_115 : decode (ax_code 84) 115 = .ok (.iconst 1, 1) := by decide +kernel
theorem dc_84_116 : decode (ax_code 84) 116 = .ok (.goto 4, 3) := by decide +kernel
theorem dc_84_119 : decode (ax_code 84) 119 = .ok (.iconst 0, 1) := by decide +kernel
theorem dc_84_120 : decode (ax_code 84) 120 = .ok (.ireturn, 1) := by decide +kernel
theorem dc_85_0 : decode (ax_code 85) 0 = .ok (.iconst 0, 1) := by decide +kernel
theorem dc_85_1 : decode (ax_code 85) 1 = .ok (.istore_n 2, 1) := by decide +kernel
theorem dc_85_2 : decode (ax_code 85) 2 = .ok (.aload_n 0, 1) := by decide +kernel
theorem dc_85_3 : decode (ax_code 85) 3 = .ok (.astore_n 3, 1) := by decide +kernel
theorem dc_85_4 : decode (ax_code 85) 4 = .ok (.iconst 0, 1) := by decide +kernel
theorem dc_85_5 : decode (ax_code 85) 5 = .ok (.istore 4, 2) := by decide +kernel
theorem dc_85_7 : decode (ax_code 85) 7 = .ok (.iload 4, 2) := by decide +kernel
theorem dc_85_9 : decode (ax_code 85) 9 = .ok (.bipush 8, 2) := by decide +kernel
theorem dc_85_11 : decode (ax_code 85) 11 = .ok (.if_icmp .ge 36, 3) := by decide +kernel
theorem dc_85_14 : decode (ax_code 85) 14 = .ok (.aload_n 3, 1) := by decide +kernel
theorem dc_85_15 : decode (ax_code 85) 15 = .ok (.getfield 9, 3) := by decide +kernel
theorem dc_85_18 : decode (ax_code 85) 18 = .ok (.iconst 3, 1) := by decide +kernel
theorem dc_85_19 : decode (ax_code 85) 19 = .ok (.if_icmp .ne 28, 3) := by decide +kernel
theorem dc_85_22 : decode (ax_code 85) 22 = .ok (.aload_n 3, 1) := by decide +kernel
theorem dc_85_23 : decode (ax_code 85) 23 = .ok (.getfield 24, 3) := by decide +kernel
theorem dc_85_26 : decode (ax_code 85) 26 = .ok (.ifnull 21, 3) := by decide +kernel
theorem dc_85_29 : decode (ax_code 85) 29 = .ok (.iload_n 2, 1) := by decide +kernel
theorem dc_85_30 : decode (ax_code 85) 30 = .ok (.aload_n 3, 1) := by decide +kernel
theorem dc_85_31 : decode (ax_code 85) 31 = .ok (.getfield 21, 3) := by decide +kernel
theorem dc_85_34 : decode (ax_code 85) 34 = .ok (.iadd, 1) := by decide +kernel
theorem dc_85_35 : decode (ax_code 85) 35 = .ok (.istore_n 2, 1) := by decide +kernel
theorem dc_85_36 : decode (ax_code 85) 36 = .ok (.aload_n 3, 1) := by decide +kernel
theorem dc_85_37 : decode (ax_code 85) 37 = .ok (.getfield 24, 3) := by decide +kernel
theorem dc_85_40 : decode (ax_code 85) 40 = .ok (.astore_n 3, 1) := by decide +kernel
theorem dc_85_41 : decode (ax_code 85) 41 = .ok (.iinc 4 1, 3) := by decide +kernel
theorem dc_85_44 : decode (ax_code 85) 44 = .ok (.goto (-37), 3) := by decide +kernel
theorem dc_85_47 : decode (ax_code 85) 47 = .ok (.iload_n 2, 1) := by decide +kernel
theorem dc_85_48 : decode (ax_code 85) 48 = .ok (.aload_n 3, 1) := by decide +kernel
theorem dc_85_49 : decode (ax_code 85) 49 = .ok (.aload_n 1, 1) := by decide +kernel
theorem dc_85_50 : decode (ax_code 85) 50 = .ok (.invokevirtual 28, 3) := by decide +kernel
theorem dc_85_53 : decode (ax_code 85) 53 = .ok (.iadd, 1) := by decide +kernel
theorem dc_85_54 : decode (ax_code 85) 54 = .ok (.ireturn, 1) := by decide +kernel
theorem dc_86_0 : decode (ax_code 86) 0 = .ok (.aload_n 0, 1) := by decide +kernel
theorem dc_86_1 : decode (ax_code 86) 1 = .ok (.getfield 9, 3) := by decide +kernel
theorem dc_86_4 : decode (ax_code 86) 4 = .ok (.ifCond .ne 8, 3) := by decide +kernel
theorem dc_86_7 : decode (ax_code 86) 7 = .ok (.aload_n 0, 1) := by decide +kernel
theorem dc_86_8 : decode (ax_code 86) 8 = .ok (.getfield 21, 3) := by decide +kernel
theorem dc_86_11 : decode (ax_code 86) 11 = .ok (.ireturn, 1) := by decide +kernel
theorem dc_86_12 : decode (ax_code 86) 12 = .ok (.aload_n 0, 1) := by decide +kernel
theorem dc_86_13 : decode (ax_code 86) 13 = .ok (.getfield 9, 3) := by decide +kernel
theorem dc_86_16 : decode (ax_code 86) 16 = .ok (.iconst 3, 1) := by decide +kernel
theorem dc_86_17 : decode (ax_code 86) 17 = .ok (.if_icmp .eq 14, 3) := by decide +kernel
theorem dc_86_20 : decode (ax_code 86) 20 = .ok (.aload_n 0, 1) := by decide +kernel
theorem dc_86_21 : decode (ax_code 86) 21 = .ok (.getfield 15, 3) := by decide +kernel
theorem dc_86_24 : decode (ax_code 86) 24 = .ok (.aload_n 1, 1) := by decide +kernel
theorem dc_86_25 : decode (ax_code 86) 25 = .ok (.getfield 32, 3) := by decide +kernel
theorem dc_86_28 : decode (ax_code 86) 28 = .ok (.if_icmp .lt 5, 3) := by decide +kernel
theorem dc_86_31 : decode (ax_code 86) 31 = .ok (.iconst 0, 1) := by decide +kernel
theorem dc_86_32 : decode (ax_code 86) 32 = .ok (.ireturn, 1) := by decide +kernel
theorem dc_86_33 : decode (ax_code 86) 33 = .ok (.aload_n 1, 1) := by decide +kernel
theorem dc_86_34 : decode (ax_code 86) 34 = .ok (.getfield 37, 3) := by decide +kernel
theorem dc_86_37 : decode (ax_code 86) 37 = .ok (.aload_n 0, 1) := by decide +kernel
theorem dc_86_38 : decode (ax_code 86) 38 = .ok (.getfield 15, 3) := by decide +kernel
theorem dc_86_41 : decode (ax_code 86) 41 = .ok (.iaload, 1) := by decide +kernel
theorem dc_86_42 : decode (ax_code 86) 42 = .ok (.istore_n 2, 1) := by decide +kernel
theorem dc_86_43 : decode (ax_code 86) 43 = .ok (.aload_n 0, 1) := by decide +kernel
theorem dc_86_44 : decode (ax_code 86) 44 = .ok (.getfield 9, 3) := by decide +kernel
theorem dc_86_47 : decode (ax_code 86) 47 = .ok (.iconst 1, 1) := by decide +kernel
theorem dc_86_48 : decode (ax_code 86) 48 = .ok (.if_icmp .ne 27, 3) := by decide +kernel
theorem dc_86_51 : decode (ax_code 86) 51 = .ok (.iload_n 2, 1) := by decide +kernel
theorem dc_86_52 : decode (ax_code 86) 52 = .ok (.aload_n 1, 1) := by decide +kernel
theorem dc_86_53 : decode (ax_code 86) 53 = .ok (.getfield 41, 3) := by decide +kernel
theorem dc_86_56 : decode (ax_code 86) 56 = .ok (.if_icmp .ge 17, 3) := by decide +kernel
theorem dc_86_59 : decode (ax_code 86) 59 = .ok (.aload_n 0, 1) := by decide +kernel
theorem dc_86_60 : decode (ax_code 86) 60 = .ok (.getfield 21, 3) := by decide +kernel
theorem dc_86_63 : decode (ax_code 86) 63 = .ok (.aload_n 1, 1) := by decide +kernel
theorem dc_86_64 : decode (ax_code 86) 64 = .ok (.getfield 44, 3) := by decide +kernel
theorem dc_86_67 : decode (ax_code 86) 67 = .ok (.iload_n 2, 1) := by decide +kernel
theorem dc_86_68 : decode (ax_code 86) 68 = .ok (.iaload, 1) := by decide +kernel
theorem dc_86_69 : decode (ax_code 86) 69 = .ok (.imul, 1) := by decide +kernel
theorem dc_86_70 : decode (ax_code 86) 70 = .ok (.goto 4, 3) := by decide +kernel
theorem dc_86_73 : decode (ax_code 86) 73 = .ok (.iconst 0, 1) := by decide +kernel
theorem dc_86_74 : decode (ax_code 86) 74 = .ok (.ireturn, 1) := by decide +kernel
theorem dc_86_75 : decode (ax_code 86) 75 = .ok (.aload_n 0, 1) := by decide +kernel
theorem dc_86_76 : decode (ax_code 86) 76 = .ok (.getfield 9, 3) := by decide +kernel
theorem dc_86_79 : decode (ax_code 86) 79 = .ok (.iconst 4, 1) := by decide +kernel
theorem dc_86_80 : decode (ax_code 86) 80 = .ok (.if_icmp .ne 21, 3) := by decide +kernel
theorem dc_86_83 : decode (ax_code 86) 83 = .ok (.iload_n 2, 1) := by decide +kernel
theorem dc_86_84 : decode (ax_code 86) 84 = .ok (.ifCond .ne 12, 3) := by decide +kernel
theorem dc_86_87 : decode (ax_code 86) 87 = .ok (.iconst 2, 1) := by decide +kernel
theorem dc_86_88 : decode (ax_code 86) 88 = .ok (.aload_n 0, 1) := by decide +kernel
theorem dc_86_89 : decode (ax_code 86) 89 = .ok (.getfield 21, 3) := by decide +kernel
theorem dc_86_92 : decode (ax_code 86) 92 = .ok (.imul, 1) := by decide +kernel
theorem dc_86_93 : decode (ax_code 86) 93 = .ok (.goto 7, 3) := by decide +kernel
theorem dc_86_96 : decode (ax_code 86) 96 = .ok (.aload_n 0, 1) := by decide +kernel
theorem dc_86_97 : decode (ax_code 86) 97 = .ok (.getfield 21, 3) := by decide +kernel
theorem dc_86_100 : decode (ax_code 86) 100 = .ok (.ireturn, 1) := by decide +kernel
theorem dc_86_101 : decode (ax_code 86) 101 = .ok (.aload_n 0, 1) := by decide +kernel
theorem dc_86_102 : decode (ax_code 86) 102 = .ok (.getfield 9, 3) := by decide +kernel
theorem dc_86_105 : decode (ax_code 86) 105 = .ok (.iconst 2, 1) := by decide +kernel
theorem dc_86_106 : decode (ax_code 86) 106 = .ok (.if_icmp .ne 33, 3) := by decide +kernel
theorem dc_86_109 : decode (ax_code 86) 109 = .ok (.aload_n 0, 1) := by decide +kernel
theorem dc_86_110 : decode (ax_code 86) 110 = .ok (.getfield 18, 3) := by decide +kernel
theorem dc_86_113 : decode (ax_code 86) 113 = .ok (.aload_n 1, 1) := by decide +kernel
theorem dc_86_114 : decode (ax_code 86) 114 = .ok (.getfield 32, 3) := by decide +kernel
theorem dc_86_117 : decode (ax_code 86) 117 = .ok (.if_icmp .ge 22, 3) := by decide +kernel
theorem dc_86_120 : decode (ax_code 86) 120 = .ok (.aload_n 0, 1) := by decide +kernel
theorem dc_86_121 : decode (ax_code 86) 121 = .ok (.getfield 21, 3) := by decide +kernel
theorem dc_86_124 : decode (ax_code 86) 124 = .ok (.iload_n 2, 1) := by decide +kernel
theorem dc_86_125 : decode (ax_code 86) 125 = .ok (.aload_n 1, 1) := by decide +kernel
theorem dc_86_126 : decode (ax_code 86) 126 = .ok (.getfield 37, 3) := by decide +kernel
theorem dc_86_129 : decode (ax_code 86) 129 = .ok (.aload_n 0, 1) := by decide +kernel
theorem dc_86_130 : decode (ax_code 86) 130 = .ok (.getfield 18, 3) := by decide +kernel
theorem dc_86_133 : decode (ax_code 86) 133 = .ok (.iaload, 1) := by decide +kernel
theorem dc_86_134 : decode (ax_code 86) 134 = .ok (.isub, 1) := by decide +kernel
theorem dc_86_135 : decode (ax_code 86) 135 = .ok (.imul, 1) := by decide +kernel
theorem dc_86_136 : decode (ax_code 86) 136 = .ok (.goto 4, 3) := by decide +kernel
theorem dc_86_139 : decode (ax_code 86) 139 = .ok (.iconst 0, 1) := by decide +kernel
theorem dc_86_140 : decode (ax_code 86) 140 = .ok (.ireturn, 1) := by decide +kernel
theorem dc_87_0 : decode (ax_code 87) 0 = .ok (.aload_n 0, 1) := by decide +kernel
theorem dc_87_1 : decode (ax_code 87) 1 = .ok (.getfield 10, 3) := by decide +kernel
theorem dc_87_4 : decode (ax_code 87) 4 = .ok (.getfield 253, 3) := by decide +kernel
theorem dc_87_7 : decode (ax_code 87) 7 = .ok (.ifCond .ne 6, 3) := by decide +kernel
theorem dc_87_10 : decode (ax_code 87) 10 = .ok (.bipush (-3), 2) := by decide +kernel
theorem dc_87_12 : decode (ax_code 87) 12 = .ok (.ireturn, 1) := by decide +kernel
theorem dc_87_13 : decode (ax_code 87) 13 = .ok (.aload_n 0, 1) := by decide +kernel
theorem dc_87_14 : decode (ax_code 87) 14 = .ok (.getfield 10, 3) := by decide +kernel
theorem dc_87_17 : decode (ax_code 87) 17 = .ok (.dup, 1) := by decide +kernel
theorem dc_87_18 : decode (ax_code 87) 18 = .ok (.getfield 253, 3) := by decide +kernel
theorem dc_87_21 : decode (ax_code 87) 21 = .ok (.iconst 1, 1) := by decide +kernel
theorem dc_87_22 : decode (ax_code 87) 22 = .ok (.isub, 1) := by decide +kernel
theorem dc_87_23 : decode (ax_code 87) 23 = .ok (.putfield 253, 3) := by decide +kernel
theorem dc_87_26 : decode (ax_code 87) 26 = .ok (.aload_n 0, 1) := by decide +kernel
theorem dc_87_27 : decode (ax_code 87) 27 = .ok (.getfield 10, 3) := by decide +kernel
theorem dc_87_30 : decode (ax_code 87) 30 = .ok (.getfield 253, 3) := by decide +kernel
theorem dc_87_33 : decode (ax_code 87) 33 = .ok (.ireturn, 1) := by decide +kernel
theorem dc_88_0 : decode (ax_code 88) 0 = .ok (.iload_n 1, 1) := by decide +kernel
theorem dc_88_1 : decode (ax_code 88) 1 = .ok (.invokestatic 173, 3) := by decide +kernel
theorem dc_88_4 : decode (ax_code 88) 4 = .ok (.ifCond .eq 11, 3) := by decide +kernel
theorem dc_88_7 : decode (ax_code 88) 7 = .ok (.aload_n 0, 1) := by decide +kernel
theorem dc_88_8 : decode (ax_code 88) 8 = .ok (.iload_n 2, 1) := by decide +kernel
theorem dc_88_9 : decode (ax_code 88) 9 = .ok (.invokevirtual 154, 3) := by decide +kernel
theorem dc_88_12 : decode (ax_code 88) 12 = .ok (.ifCond .ne 7, 3) := by decide +kernel
theorem dc_88_15 : decode (ax_code 88) 15 = .ok (.ldc2_w 167, 3) := by decide +kernel
theorem dc_88_18 : decode (ax_code 88) 18 = .ok (.lreturn, 1) := by decide +kernel
theorem dc_88_19 : decode (ax_code 88) 19 = .ok (.aload_n 0, 1) := by decide +kernel
theorem dc_88_20 : decode (ax_code 88) 20 = .ok (.getfield 10, 3) := by decide +kernel
theorem dc_88_23 : decode (ax_code 88) 23 = .ok (.getfield 77, 3) := by decide +kernel
theorem dc_88_26 : decode (ax_code 88) 26 = .ok (.iload_n 2, 1) := by decide +kernel
theorem dc_88_27 : decode (ax_code 88) 27 = .ok (.aload_n 0, 1) := by decide +kernel
theorem dc_88_28 : decode (ax_code 88) 28 = .ok (.getfield 10, 3) := by decide +kernel
theorem dc_88_31 : decode (ax_code 88) 31 = .ok (.getfield 77, 3) := by decide +kernel
theorem dc_88_34 : decode (ax_code 88) 34 = .ok (.getfield 117, 3) := by decide +kernel
theorem dc_88_37 : decode (ax_code 88) 37 = .ok (.invokevirtual 157, 3) := by decide +kernel
theorem dc_88_40 : decode (ax_code 88) 40 = .ok (.aload_n 0, 1) := by decide +kernel
theorem dc_88_41 : decode (ax_code 88) 41 = .ok (.getfield 10, 3) := by decide +kernel
theorem dc_88_44 : decode (ax_code 88) 44 = .ok (.iload_n 1, 1) := by decide +kernel
theorem dc_88_45 : decode (ax_code 88) 45 = .ok (.invokevirtual 286, 3) := by decide +kernel
theorem dc_88_48 : decode (ax_code 88) 48 = .ok (.i2l, 1) := by decide +kernel
theorem dc_88_49 : decode (ax_code 88) 49 = .ok (.lstore_n 3, 1) := by decide +kernel
theorem dc_88_50 : decode (ax_code 88) 50 = .ok (.lload_n 3, 1) := by decide +kernel
theorem dc_88_51 : decode (ax_code 88) 51 = .ok (.aload_n 0, 1) := by decide +kernel
theorem dc_88_52 : decode (ax_code 88) 52 = .ok (.getfield 10, 3) := by decide +kernel
theorem dc_88_55 : decode (ax_code 88) 55 = .ok (.getfield 289, 3) := by decide +kernel
theorem dc_88_58 : decode (ax_code 88) 58 = .ok (.invokestatic 293, 3) := by decide +kernel
theorem dc_88_61 : decode (ax_code 88) 61 = .ok (.ifCond .eq 15, 3) := by decide +kernel
theorem dc_88_64 : decode (ax_code 88) 64 = .ok (.lload_n 3, 1) := by decide +kernel
theorem dc_88_65 : decode (ax_code 88) 65 = .ok (.aload_n 0, 1) := by decide +kernel
theorem dc_88_66 : decode (ax_code 88) 66 = .ok (.getfield 10, 3) := by decide +kernel
theorem dc_88_69 : decode (ax_code 88) 69 = .ok (.getfield 289, 3) := by decide +kernel
theorem dc_88_72 : decode (ax_code 88) 72 = .ok (.lmul, 1) := by decide +kernel
theorem dc_88_73 : decode (ax_code 88) 73 = .ok (.goto 6, 3) := by decide +kernel
theorem dc_88_76 : decode (ax_code 88) 76 = .ok (.ldc2_w 297, 3) := by decide +kernel
theorem dc_88_79 : decode (ax_code 88) 79 = .ok (.lreturn, 1) := by decide +kernel
theorem dc_89_0 : decode (ax_code 89) 0 = .ok (.iconst 0, 1) := by decide +kernel
theorem dc_89_1 : decode (ax_code 89) 1 = .ok (.istore_n 2, 1) := by decide +kernel
theorem dc_89_2 : decode (ax_code 89) 2 = .ok (.iconst 0, 1) := by decide +kernel
theorem dc_89_3 : decode (ax_code 89) 3 = .ok (.istore_n 3, 1) := by decide +kernel
theorem dc_89_4 : decode (ax_code 89) 4 = .ok (.iload_n 3, 1) := by decide +kernel
theorem dc_89_5 : decode (ax_code 89) 5 = .ok (.aload_n 0, 1) := by decide +kernel
theorem dc_89_6 : decode (ax_code 89) 6 = .ok (.getfield 44, 3) := by decide +kernel
theorem dc_89_9 : decode (ax_code 89) 9 = .ok (.if_icmp .ge 45, 3) := by decide +kernel
theorem dc_89_12 : decode (ax_code 89) 12 = .ok (.aload_n 0, 1) := by decide +kernel
theorem dc_89_13 : decode (ax_code 89) 13 = .ok (.getfield 37, 3) := by decide +kernel
theorem dc_89_16 : decode (ax_code 89) 16 = .ok (.iload_n 3, 1) := by decide +kernel
theorem dc_89_17 : decode (ax_code 89) 17 = .ok (.iaload, 1) := by decide +kernel
theorem dc_89_18 : decode (ax_code 89) 18 = .ok (.iload_n 1, 1) := by decide +kernel
theorem dc_89_19 : decode (ax_code 89) 19 = .ok (.if_icmp .ne 11, 3) := by decide +kernel
theorem dc_89_22 : decode (ax_code 89) 22 = .ok (.iload_n 2, 1) := by decide +kernel
theorem dc_89_23 : decode (ax_code 89) 23 = .ok (.aload_n 0, 1) := by decide +kernel
theorem dc_89_24 : decode (ax_code 89) 24 = .ok (.iload_n 3, 1) := by decide +kernel
theorem dc_89_25 : decode (ax_code 89) 25 = .ok (.invokevirtual 95, 3) := by decide +kernel
theorem dc_89_28 : decode (ax_code 89) 28 = .ok (.isub, 1) := by decide +kernel
theorem dc_89_29 : decode (ax_code 89) 29 = .ok (.istore_n 2, 1) := by decide +kernel
theorem dc_89_30 : decode (ax_code 89) 30 = .ok (.aload_n 0, 1) := by decide +kernel
theorem dc_89_31 : decode (ax_code 89) 31 = .ok (.getfield 41, 3) := by decide +kernel
theorem dc_89_34 : decode (ax_code 89) 34 = .ok (.iload_n 3, 1) := by decide +kernel
theorem dc_89_35 : decode (ax_code 89) 35 = .ok (.iaload, 1) := by decide +kernel
theorem dc_89_36 : decode (ax_code 89) 36 = .ok (.iload_n 1, 1) := by decide +kernel
theorem dc_89_37 : decode (ax_code 89) 37 = .ok (.if_icmp .ne 11, 3) := by decide +kernel
theorem dc_89_40 : decode (ax_code 89) 40 = .ok (.iload_n 2, 1) := by decide +kernel
theorem dc_89_41 : decode (ax_code 89) 41 = .ok (.aload_n 0, 1) := by decide +kernel
theorem dc_89_42 : decode (ax_code 89) 42 = .ok (.iload_n 3, 1) := by decide +kernel
theorem dc_89_43 : decode (ax_code 89) 43 = .ok (.invokevirtual 95, 3) := by decide +kernel
theorem dc_89_46 : decode (ax_code 89) 46 = .ok (.iadd, 1) := by decide +kernel
theorem dc_89_47 : decode (ax_code 89) 47 = .ok (.istore_n 2, 1) := by decide +kernel
theorem dc_89_48 : decode (ax_code 89) 48 = .ok (.iinc 3 1, 3) := by decide +kernel
theorem dc_89_51 : decode (ax_code 89) 51 = .ok (.goto (-47), 3) := by decide +kernel
theorem dc_89_54 : decode (ax_code 89) 54 = .ok (.iload_n 2, 1) := by decide +kernel
theorem dc_89_55 : decode (ax_code 89) 55 = .ok (.ireturn, 1) := by decide +kernel
theorem dc_90_0 : decode (ax_code 90) 0 = .ok (.lload_n 2, 1) := by decide +kernel
theorem dc_90_1 : decode (ax_code 90) 1 = .ok (.lconst 0, 1) := by decide +kernel
theorem dc_90_2 : decode (ax_code 90) 2 = .ok (.lcmp, 1) := by decide +kernel
theorem dc_90_3 : decode (ax_code 90) 3 = .ok (.ifCond .le 27, 3) := by decide +kernel
theorem dc_90_6 : decode (ax_code 90) 6 = .ok (.lload_n 0, 1) := by decide +kernel
theorem dc_90_7 : decode (ax_code 90) 7 = .ok (.ldc2_w 387, 3) := by decide +kernel
theorem dc_90_10 : decode (ax_code 90) 10 = .ok (.lload_n 2, 1) := by decide +kernel
theorem dc_90_11 : decode (ax_code 90) 11 = .ok (.ldiv, 1) := by decide +kernel
theorem dc_90_12 : decode (ax_code 90) 12 = .ok (.lcmp, 1) := by decide +kernel
theorem dc_90_13 : decode (ax_code 90) 13 = .ok (.ifCond .gt 17, 3) := by decide +kernel
theorem dc_90_16 : decode (ax_code 90) 16 = .ok (.lload_n 0, 1) := by decide +kernel
theorem dc_90_17 : decode (ax_code 90) 17 = .ok (.ldc2_w 389, 3) := by decide +kernel
theorem dc_90_20 : decode (ax_code 90) 20 = .ok (.lload_n 2, 1) := by decide +kernel
theorem dc_90_21 : decode (ax_code 90) 21 = .ok (.ldiv, 1) := by decide +kernel
theorem dc_90_22 : decode (ax_code 90) 22 = .ok (.lcmp, 1) := by decide +kernel
theorem dc_90_23 : decode (ax_code 90) 23 = .ok (.ifCond .lt 7, 3) := by decide +kernel
theorem dc_90_26 : decode (ax_code 90) 26 = .ok (.iconst 1, 1) := by decide +kernel
theorem dc_90_27 : decode (ax_code 90) 27 = .ok (.goto 4, 3) := by decide +kernel
theorem dc_90_30 : decode (ax_code 90) 30 = .ok (.iconst 0, 1) := by decide +kernel
theorem dc_90_31 : decode (ax_code 90) 31 = .ok (.ireturn, 1) := by decide +kernel
theorem dc_91_0 : decode (ax_code 91) 0 = .ok (.iload_n 1, 1) := by decide +kernel
theorem dc_91_1 : decode (ax_code 91) 1 = .ok (.invokestatic 173, 3) := by decide +kernel
theorem dc_91_4 : decode (ax_code 91) 4 = .ok (.ifCond .eq 10, 3) := by decide +kernel
theorem dc_91_7 : decode (ax_code 91) 7 = .ok (.iload_n 2, 1) := by decide +kernel
theorem dc_91_8 : decode (ax_code 91) 8 = .ok (.invokestatic 164, 3) := by decide +kernel
theorem dc_91_11 : decode (ax_code 91) 11 = .ok (.ifCond .ne 7, 3) := by decide +kernel
theorem dc_91_14 : decode (ax_code 91) 14 = .ok (.ldc2_w 167, 3) := by decide +kernel
theorem dc_91_17 : decode (ax_code 91) 17 = .ok (.lreturn, 1) := by decide +kernel
theorem dc_91_18 : decode (ax_code 91) 18 = .ok (.aload_n 0, 1) := by decide +kernel
theorem dc_91_19 : decode (ax_code 91) 19 = .ok (.getfield 33, 3) := by decide +kernel
theorem dc_91_22 : decode (ax_code 91) 22 = .ok (.aload_n 0, 1) := by decide +kernel
theorem dc_91_23 : decode (ax_code 91) 23 = .ok (.getfield 10, 3) := by decide +kernel
theorem dc_91_26 : decode (ax_code 91) 26 = .ok (.iload_n 1, 1) := by decide +kernel
theorem dc_91_27 : decode (ax_code 91) 27 = .ok (.invokevirtual 299, 3) := by decide +kernel
theorem dc_91_30 : decode (ax_code 91) 30 = .ok (.i2l, 1) := by decide +kernel
theorem dc_91_31 : decode (ax_code 91) 31 = .ok (.lstore_n 3, 1) := by decide +kernel
theorem dc_91_32 : decode (ax_code 91) 32 = .ok (.aload_n 0, 1) := by decide +kernel
theorem dc_91_33 : decode (ax_code 91) 33 = .ok (.getfield 10, 3) := by decide +kernel
theorem dc_91_36 : decode (ax_code 91) 36 = .ok (.getfield 77, 3) := by decide +kernel
theorem dc_91_39 : decode (ax_code 91) 39 = .ok (.aload_n 0, 1) := by decide +kernel
theorem dc_91_40 : decode (ax_code 91) 40 = .ok (.getfield 10, 3) := by decide +kernel
theorem dc_91_43 : decode (ax_code 91) 43 = .ok (.getfield 77, 3) := by decide +kernel
theorem dc_91_46 : decode (ax_code 91) 46 = .ok (.getfield 117, 3) := by decide +kernel
theorem dc_91_49 : decode (ax_code 91) 49 = .ok (.invokevirtual 169, 3) := by decide +kernel
theorem dc_91_52 : decode (ax_code 91) 52 = .ok (.i2l, 1) := by decide +kernel
theorem dc_91_53 : decode (ax_code 91) 53 = .ok (.lstore 5, 2) := by decide +kernel
theorem dc_91_55 : decode (ax_code 91) 55 = .ok (.lload_n 3, 1) := by decide +kernel
theorem dc_91_56 : decode (ax_code 91) 56 = .ok (.lload 5, 2) := by decide +kernel
theorem dc_91_58 : decode (ax_code 91) 58 = .ok (.iconst 0, 1) := by decide +kernel
theorem dc_91_59 : decode (ax_code 91) 59 = .ok (.invokestatic 201, 3) := by decide +kernel
theorem dc_91_62 : decode (ax_code 91) 62 = .ok (.lstore 7, 2) := by decide +kernel
theorem dc_91_64 : decode (ax_code 91) 64 = .ok (.lload_n 3, 1) := by decide +kernel
theorem dc_91_65 : decode (ax_code 91) 65 = .ok (.lload 5, 2) := by decide +kernel
theorem dc_91_67 : decode (ax_code 91) 67 = .ok (.iconst 1, 1) := by decide +kernel
theorem dc_91_68 : decode (ax_code 91) 68 = .ok (.invokestatic 201, 3) := by decide +kernel
theorem dc_91_71 : decode (ax_code 91) 71 = .ok (.lstore 9, 2) := by decide +kernel
theorem dc_91_73 : decode (ax_code 91) 73 = .ok (.aload_n 0, 1) := by decide +kernel
theorem dc_91_74 : decode (ax_code 91) 74 = .ok (.getfield 10, 3) := by decide +kernel
theorem dc_91_77 : decode (ax_code 91) 77 = .ok (.getfield 289, 3) := by decide +kernel
theorem dc_91_80 : decode (ax_code 91) 80 = .ok (.lload 9, 2) := by decide +kernel
theorem dc_91_82 : decode (ax_code 91) 82 = .ok (.invokestatic 303, 3) := by decide +kernel
theorem dc_91_85 : decode (ax_code 91) 85 = .ok (.lstore 11, 2) := by decide +kernel
theorem dc_91_87 : decode (ax_code 91) 87 = .ok (.lload 7, 2) := by decide +kernel
theorem dc_91_89 : decode (ax_code 91) 89 = .ok (.aload_n 0, 1) := by decide +kernel
theorem dc_91_90 : decode (ax_code 91) 90 = .ok (.getfield 10, 3) := by decide +kernel
theorem dc_91_93 : decode (ax_code 91) 93 = .ok (.getfield 289, 3) := by decide +kernel
theorem dc_91_96 : decode (ax_code 91) 96 = .ok (.lload 11, 2) := by decide +kernel
theorem dc_91_98 : decode (ax_code 91) 98 = .ok (.ldiv, 1) := by decide +kernel
theorem dc_91_99 : decode (ax_code 91) 99 = .ok (.invokestatic 293, 3) := by decide +kernel
theorem dc_91_102 : decode (ax_code 91) 102 = .ok (.ifCond .ne 7, 3) := by decide +kernel
theorem dc_91_105 : decode (ax_code 91) 105 = .ok (.ldc2_w 297, 3) := by decide +kernel
theorem dc_91_108 : decode (ax_code 91) 108 = .ok (.lreturn, 1) := by decide +kernel
theorem dc_91_109 : decode (ax_code 91) 109 = .ok (.iload_n 2, 1) := by decide +kernel
theorem dc_91_110 : decode (ax_code 91) 110 = .ok (.ifCond .ne 19, 3) := by decide +kernel
theorem dc_91_113 : decode (ax_code 91) 113 = .ok (.lload 7, 2) := by decide +kernel
theorem dc_91_115 : decode (ax_code 91) 115 = .ok (.aload_n 0, 1) := by decide +kernel
theorem dc_91_116 : decode (ax_code 91) 116 = .ok (.getfield 10, 3) := by decide +kernel
theorem dc_91_119 : decode (ax_code 91) 119 = .ok (.getfield 289, 3) := by decide +kernel
theorem dc_91_122 : decode (ax_code 91) 122 = .ok (.lload 11, 2) := by decide +kernel
theorem dc_91_124 : decode (ax_code 91) 124 = .ok (.ldiv, 1) := by decide +kernel
theorem dc_91_125 : decode (ax_code 91) 125 = .ok (.lmul, 1) := by decide +kernel
theorem dc_91_126 : decode (ax_code 91) 126 = .ok (.goto 8, 3) := by decide +kernel
theorem dc_91_129 : decode (ax_code 91) 129 = .ok (.lload 9, 2) := by decide +kernel
theorem dc_91_131 : decode (ax_code 91) 131 = .ok (.lload 11, 2) := by decide +kernel
theorem dc_91_133 : decode (ax_code 91) 133 = .ok (.ldiv, 1) := by decide +kernel
theorem dc_91_134 : decode (ax_code 91) 134 = .ok (.lreturn, 1) := by decide +kernel
theorem dc_92_0 : decode (ax_code 92) 0 = .ok (.aload_n 0, 1) := by decide +kernel
theorem dc_92_1 : decode (ax_code 92) 1 = .ok (.aload_n 1, 1) := by decide +kernel
theorem dc_92_2 : decode (ax_code 92) 2 = .ok (.aload_n 1, 1) := by decide +kernel
theorem dc_92_3 : decode (ax_code 92) 3 = .ok (.getfield 45, 3) := by decide +kernel
theorem dc_92_6 : decode (ax_code 92) 6 = .ok (.getfield 85, 3) := by decide +kernel
theorem dc_92_9 : decode (ax_code 92) 9 = .ok (.iconst (-1), 1) := by decide +kernel
theorem dc_92_10 : decode (ax_code 92) 10 = .ok (.invokevirtual 88, 3) := by decide +kernel
theorem dc_92_13 : decode (ax_code 92) 13 = .ok (.iconst 0, 1) := by decide +kernel
theorem dc_92_14 : decode (ax_code 92) 14 = .ok (.istore_n 3, 1) := by decide +kernel
theorem dc_92_15 : decode (ax_code 92) 15 = .ok (.iconst 0, 1) := by decide +kernel
theorem dc_92_16 : decode (ax_code 92) 16 = .ok (.istore 4, 2) := by decide +kernel
theorem dc_92_18 : decode (ax_code 92) 18 = .ok (.iload 4, 2) := by decide +kernel
theorem dc_92_20 : decode (ax_code 92) 20 = .ok (.aload_n 0, 1) := by decide +kernel
theorem dc_92_21 : decode (ax_code 92) 21 = .ok (.getfield 18, 3) := by decide +kernel
theorem dc_92_24 : decode (ax_code 92) 24 = .ok (.if_icmp .ge 38, 3) := by decide +kernel
theorem dc_92_27 : decode (ax_code 92) 27 = .ok (.aload_n 1, 1) := by decide +kernel
theorem dc_92_28 : decode (ax_code 92) 28 = .ok (.getfield 45, 3) := by decide +kernel
theorem dc_92_31 : decode (ax_code 92) 31 = .ok (.aload_n 0, 1) := by decide +kernel
theorem dc_92_32 : decode (ax_code 92) 32 = .ok (.getfield 9, 3) := by decide +kernel
theorem dc_92_35 : decode (ax_code 92) 35 = .ok (.iload 4, 2) := by decide +kernel
theorem dc_92_37 : decode (ax_code 92) 37 = .ok (.iaload, 1) := by decide +kernel
theorem dc_92_38 : decode (ax_code 92) 38 = .ok (.aload_n 1, 1) := by decide +kernel
theorem dc_92_39 : decode (ax_code 92) 39 = .ok (.getfield 45, 3) := by decide +kernel
theorem dc_92_42 : decode (ax_code 92) 42 = .ok (.getfield 85, 3) := by decide +kernel
theorem dc_92_45 : decode (ax_code 92) 45 = .ok (.invokevirtual 91, 3) := by decide +kernel
theorem dc_92_48 : decode (ax_code 92) 48 = .ok (.iload_n 3, 1) := by decide +kernel
theorem dc_92_49 : decode (ax_code 92) 49 = .ok (.aload_n 1, 1) := by decide +kernel
theorem dc_92_50 : decode (ax_code 92) 50 = .ok (.iload_n 2, 1) := by decide +kernel
theorem dc_92_51 : decode (ax_code 92) 51 = .ok (.invokevirtual 95, 3) := by decide +kernel
theorem dc_92_54 : decode (ax_code 92) 54 = .ok (.iadd, 1) := by decide +kernel
theorem dc_92_55 : decode (ax_code 92) 55 = .ok (.istore_n 3, 1) := by decide +kernel
theorem dc_92_56 : decode (ax_code 92) 56 = .ok (.iinc 4 1, 3) := by decide +kernel
theorem dc_92_59 : decode (ax_code 92) 59 = .ok (.goto (-41), 3) := by decide +kernel
theorem dc_92_62 : decode (ax_code 92) 62 = .ok (.iload_n 3, 1) := by decide +kernel
theorem dc_92_63 : decode (ax_code 92) 63 = .ok (.ireturn, 1) := by decide +kernel
theorem dc_93_0 : decode (ax_code 93) 0 = .ok (.iload_n 1, 1) := by decide +kernel
theorem dc_93_1 : decode (ax_code 93) 1 = .ok (.invokestatic 173, 3) := by decide +kernel
theorem dc_93_4 : decode (ax_code 93) 4 = .ok (.ifCond .eq 10, 3) := by decide +kernel
theorem dc_93_7 : decode (ax_code 93) 7 = .ok (.iload_n 2, 1) := by decide +kernel
theorem dc_93_8 : decode (ax_code 93) 8 = .ok (.invokestatic 164, 3) := by decide +kernel
theorem dc_93_11 : decode (ax_code 93) 11 = .ok (.ifCond .ne 7, 3) := by decide +kernel
theorem dc_93_14 : decode (ax_code 93) 14 = .ok (.ldc2_w 167, 3) := by decide +kernel
theorem dc_93_17 : decode (ax_code 93) 17 = .ok (.lreturn, 1) := by decide +kernel
theorem dc_93_18 : decode (ax_code 93) 18 = .ok (.aload_n 0, 1) := by decide +kernel
theorem dc_93_19 : decode (ax_code 93) 19 = .ok (.iload_n 1, 1) := by decide +kernel
theorem dc_93_20 : decode (ax_code 93) 20 = .ok (.invokevirtual 307, 3) := by decide +kernel
theorem dc_93_23 : decode (ax_code 93) 23 = .ok (.ifCond .eq 7, 3) := by decide +kernel
theorem dc_93_26 : decode (ax_code 93) 26 = .ok (.ldc2_w 297, 3) := by decide +kernel
theorem dc_93_29 : decode (ax_code 93) 29 = .ok (.lreturn, 1) := by decide +kernel
theorem dc_93_30 : decode (ax_code 93) 30 = .ok (.aload_n 0, 1) := by decide +kernel
theorem dc_93_31 : decode (ax_code 93) 31 = .ok (.getfield 33, 3) := by decide +kernel
theorem dc_93_34 : decode (ax_code 93) 34 = .ok (.aload_n 0, 1) := by decide +kernel
theorem dc_93_35 : decode (ax_code 93) 35 = .ok (.getfield 10, 3) := by decide +kernel
theorem dc_93_38 : decode (ax_code 93) 38 = .ok (.aload_n 0, 1) := by decide +kernel
theorem dc_93_39 : decode (ax_code 93) 39 = .ok (.getfield 26, 3) := by decide +kernel
theorem dc_93_42 : decode (ax_code 93) 42 = .ok (.iload_n 1, 1) := by decide +kernel
theorem dc_93_43 : decode (ax_code 93) 43 = .ok (.invokevirtual 310, 3) := by decide +kernel
theorem dc_93_46 : decode (ax_code 93) 46 = .ok (.i2l, 1) := by decide +kernel
theorem dc_93_47 : decode (ax_code 93) 47 = .ok (.aload_n 0, 1) := by decide +kernel
theorem dc_93_48 : decode (ax_code 93) 48 = .ok (.getfield 10, 3) := by decide +kernel
theorem dc_93_51 : decode (ax_code 93) 51 = .ok (.getfield 77, 3) := by decide +kernel
theorem dc_93_54 : decode (ax_code 93) 54 = .ok (.aload_n 0, 1) := by decide +kernel
theorem dc_93_55 : decode (ax_code 93) 55 = .ok (.getfield 10, 3) := by decide +kernel
theorem dc_93_58 : decode (ax_code 93) 58 = .ok (.getfield 77, 3) := by decide +kernel
theorem dc_93_61 : decode (ax_code 93) 61 = .ok (.getfield 117, 3) := by decide +kernel
theorem dc_93_64 : decode (ax_code 93) 64 = .ok (.invokevirtual 169, 3) := by decide +kernel
theorem dc_93_67 : decode (ax_code 93) 67 = .ok (.i2l, 1) := by decide +kernel
theorem dc_93_68 : decode (ax_code 93) 68 = .ok (.iload_n 2, 1) := by decide +kernel
theorem dc_93_69 : decode (ax_code 93) 69 = .ok (.invokestatic 201, 3) := by decide +kernel
theorem dc_93_72 : decode (ax_code 93) 72 = .ok (.lreturn, 1) := by decide +kernel
theorem dc_94_0 : decode (ax_code 94) 0 = .ok (.aload_n 0, 1) := by decide +kernel
theorem dc_94_1 : decode (ax_code 94) 1 = .ok (.getfield 26, 3) := by decide +kernel
theorem dc_94_4 : decode (ax_code 94) 4 = .ok (.aload_n 0, 1) := by decide +kernel
theorem dc_94_5 : decode (ax_code 94) 5 = .ok (.getfield 10, 3) := by decide +kernel
theorem dc_94_8 : decode (ax_code 94) 8 = .ok (.getfield 77, 3) := by decide +kernel
theorem dc_94_11 : decode (ax_code 94) 11 = .ok (.iload_n 1, 1) := by decide +kernel
theorem dc_94_12 : decode (ax_code 94) 12 = .ok (.invokevirtual 205, 3) := by decide +kernel
theorem dc_94_15 : decode (ax_code 94) 15 = .ok (.iconst 1, 1) := by decide +kernel
theorem dc_94_16 : decode (ax_code 94) 16 = .ok (.istore_n 2, 1) := by decide +kernel
theorem dc_94_17 : decode (ax_code 94) 17 = .ok (.iconst 0, 1) := by decide +kernel
theorem dc_94_18 : decode (ax_code 94) 18 = .ok (.istore_n 3, 1) := by decide +kernel
theorem dc_94_19 : decode (ax_code 94) 19 = .ok (.iload_n 3, 1) := by decide +kernel
theorem dc_94_20 : decode (ax_code 94) 20 = .ok (.aload_n 0, 1) := by decide +kernel
theorem dc_94_21 : decode (ax_code 94) 21 = .ok (.getfield 26, 3) := by decide +kernel
theorem dc_94_24 : decode (ax_code 94) 24 = .ok (.getfield 209, 3) := by decide +kernel
theorem dc_94_27 : decode (ax_code 94) 27 = .ok (.if_icmp .ge 41, 3) := by decide +kernel
theorem dc_94_30 : decode (ax_code 94) 30 = .ok (.iload_n 2, 1) := by decide +kernel
theorem dc_94_31 : decode (ax_code 94) 31 = .ok (.aload_n 0, 1) := by decide +kernel
theorem dc_94_32 : decode (ax_code 94) 32 = .ok (.getfield 10, 3) := by decide +kernel
theorem dc_94_35 : decode (ax_code 94) 35 = .ok (.getfield 77, 3) := by decide +kernel
theorem dc_94_38 : decode (ax_code 94) 38 = .ok (.getfield 231, 3) := by decide +kernel
theorem dc_94_41 : decode (ax_code 94) 41 = .ok (.aload_n 0, 1) := by decide +kernel
theorem dc_94_42 : decode (ax_code 94) 42 = .ok (.getfield 26, 3) := by decide +kernel
theorem dc_94_45 : decode (ax_code 94) 45 = .ok (.getfield 212, 3) := by decide +kernel
theorem dc_94_48 : decode (ax_code 94) 48 = .ok (.iload_n 3, 1) := by decide +kernel
theorem dc_94_49 : decode (ax_code 94) 49 = .ok (.iaload, 1) := by decide +kernel
theorem dc_94_50 : decode (ax_code 94) 50 = .ok (.iaload, 1) := by decide +kernel
theorem dc_94_51 : decode (ax_code 94) 51 = .ok (.imul, 1) := by decide +kernel
theorem dc_94_52 : decode (ax_code 94) 52 = .ok (.istore_n 2, 1) := by decide +kernel
theorem dc_94_53 : decode (ax_code 94) 53 = .ok (.iload_n 2, 1) := by decide +kernel
theorem dc_94_54 : decode (ax_code 94) 54 = .ok (.sipush 729, 3) := by decide +kernel
theorem dc_94_57 : decode (ax_code 94) 57 = .ok (.if_icmp .le 5, 3) := by decide +kernel
theorem dc_94_60 : decode (ax_code 94) 60 = .ok (.iconst 1, 1) := by decide +kernel
theorem dc_94_61 : decode (ax_code 94) 61 = .ok (.ireturn, 1) := by decide +kernel
theorem dc_94_62 : decode (ax_code 94) 62 = .ok (.iinc 3 1, 3) := by decide +kernel
theorem dc_94_65 : decode (ax_code 94) 65 = .ok (.goto (-46), 3) := by decide +kernel
theorem dc_94_68 : decode (ax_code 94) 68 = .ok (.iconst 0, 1) := by decide +kernel
theorem dc_94_69 : decode (ax_code 94) 69 = .ok (.ireturn, 1) := by decide +kernel
theorem dc_95_0 : decode (ax_code 95) 0 = .ok (.aload_n 0, 1) := by decide +kernel
theorem dc_95_1 : decode (ax_code 95) 1 = .ok (.aload_n 1, 1) := by decide +kernel
theorem dc_95_2 : decode (ax_code 95) 2 = .ok (.aload_n 1, 1) := by decide +kernel
theorem dc_95_3 : decode (ax_code 95) 3 = .ok (.getfield 45, 3) := by decide +kernel
theorem dc_95_6 : decode (ax_code 95) 6 = .ok (.getfield 85, 3) := by decide +kernel
theorem dc_95_9 : decode (ax_code 95) 9 = .ok (.iload_n 3, 1) := by decide +kernel
theorem dc_95_10 : decode (ax_code 95) 10 = .ok (.invokevirtual 88, 3) := by decide +kernel
theorem dc_95_13 : decode (ax_code 95) 13 = .ok (.aload_n 0, 1) := by decide +kernel
theorem dc_95_14 : decode (ax_code 95) 14 = .ok (.aload_n 1, 1) := by decide +kernel
theorem dc_95_15 : decode (ax_code 95) 15 = .ok (.aload_n 2, 1) := by decide +kernel
theorem dc_95_16 : decode (ax_code 95) 16 = .ok (.iload_n 3, 1) := by decide +kernel
theorem dc_95_17 : decode (ax_code 95) 17 = .ok (.invokevirtual 99, 3) := by decide +kernel
theorem dc_95_20 : decode (ax_code 95) 20 = .ok (.iconst 0, 1) := by decide +kernel
theorem dc_95_21 : decode (ax_code 95) 21 = .ok (.istore 4, 2) := by decide +kernel
theorem dc_95_23 : decode (ax_code 95) 23 = .ok (.iload 4, 2) := by decide +kernel
theorem dc_95_25 : decode (ax_code 95) 25 = .ok (.bipush 63, 2) := by decide +kernel
theorem dc_95_27 : decode (ax_code 95) 27 = .ok (.if_icmp .ge 17, 3) := by decide +kernel
theorem dc_95_30 : decode (ax_code 95) 30 = .ok (.aload_n 0, 1) := by decide +kernel
theorem dc_95_31 : decode (ax_code 95) 31 = .ok (.getfield 35, 3) := by decide +kernel
theorem dc_95_34 : decode (ax_code 95) 34 = .ok (.iload 4, 2) := by decide +kernel
theorem dc_95_36 : decode (ax_code 95) 36 = .ok (.iconst 0, 1) := by decide +kernel
theorem dc_95_37 : decode (ax_code 95) 37 = .ok (.iastore, 1) := by decide +kernel
theorem dc_95_38 : decode (ax_code 95) 38 = .ok (.iinc 4 1, 3) := by decide +kernel
theorem dc_95_41 : decode (ax_code 95) 41 = .ok (.goto (-18), 3) := by decide +kernel
theorem dc_95_44 : decode (ax_code 95) 44 = .ok (.iconst 0, 1) := by decide +kernel
theorem dc_95_45 : decode (ax_code 95) 45 = .ok (.istore 4, 2) := by decide +kernel
theorem dc_95_47 : decode (ax_code 95) 47 = .ok (.iconst 0, 1) := by decide +kernel
theorem dc_95_48 : decode (ax_code 95) 48 = .ok (.istore 5, 2) := by decide +kernel
theorem dc_95_50 : decode (ax_code 95) 50 = .ok (.iload 5, 2) := by decide +kernel
theorem dc_95_52 : decode (ax_code 95) 52 = .ok (.sipush 729, 3) := by decide +kernel
theorem dc_95_55 : decode (ax_code 95) 55 = .ok (.if_icmp .ge 76, 3) := by decide +kernel
theorem dc_95_58 : decode (ax_code 95) 58 = .ok (.aload_n 0, 1) := by decide +kernel
theorem dc_95_59 : decode (ax_code 95) 59 = .ok (.invokevirtual 103, 3) := by decide +kernel
theorem dc_95_62 : decode (ax_code 95) 62 = .ok (.istore 6, 2) := by decide +kernel
theorem dc_95_64 : decode (ax_code 95) 64 = .ok (.iload 5, 2) := by decide +kernel
theorem dc_95_66 : decode (ax_code 95) 66 = .ok (.ifCond .eq 10, 3) := by decide +kernel
theorem dc_95_69 : decode (ax_code 95) 69 = .ok (.iload 6, 2) := by decide +kernel
theorem dc_95_71 : decode (ax_code 95) 71 = .ok (.iload 4, 2) := by decide +kernel
theorem dc_95_73 : decode (ax_code 95) 73 = .ok (.if_icmp .le 37, 3) := by decide +kernel
theorem dc_95_76 : decode (ax_code 95) 76 = .ok (.iload 6, 2) := by decide +kernel
theorem dc_95_78 : decode (ax_code 95) 78 = .ok (.istore 4, 2) := by decide +kernel
theorem dc_95_80 : decode (ax_code 95) 80 = .ok (.iconst 0, 1) := by decide +kernel
theorem dc_95_81 : decode (ax_code 95) 81 = .ok (.istore 7, 2) := by decide +kernel
theorem dc_95_83 : decode (ax_code 95) 83 = .ok (.iload 7, 2) := by decide +kernel
theorem dc_95_85 : decode (ax_code 95) 85 = .ok (.bipush 9, 2) := by decide +kernel
theorem dc_95_87 : decode (ax_code 95) 87 = .ok (.if_icmp .ge 23, 3) := by decide +kernel
theorem dc_95_90 : decode (ax_code 95) 90 = .ok (.aload_n 0, 1) := by decide +kernel
theorem dc_95_91 : decode (ax_code 95) 91 = .ok (.getfield 38, 3) := by decide +kernel
theorem dc_95_94 : decode (ax_code 95) 94 = .ok (.iload 7, 2) := by decide +kernel
theorem dc_95_96 : decode (ax_code 95) 96 = .ok (.aload_n 0, 1) := by decide +kernel
theorem dc_95_97 : decode (ax_code 95) 97 = .ok (.getfield 35, 3) := by decide +kernel
theorem dc_95_100 : decode (ax_code 95) 100 = .ok (.iload 7, 2) := by decide +kernel
theorem dc_95_102 : decode (ax_code 95) 102 = .ok (.iaload, 1) := by decide +kernel
theorem dc_95_103 : decode (ax_code 95) 103 = .ok (.iastore, 1) := by decide +kernel
theorem dc_95_104 : decode (ax_code 95) 104 = .ok (.iinc 7 1, 3) := by decide +kernel
theorem dc_95_107 : decode (ax_code 95) 107 = .ok (.goto (-24), 3) := by decide +kernel
theorem dc_95_110 : decode (ax_code 95) 110 = .ok (.aload_n 0, 1) := by decide +kernel
theorem dc_95_111 : decode (ax_code 95) 111 = .ok (.aload_n 1, 1) := by decide +kernel
theorem dc_95_112 : decode (ax_code 95) 112 = .ok (.getfield 45, 3) := by decide +kernel
theorem dc_95_115 : decode (ax_code 95) 115 = .ok (.aload_n 2, 1) := by decide +kernel
theorem dc_95_116 : decode (ax_code 95) 116 = .ok (.invokevirtual 107, 3) := by decide +kernel
theorem dc_95_119 : decode (ax_code 95) 119 = .ok (.ifCond .ne 6, 3) := by decide +kernel
theorem dc_95_122 : decode (ax_code 95) 122 = .ok (.goto 9, 3) := by decide +kernel
theorem dc_95_125 : decode (ax_code 95) 125 = .ok (.iinc 5 1, 3) := by decide +kernel
theorem dc_95_128 : decode (ax_code 95) 128 = .ok (.goto (-78), 3) := by decide +kernel
theorem dc_95_131 : decode (ax_code 95) 131 = .ok (.iload 4, 2) := by decide +kernel
theorem dc_95_133 : decode (ax_code 95) 133 = .ok (.ireturn, 1) := by decide +kernel
theorem dc_96_0 : decode (ax_code 96) 0 = .ok (.aload_n 0, 1) := by decide +kernel
theorem dc_96_1 : decode (ax_code 96) 1 = .ok (.iconst 0, 1) := by decide +kernel
theorem dc_96_2 : decode (ax_code 96) 2 = .ok (.putfield 29, 3) := by decide +kernel
theorem dc_96_5 : decode (ax_code 96) 5 = .ok (.aload_n 0, 1) := by decide +kernel
theorem dc_96_6 : decode (ax_code 96) 6 = .ok (.iconst 0, 1) := by decide +kernel
theorem dc_96_7 : decode (ax_code 96) 7 = .ok (.putfield 32, 3) := by decide +kernel
theorem dc_96_10 : decode (ax_code 96) 10 = .ok (.iconst 0, 1) := by decide +kernel
theorem dc_96_11 : decode (ax_code 96) 11 = .ok (.istore 4, 2) := by decide +kernel
theorem dc_96_13 : decode (ax_code 96) 13 = .ok (.iload 4, 2) := by decide +kernel
theorem dc_96_15 : decode (ax_code 96) 15 = .ok (.aload_n 1, 1) := by decide +kernel
theorem dc_96_16 : decode (ax_code 96) 16 = .ok (.getfield 45, 3) := by decide +kernel
theorem dc_96_19 : decode (ax_code 96) 19 = .ok (.getfield 85, 3) := by decide +kernel
theorem dc_96_22 : decode (ax_code 96) 22 = .ok (.if_icmp .ge 32, 3) := by decide +kernel
theorem dc_96_25 : decode (ax_code 96) 25 = .ok (.aload_n 1, 1) := by decide +kernel
theorem dc_96_26 : decode (ax_code 96) 26 = .ok (.getfield 45, 3) := by decide +kernel
theorem dc_96_29 : decode (ax_code 96) 29 = .ok (.iload_n 3, 1) := by decide +kernel
theorem dc_96_30 : decode (ax_code 96) 30 = .ok (.iload 4, 2) := by decide +kernel
theorem dc_96_32 : decode (ax_code 96) 32 = .ok (.invokevirtual 111, 3) := by decide +kernel
theorem dc_96_35 : decode (ax_code 96) 35 = .ok (.ifCond .eq 13, 3) := by decide +kernel
theorem dc_96_38 : decode (ax_code 96) 38 = .ok (.aload_n 0, 1) := by decide +kernel
theorem dc_96_39 : decode (ax_code 96) 39 = .ok (.dup, 1) := by decide +kernel
theorem dc_96_40 : decode (ax_code 96) 40 = .ok (.getfield 32, 3) := by decide +kernel
theorem dc_96_43 : decode (ax_code 96) 43 = .ok (.iconst 1, 1) := by decide +kernel
theorem dc_96_44 : decode (ax_code 96) 44 = .ok (.iadd, 1) := by decide +kernel
theorem dc_96_45 : decode (ax_code 96) 45 = .ok (.putfield 32, 3) := by decide +kernel
theorem dc_96_48 : decode (ax_code 96) 48 = .ok (.iinc 4 1, 3) := by decide +kernel
theorem dc_96_51 : decode (ax_code 96) 51 = .ok (.goto (-38), 3) := by decide +kernel
theorem dc_96_54 : decode (ax_code 96) 54 = .ok (.iconst 0, 1) := by decide +kernel
theorem dc_96_55 : decode (ax_code 96) 55 = .ok (.istore 4, 2) := by decide +kernel
theorem dc_96_57 : decode (ax_code 96) 57 = .ok (.iload 4, 2) := by decide +kernel
theorem dc_96_59 : decode (ax_code 96) 59 = .ok (.aload_n 0, 1) := by decide +kernel
theorem dc_96_60 : decode (ax_code 96) 60 = .ok (.getfield 18, 3) := by decide +kernel
theorem dc_96_63 : decode (ax_code 96) 63 = .ok (.if_icmp .ge 124, 3) := by decide +kernel
theorem dc_96_66 : decode (ax_code 96) 66 = .ok (.aload_n 1, 1) := by decide +kernel
theorem dc_96_67 : decode (ax_code 96) 67 = .ok (.getfield 45, 3) := by decide +kernel
theorem dc_96_70 : decode (ax_code 96) 70 = .ok (.aload_n 0, 1) := by decide +kernel
theorem dc_96_71 : decode (ax_code 96) 71 = .ok (.getfield 9, 3) := by decide +kernel
theorem dc_96_74 : decode (ax_code 96) 74 = .ok (.iload 4, 2) := by decide +kernel
theorem dc_96_76 : decode (ax_code 96) 76 = .ok (.iaload, 1) := by decide +kernel
theorem dc_96_77 : decode (ax_code 96) 77 = .ok (.aload_n 1, 1) := by decide +kernel
theorem dc_96_78 : decode (ax_code 96) 78 = .ok (.getfield 45, 3) := by decide +kernel
theorem dc_96_81 : decode (ax_code 96) 81 = .ok (.getfield 85, 3) := by decide +kernel
theorem dc_96_84 : decode (ax_code 96) 84 = .ok (.invokevirtual 91, 3) := by decide +kernel
theorem dc_96_87 : decode (ax_code 96) 87 = .ok (.aload_n 0, 1) := by decide +kernel
theorem dc_96_88 : decode (ax_code 96) 88 = .ok (.aload_n 1, 1) := by decide +kernel
theorem dc_96_89 : decode (ax_code 96) 89 = .ok (.getfield 45, 3) := by decide +kernel
theorem dc_96_92 : decode (ax_code 96) 92 = .ok (.aload_n 2, 1) := by decide +kernel
theorem dc_96_93 : decode (ax_code 96) 93 = .ok (.iload_n 3, 1) := by decide +kernel
theorem dc_96_94 : decode (ax_code 96) 94 = .ok (.invokevirtual 115, 3) := by decide +kernel
theorem dc_96_97 : decode (ax_code 96) 97 = .ok (.lstore 5, 2) := by decide +kernel
theorem dc_96_99 : decode (ax_code 96) 99 = .ok (.iconst 0, 1) := by decide +kernel
theorem dc_96_100 : decode (ax_code 96) 100 = .ok (.istore 7, 2) := by decide +kernel
theorem dc_96_102 : decode (ax_code 96) 102 = .ok (.iload 7, 2) := by decide +kernel
theorem dc_96_104 : decode (ax_code 96) 104 = .ok (.aload_n 0, 1) := by decide +kernel
theorem dc_96_105 : decode (ax_code 96) 105 = .ok (.getfield 29, 3) := by decide +kernel
theorem dc_96_108 : decode (ax_code 96) 108 = .ok (.if_icmp .ge 22, 3) := by decide +kernel
theorem dc_96_111 : decode (ax_code 96) 111 = .ok (.aload_n 0, 1) := by decide +kernel
theorem dc_96_112 : decode (ax_code 96) 112 = .ok (.getfield 22, 3) := by decide +kernel
theorem dc_96_115 : decode (ax_code 96) 115 = .ok (.iload 7, 2) := by decide +kernel
theorem dc_96_117 : decode (ax_code 96) 117 = .ok (.laload, 1) := by decide +kernel
theorem dc_96_118 : decode (ax_code 96) 118 = .ok (.lload 5, 2) := by decide +kernel
theorem dc_96_120 : decode (ax_code 96) 120 = .ok (.lcmp, 1) := by decide +kernel
theorem dc_96_121 : decode (ax_code 96) 121 = .ok (.ifCond .eq 9, 3) := by decide +kernel
theorem dc_96_124 : decode (ax_code 96) 124 = .ok (.iinc 7 1, 3) := by decide +kernel
theorem dc_96_127 : decode (ax_code 96) 127 = .ok (.goto (-25), 3) := by decide +kernel
theorem dc_96_130 : decode (ax_code 96) 130 = .ok (.iload 7, 2) := by decide +kernel
theorem dc_96_132 : decode (ax_code 96) 132 = .ok (.aload_n 0, 1) := by decide +kernel
theorem dc_96_133 : decode (ax_code 96) 133 = .ok (.getfield 29, 3) := by decide +kernel
theorem dc_96_136 : decode (ax_code 96) 136 = .ok (.if_icmp .ne 30, 3) := by decide +kernel
theorem dc_96_139 : decode (ax_code 96) 139 = .ok (.aload_n 0, 1) := by decide +kernel
theorem dc_96_140 : decode (ax_code 96) 140 = .ok (.getfield 22, 3) := by decide +kernel
theorem dc_96_143 : decode (ax_code 96) 143 = .ok (.iload 7, 2) := by decide +kernel
theorem dc_96_145 : decode (ax_code 96) 145 = .ok (.lload 5, 2) := by decide +kernel
theorem dc_96_147 : decode (ax_code 96) 147 = .ok (.lastore, 1) := by decide +kernel
theorem dc_96_148 : decode (ax_code 96) 148 = .ok (.aload_n 0, 1) := by decide +kernel
theorem dc_96_149 : decode (ax_code 96) 149 = .ok (.getfield 26, 3) := by decide +kernel
theorem dc_96_152 : decode (ax_code 96) 152 = .ok (.iload 7, 2) := by decide +kernel
theorem dc_96_154 : decode (ax_code 96) 154 = .ok (.iconst 0, 1) := by decide +kernel
theorem dc_96_155 : decode (ax_code 96) 155 = .ok (.iastore, 1) := by decide +kernel
theorem dc_96_156 : decode (ax_code 96) 156 = .ok (.aload_n 0, 1) := by decide +kernel
theorem dc_96_157 : decode (ax_code 96) 157 = .ok (.dup, 1) := by decide +kernel
theorem dc_96_158 : decode (ax_code 96) 158 = .ok (.getfield 29, 3) := by decide +kernel
theorem dc_96_161 : decode (ax_code 96) 161 = .ok (.iconst 1, 1) := by decide +kernel
theorem dc_96_162 : decode (ax_code 96) 162 = .ok (.iadd, 1) := by decide +kernel
theorem dc_96_163 : decode (ax_code 96) 163 = .ok (.putfield 29, 3) := by decide +kernel
theorem dc_96_166 : decode (ax_code 96) 166 = .ok (.aload_n 0, 1) := by decide +kernel
theorem dc_96_167 : decode (ax_code 96) 167 = .ok (.getfield 26, 3) := by decide +kernel
theorem dc_96_170 : decode (ax_code 96) 170 = .ok (.iload 7, 2) := by decide +kernel
theorem dc_96_172 : decode (ax_code 96) 172 = .ok (.dup2, 1) := by decide +kernel
theorem dc_96_173 : decode (ax_code 96) 173 = .ok (.iaload, 1) := by decide +kernel
theorem dc_96_174 : decode (ax_code 96) 174 = .ok (.aload_n 1, 1) := by decide +kernel
theorem dc_96_175 : decode (ax_code 96) 175 = .ok (.iload_n 3, 1) := by decide +kernel
theorem dc_96_176 : decode (ax_code 96) 176 = .ok (.invokevirtual 95, 3) := by decide +kernel
theorem dc_96_179 : decode (ax_code 96) 179 = .ok (.iadd, 1) := by decide +kernel
theorem dc_96_180 : decode (ax_code 96) 180 = .ok (.iastore, 1) := by decide +kernel
theorem dc_96_181 : decode (ax_code 96) 181 = .ok (.iinc 4 1, 3) := by decide +kernel
theorem dc_96_184 : decode (ax_code 96) 184 = .ok (.goto (-127), 3) := by decide +kernel
theorem dc_96_187 : decode (ax_code 96) 187 = .ok (.return_, 1) := by decide +kernel
theorem dc_97_0 : decode (ax_code 97) 0 = .ok (.lconst 0, 1) := by decide +kernel
theorem dc_97_1 : decode (ax_code 97) 1 = .ok (.lstore 4, 2) := by decide +kernel
theorem dc_97_3 : decode (ax_code 97) 3 = .ok (.iconst 0, 1) := by decide +kernel
theorem dc_97_4 : decode (ax_code 97) 4 = .ok (.istore 6, 2) := by decide +kernel
theorem dc_97_6 : decode (ax_code 97) 6 = .ok (.iload 6, 2) := by decide +kernel
theorem dc_97_8 : decode (ax_code 97) 8 = .ok (.aload_n 1, 1) := by decide +kernel
theorem dc_97_9 : decode (ax_code 97) 9 = .ok (.getfield 85, 3) := by decide +kernel
theorem dc_97_12 : decode (ax_code 97) 12 = .ok (.if_icmp .ge 59, 3) := by decide +kernel
theorem dc_97_15 : decode (ax_code 97) 15 = .ok (.aload_n 1, 1) := by decide +kernel
theorem dc_97_16 : decode (ax_code 97) 16 = .ok (.iload_n 3, 1) := by decide +kernel
theorem dc_97_17 : decode (ax_code 97) 17 = .ok (.iload 6, 2) := by decide +kernel
theorem dc_97_19 : decode (ax_code 97) 19 = .ok (.invokevirtual 111, 3) := by decide +kernel
theorem dc_97_22 : decode (ax_code 97) 22 = .ok (.ifCond .ne 6, 3) := by decide +kernel
theorem dc_97_25 : decode (ax_code 97) 25 = .ok (.goto 40, 3) := by decide +kernel
theorem dc_97_28 : decode (ax_code 97) 28 = .ok (.aload_n 2, 1) := by decide +kernel
theorem dc_97_29 : decode (ax_code 97) 29 = .ok (.iload 6, 2) := by decide +kernel
theorem dc_97_31 : decode (ax_code 97) 31 = .ok (.aload_n 1, 1) := by decide +kernel
theorem dc_97_32 : decode (ax_code 97) 32 = .ok (.iload_n 3, 1) := by decide +kernel
theorem dc_97_33 : decode (ax_code 97) 33 = .ok (.iload 6, 2) := by decide +kernel
theorem dc_97_35 : decode (ax_code 97) 35 = .ok (.invokevirtual 119, 3) := by decide +kernel
theorem dc_97_38 : decode (ax_code 97) 38 = .ok (.invokevirtual 123, 3) := by decide +kernel
theorem dc_97_41 : decode (ax_code 97) 41 = .ok (.istore 7, 2) := by decide +kernel
theorem dc_97_43 : decode (ax_code 97) 43 = .ok (.lload 4, 2) := by decide +kernel
theorem dc_97_45 : decode (ax_code 97) 45 = .ok (.bipush 6, 2) := by decide +kernel
theorem dc_97_47 : decode (ax_code 97) 47 = .ok (.lshl, 1) := by decide +kernel
theorem dc_97_48 : decode (ax_code 97) 48 = .ok (.iload 7, 2) := by decide +kernel
theorem dc_97_50 : decode (ax_code 97) 50 = .ok (.iconst 2, 1) := by decide +kernel
theorem dc_97_51 : decode (ax_code 97) 51 = .ok (.ishl, 1) := by decide +kernel
theorem dc_97_52 : decode (ax_code 97) 52 = .ok (.i2l, 1) := by decide +kernel
theorem dc_97_53 : decode (ax_code 97) 53 = .ok (.lor, 1) := by decide +kernel
theorem dc_97_54 : decode (ax_code 97) 54 = .ok (.aload_n 1, 1) := by decide +kernel
theorem dc_97_55 : decode (ax_code 97) 55 = .ok (.getfield 82, 3) := by decide +kernel
theorem dc_97_58 : decode (ax_code 97) 58 = .ok (.iload 6, 2) := by decide +kernel
theorem dc_97_60 : decode (ax_code 97) 60 = .ok (.iaload, 1) := by decide +kernel
theorem dc_97_61 : decode (ax_code 97) 61 = .ok (.i2l, 1) := by decide +kernel
theorem dc_97_62 : decode (ax_code 97) 62 = .ok (.lor, 1) := by decide +kernel
theorem dc_97_63 : decode (ax_code 97) 63 = .ok (.lstore 4, 2) := by decide +kernel
theorem dc_97_65 : decode (ax_code 97) 65 = .ok (.iinc 6 1, 3) := by decide +kernel
theorem dc_97_68 : decode (ax_code 97) 68 = .ok (.goto (-62), 3) := by decide +kernel
theorem dc_97_71 : decode (ax_code 97) 71 = .ok (.lload 4, 2) := by decide +kernel
theorem dc_97_73 : decode (ax_code 97) 73 = .ok (.lreturn, 1) := by decide +kernel
theorem dc_98_0 : decode (ax_code 98) 0 = .ok (.iconst 0, 1) := by decide +kernel
theorem dc_98_1 : decode (ax_code 98) 1 = .ok (.istore_n 1, 1) := by decide +kernel
theorem dc_98_2 : decode (ax_code 98) 2 = .ok (.iconst 0, 1) := by decide +kernel
theorem dc_98_3 : decode (ax_code 98) 3 = .ok (.istore_n 2, 1) := by decide +kernel
theorem dc_98_4 : decode (ax_code 98) 4 = .ok (.iload_n 2, 1) := by decide +kernel
theorem dc_98_5 : decode (ax_code 98) 5 = .ok (.aload_n 0, 1) := by decide +kernel
theorem dc_98_6 : decode (ax_code 98) 6 = .ok (.getfield 29, 3) := by decide +kernel
theorem dc_98_9 : decode (ax_code 98) 9 = .ok (.if_icmp .ge 31, 3) := by decide +kernel
theorem dc_98_12 : decode (ax_code 98) 12 = .ok (.aload_n 0, 1) := by decide +kernel
theorem dc_98_13 : decode (ax_code 98) 13 = .ok (.aload_n 0, 1) := by decide +kernel
theorem dc_98_14 : decode (ax_code 98) 14 = .ok (.getfield 22, 3) := by decide +kernel
theorem dc_98_17 : decode (ax_code 98) 17 = .ok (.iload_n 2, 1) := by decide +kernel
theorem dc_98_18 : decode (ax_code 98) 18 = .ok (.laload, 1) := by decide +kernel
theorem dc_98_19 : decode (ax_code 98) 19 = .ok (.invokevirtual 128, 3) := by decide +kernel
theorem dc_98_22 : decode (ax_code 98) 22 = .ok (.ifCond .eq 12, 3) := by decide +kernel
theorem dc_98_25 : decode (ax_code 98) 25 = .ok (.iload_n 1, 1) := by decide +kernel
theorem dc_98_26 : decode (ax_code 98) 26 = .ok (.aload_n 0, 1) := by decide +kernel
theorem dc_98_27 : decode (ax_code 98) 27 = .ok (.getfield 26, 3) := by decide +kernel
theorem dc_98_30 : decode (ax_code 98) 30 = .ok (.iload_n 2, 1) := by decide +kernel
theorem dc_98_31 : decode (ax_code 98) 31 = .ok (.iaload, 1) := by decide +kernel
theorem dc_98_32 : decode (ax_code 98) 32 = .ok (.iadd, 1) := by decide +kernel
theorem dc_98_33 : decode (ax_code 98) 33 = .ok (.istore_n 1, 1) := by decide +kernel
theorem dc_98_34 : decode (ax_code 98) 34 = .ok (.iinc 2 1, 3) := by decide +kernel
theorem dc_98_37 : decode (ax_code 98) 37 = .ok (.goto (-33), 3) := by decide +kernel
theorem dc_98_40 : decode (ax_code 98) 40 = .ok (.iload_n 1, 1) := by decide +kernel
theorem dc_98_41 : decode (ax_code 98) 41 = .ok (.ireturn, 1) := by decide +kernel
theorem dc_99_0 : decode (ax_code 99) 0 = .ok (.lload_n 1, 1) := by decide +kernel
theorem dc_99_1 : decode (ax_code 99) 1 = .ok (.lstore_n 3, 1) := by decide +kernel
theorem dc_99_2 : decode (ax_code 99) 2 = .ok (.iconst 0, 1) := by decide +kernel
theorem dc_99_3 : decode (ax_code 99) 3 = .ok (.istore 5, 2) := by decide +kernel
theorem dc_99_5 : decode (ax_code 99) 5 = .ok (.iload 5, 2) := by decide +kernel
theorem dc_99_7 : decode (ax_code 99) 7 = .ok (.aload_n 0, 1) := by decide +kernel
theorem dc_99_8 : decode (ax_code 99) 8 = .ok (.getfield 32, 3) := by decide +kernel
theorem dc_99_11 : decode (ax_code 99) 11 = .ok (.if_icmp .ge 40, 3) := by decide +kernel
theorem dc_99_14 : decode (ax_code 99) 14 = .ok (.lload_n 3, 1) := by decide +kernel
theorem dc_99_15 : decode (ax_code 99) 15 = .ok (.ldc2_w 132, 3) := by decide +kernel
theorem dc_99_18 : decode (ax_code 99) 18 = .ok (.land, 1) := by decide +kernel
theorem dc_99_19 : decode (ax_code 99) 19 = .ok (.l2i, 1) := by decide +kernel
theorem dc_99_20 : decode (ax_code 99) 20 = .ok (.istore 6, 2) := by decide +kernel
theorem dc_99_22 : decode (ax_code 99) 22 = .ok (.aload_n 0, 1) := by decide +kernel
theorem dc_99_23 : decode (ax_code 99) 23 = .ok (.getfield 35, 3) := by decide +kernel
theorem dc_99_26 : decode (ax_code 99) 26 = .ok (.iload 6, 2) := by decide +kernel
theorem dc_99_28 : decode (ax_code 99) 28 = .ok (.iconst 2, 1) := by decide +kernel
theorem dc_99_29 : decode (ax_code 99) 29 = .ok (.ishr, 1) := by decide +kernel
theorem dc_99_30 : decode (ax_code 99) 30 = .ok (.iaload, 1) := by decide +kernel
theorem dc_99_31 : decode (ax_code 99) 31 = .ok (.iload 6, 2) := by decide +kernel
theorem dc_99_33 : decode (ax_code 99) 33 = .ok (.iconst 3, 1) := by decide +kernel
theorem dc_99_34 : decode (ax_code 99) 34 = .ok (.iand, 1) := by decide +kernel
theorem dc_99_35 : decode (ax_code 99) 35 = .ok (.if_icmp .eq 5, 3) := by decide +kernel
theorem dc_99_38 : decode (ax_code 99) 38 = .ok (.iconst 0, 1) := by decide +kernel
theorem dc_99_39 : decode (ax_code 99) 39 = .ok (.ireturn, 1) := by decide +kernel
theorem dc_99_40 : decode (ax_code 99) 40 = .ok (.lload_n 3, 1) := by decide +kernel
theorem dc_99_41 : decode (ax_code 99) 41 = .ok (.bipush 6, 2) := by decide +kernel
theorem dc_99_43 : decode (ax_code 99) 43 = .ok (.lshr, 1) := by decide +kernel
theorem dc_99_44 : decode (ax_code 99) 44 = .ok (.lstore_n 3, 1) := by decide +kernel
theorem dc_99_45 : decode (ax_code 99) 45 = .ok (.iinc 5 1, 3) := by decide +kernel
theorem dc_99_48 : decode (ax_code 99) 48 = .ok (.goto (-43), 3) := by decide +kernel
theorem dc_99_51 : decode (ax_code 99) 51 = .ok (.iconst 1, 1) := by decide +kernel
theorem dc_99_52 : decode (ax_code 99) 52 = .ok (.ireturn, 1) := by decide +kernel
theorem dc_100_0 : decode (ax_code 100) 0 = .ok (.aload_n 2, 1) := by decide +kernel
theorem dc_100_1 : decode (ax_code 100) 1 = .ok (.getfield 134, 3) := by decide +kernel
theorem dc_100_4 : decode (ax_code 100) 4 = .ok (.bipush 9, 2) := by decide +kernel
theorem dc_100_6 : decode (ax_code 100) 6 = .ok (.invokestatic 135, 3) := by decide +kernel
theorem dc_100_9 : decode (ax_code 100) 9 = .ok (.iconst 1, 1) := by decide +kernel
theorem dc_100_10 : decode (ax_code 100) 10 = .ok (.isub, 1) := by decide +kernel
theorem dc_100_11 : decode (ax_code 100) 11 = .ok (.istore_n 3, 1) := by decide +kernel
theorem dc_100_12 : decode (ax_code 100) 12 = .ok (.iload_n 3, 1) := by decide +kernel
theorem dc_100_13 : decode (ax_code 100) 13 = .ok (.ifCond .lt 48, 3) := by decide +kernel
theorem dc_100_16 : decode (ax_code 100) 16 = .ok (.aload_n 0, 1) := by decide +kernel
theorem dc_100_17 : decode (ax_code 100) 17 = .ok (.getfield 35, 3) := by decide +kernel
theorem dc_100_20 : decode (ax_code 100) 20 = .ok (.iload_n 3, 1) := by decide +kernel
theorem dc_100_21 : decode (ax_code 100) 21 = .ok (.dup2, 1) := by decide +kernel
theorem dc_100_22 : decode (ax_code 100) 22 = .ok (.iaload, 1) := by decide +kernel
theorem dc_100_23 : decode (ax_code 100) 23 = .ok (.iconst 1, 1) := by decide +kernel
theorem dc_100_24 : decode (ax_code 100) 24 = .ok (.iadd, 1) := by decide +kernel
theorem dc_100_25 : decode (ax_code 100) 25 = .ok (.iastore, 1) := by decide +kernel
theorem dc_100_26 : decode (ax_code 100) 26 = .ok (.aload_n 0, 1) := by decide +kernel
theorem dc_100_27 : decode (ax_code 100) 27 = .ok (.getfield 35, 3) := by decide +kernel
theorem dc_100_30 : decode (ax_code 100) 30 = .ok (.iload_n 3, 1) := by decide +kernel
theorem dc_100_31 : decode (ax_code 100) 31 = .ok (.iaload, 1) := by decide +kernel
theorem dc_100_32 : decode (ax_code 100) 32 = .ok (.aload_n 1, 1) := by decide +kernel
theorem dc_100_33 : decode (ax_code 100) 33 = .ok (.getfield 57, 3) := by decide +kernel
theorem dc_100_36 : decode (ax_code 100) 36 = .ok (.aload_n 2, 1) := by decide +kernel
theorem dc_100_37 : decode (ax_code 100) 37 = .ok (.getfield 140, 3) := by decide +kernel
theorem dc_100_40 : decode (ax_code 100) 40 = .ok (.iload_n 3, 1) := by decide +kernel
theorem dc_100_41 : decode (ax_code 100) 41 = .ok (.iaload, 1) := by decide +kernel
theorem dc_100_42 : decode (ax_code 100) 42 = .ok (.iaload, 1) := by decide +kernel
theorem dc_100_43 : decode (ax_code 100) 43 = .ok (.if_icmp .ge 5, 3) := by decide +kernel
theorem dc_100_46 : decode (ax_code 100) 46 = .ok (.iconst 1, 1) := by decide +kernel
theorem dc_100_47 : decode (ax_code 100) 47 = .ok (.ireturn, 1) := by decide +kernel
theorem dc_100_48 : decode (ax_code 100) 48 = .ok (.aload_n 0, 1) := by decide +kernel
theorem dc_100_49 : decode (ax_code 100) 49 = .ok (.getfield 35, 3) := by decide +kernel
theorem dc_100_52 : decode (ax_code 100) 52 = .ok (.iload_n 3, 1) := by decide +kernel
theorem dc_100_53 : decode (ax_code 100) 53 = .ok (.iconst 0, 1) := by decide +kernel
theorem dc_100_54 : decode (ax_code 100) 54 = .ok (.iastore, 1) := by decide +kernel
theorem dc_100_55 : decode (ax_code 100) 55 = .ok (.iinc 3 (-1), 3) := by decide +kernel
theorem dc_100_58 : decode (ax_code 100) 58 = .ok (.goto (-46), 3) := by decide +kernel
theorem dc_100_61 : decode (ax_code 100) 61 = .ok (.iconst 0, 1) := by decide +kernel
theorem dc_100_62 : decode (ax_code 100) 62 = .ok (.ireturn, 1) := by decide +kernel
theorem dc_102_0 : decode (ax_code 102) 0 = .ok (.iload_n 1, 1) := by decide +kernel
theorem dc_102_1 : decode (ax_code 102) 1 = .ok (.invokestatic 173, 3) := by decide +kernel
theorem dc_102_4 : decode (ax_code 102) 4 = .ok (.ifCond .ne 6, 3) := by decide +kernel
theorem dc_102_7 : decode (ax_code 102) 7 = .ok (.bipush (-2), 2) := by decide +kernel
theorem dc_102_9 : decode (ax_code 102) 9 = .ok (.ireturn, 1) := by decide +kernel
theorem dc_102_10 : decode (ax_code 102) 10 = .ok (.aload_n 0, 1) := by decide +kernel
theorem dc_102_11 : decode (ax_code 102) 11 = .ok (.iload_n 1, 1) := by decide +kernel
theorem dc_102_12 : decode (ax_code 102) 12 = .ok (.invokevirtual 307, 3) := by decide +kernel
theorem dc_102_15 : decode (ax_code 102) 15 = .ok (.ifCond .eq 6, 3) := by decide +kernel
theorem dc_102_18 : decode (ax_code 102) 18 = .ok (.bipush (-5), 2) := by decide +kernel
theorem dc_102_20 : decode (ax_code 102) 20 = .ok (.ireturn, 1) := by decide +kernel
theorem dc_102_21 : decode (ax_code 102) 21 = .ok (.aload_n 0, 1) := by decide +kernel
theorem dc_102_22 : decode (ax_code 102) 22 = .ok (.getfield 10, 3) := by decide +kernel
theorem dc_102_25 : decode (ax_code 102) 25 = .ok (.getfield 234, 3) := by decide +kernel
theorem dc_102_28 : decode (ax_code 102) 28 = .ok (.getfield 250, 3) := by decide +kernel
theorem dc_102_31 : decode (ax_code 102) 31 = .ok (.aload_n 0, 1) := by decide +kernel
theorem dc_102_32 : decode (ax_code 102) 32 = .ok (.iload_n 1, 1) := by decide +kernel
theorem dc_102_33 : decode (ax_code 102) 33 = .ok (.invokevirtual 314, 3) := by decide +kernel
theorem dc_102_36 : decode (ax_code 102) 36 = .ok (.iadd, 1) := by decide +kernel
theorem dc_102_37 : decode (ax_code 102) 37 = .ok (.bipush 40, 2) := by decide +kernel
theorem dc_102_39 : decode (ax_code 102) 39 = .ok (.if_icmp .le 6, 3) := by decide +kernel
theorem dc_102_42 : decode (ax_code 102) 42 = .ok (.bipush (-4), 2) := by decide +kernel
theorem dc_102_44 : decode (ax_code 102) 44 = .ok (.ireturn, 1) := by decide +kernel
theorem dc_102_45 : decode (ax_code 102) 45 = .ok (.aload_n 0, 1) := by decide +kernel
theorem dc_102_46 : decode (ax_code 102) 46 = .ok (.getfield 33, 3) := by decide +kernel
theorem dc_102_49 : decode (ax_code 102) 49 = .ok (.aload_n 0, 1) := by decide +kernel
theorem dc_102_50 : decode (ax_code 102) 50 = .ok (.getfield 10, 3) := by decide +kernel
theorem dc_102_53 : decode (ax_code 102) 53 = .ok (.aload_n 0, 1) := by decide +kernel
theorem dc_102_54 : decode (ax_code 102) 54 = .ok (.getfield 26, 3) := by decide +kernel
theorem dc_102_57 : decode (ax_code 102) 57 = .ok (.iload_n 1, 1) := by decide +kernel
theorem dc_102_58 : decode (ax_code 102) 58 = .ok (.invokevirtual 310, 3) := by decide +kernel
theorem dc_102_61 : decode (ax_code 102) 61 = .ok (.pop, 1) := by decide +kernel
theorem dc_102_62 : decode (ax_code 102) 62 = .ok (.iconst 0, 1) := by decide +kernel
theorem dc_102_63 : decode (ax_code 102) 63 = .ok (.istore_n 2, 1) := by decide +kernel
theorem dc_102_64 : decode (ax_code 102) 64 = .ok (.iconst 0, 1) := by decide +kernel
theorem dc_102_65 : decode (ax_code 102) 65 = .ok (.istore_n 3, 1) := by decide +kernel
theorem dc_102_66 : decode (ax_code 102) 66 = .ok (.iload_n 3, 1) := by decide +kernel
theorem dc_102_67 : decode (ax_code 102) 67 = .ok (.aload_n 0, 1) := by decide +kernel
theorem dc_102_68 : decode (ax_code 102) 68 = .ok (.getfield 26, 3) := by decide +kernel
theorem dc_102_71 : decode (ax_code 102) 71 = .ok (.getfield 209, 3) := by decide +kernel
theorem dc_102_74 : decode (ax_code 102) 74 = .ok (.if_icmp .ge 85, 3) := by decide +kernel
theorem dc_102_77 : decode (ax_code 102) 77 = .ok (.aload_n 0, 1) := by decide +kernel
theorem dc_102_78 : decode (ax_code 102) 78 = .ok (.getfield 33, 3) := by decide +kernel
theorem dc_102_81 : decode (ax_code 102) 81 = .ok (.iload_n 3, 1) := by decide +kernel
theorem dc_102_82 : decode (ax_code 102) 82 = .ok (.invokevirtual 317, 3) := by decide +kernel
theorem dc_102_85 : decode (ax_code 102) 85 = .ok (.istore 4, 2) := by decide +kernel
theorem dc_102_87 : decode (ax_code 102) 87 = .ok (.aload_n 0, 1) := by decide +kernel
theorem dc_102_88 : decode (ax_code 102) 88 = .ok (.getfield 10, 3) := by decide +kernel
theorem dc_102_91 : decode (ax_code 102) 91 = .ok (.iload_n 1, 1) := by decide +kernel
theorem dc_102_92 : decode (ax_code 102) 92 = .ok (.aload_n 0, 1) := by decide +kernel
theorem dc_102_93 : decode (ax_code 102) 93 = .ok (.getfield 26, 3) := by decide +kernel
theorem dc_102_96 : decode (ax_code 102) 96 = .ok (.getfield 212, 3) := by decide +kernel
theorem dc_102_99 : decode (ax_code 102) 99 = .ok (.iload_n 3, 1) := by decide +kernel
theorem dc_102_100 : decode (ax_code 102) 100 = .ok (.iaload, 1) := by decide +kernel
theorem dc_102_101 : decode (ax_code 102) 101 = .ok (.aload_n 0, 1) := by decide +kernel
theorem dc_102_102 : decode (ax_code 102) 102 = .ok (.getfield 26, 3) := by decide +kernel
theorem dc_102_105 : decode (ax_code 102) 105 = .ok (.getfield 215, 3) := by decide +kernel
theorem dc_102_108 : decode (ax_code 102) 108 = .ok (.iload_n 3, 1) := by decide +kernel
theorem dc_102_109 : decode (ax_code 102) 109 = .ok (.iaload, 1) := by decide +kernel
theorem dc_102_110 : decode (ax_code 102) 110 = .ok (.invokevirtual 221, 3) := by decide +kernel
theorem dc_102_113 : decode (ax_code 102) 113 = .ok (.iload 4, 2) := by decide +kernel
theorem dc_102_115 : decode (ax_code 102) 115 = .ok (.if_icmp .eq 6, 3) := by decide +kernel
theorem dc_102_118 : decode (ax_code 102) 118 = .ok (.iinc 2 1, 3) := by decide +kernel
theorem dc_102_121 : decode (ax_code 102) 121 = .ok (.aload_n 0, 1) := by decide +kernel
theorem dc_102_122 : decode (ax_code 102) 122 = .ok (.getfield 10, 3) := by decide +kernel
theorem dc_102_125 : decode (ax_code 102) 125 = .ok (.getfield 234, 3) := by decide +kernel
theorem dc_102_128 : decode (ax_code 102) 128 = .ok (.iload_n 1, 1) := by decide +kernel
theorem dc_102_129 : decode (ax_code 102) 129 = .ok (.aload_n 0, 1) := by decide +kernel
theorem dc_102_130 : decode (ax_code 102) 130 = .ok (.getfield 26, 3) := by decide +kernel
theorem dc_102_133 : decode (ax_code 102) 133 = .ok (.getfield 212, 3) := by decide +kernel
theorem dc_102_136 : decode (ax_code 102) 136 = .ok (.iload_n 3, 1) := by decide +kernel
theorem dc_102_137 : decode (ax_code 102) 137 = .ok (.iaload, 1) := by decide +kernel
theorem dc_102_138 : decode (ax_code 102) 138 = .ok (.aload_n 0, 1) := by decide +kernel
theorem dc_102_139 : decode (ax_code 102) 139 = .ok (.getfield 26, 3) := by decide +kernel
theorem dc_102_142 : decode (ax_code 102) 142 = .ok (.getfield 215, 3) := by decide +kernel
theorem dc_102_145 : decode (ax_code 102) 145 = .ok (.iload_n 3, 1) := by decide +kernel
theorem dc_102_146 : decode (ax_code 102) 146 = .ok (.iaload, 1) := by decide +kernel
theorem dc_102_147 : decode (ax_code 102) 147 = .ok (.iload 4, 2) := by decide +kernel
theorem dc_102_149 : decode (ax_code 102) 149 = .ok (.invokevirtual 238, 3) := by decide +kernel
theorem dc_102_152 : decode (ax_code 102) 152 = .ok (.pop, 1) := by decide +kernel
theorem dc_102_153 : decode (ax_code 102) 153 = .ok (.iinc 3 1, 3) := by decide +kernel
theorem dc_102_156 : decode (ax_code 102) 156 = .ok (.goto (-90), 3) := by decide +kernel
theorem dc_102_159 : decode (ax_code 102) 159 = .ok (.iload_n 2, 1) := by decide +kernel
theorem dc_102_160 : decode (ax_code 102) 160 = .ok (.ireturn, 1) := by decide +kernel
theorem dc_103_0 : decode (ax_code 103) 0 = .ok (.iconst 0, 1) := by decide +kernel
theorem dc_103_1 : decode (ax_code 103) 1 = .ok (.istore_n 2, 1) := by decide +kernel
theorem dc_103_2 : decode (ax_code 103) 2 = .ok (.iconst 0, 1) := by decide +kernel
theorem dc_103_3 : decode (ax_code 103) 3 = .ok (.istore_n 3, 1) := by decide +kernel
theorem dc_103_4 : decode (ax_code 103) 4 = .ok (.iload_n 3, 1) := by decide +kernel
theorem dc_103_5 : decode (ax_code 103) 5 = .ok (.aload_n 0, 1) := by decide +kernel
theorem dc_103_6 : decode (ax_code 103) 6 = .ok (.getfield 26, 3) := by decide +kernel
theorem dc_103_9 : decode (ax_code 103) 9 = .ok (.getfield 209, 3) := by decide +kernel
theorem dc_103_12 : decode (ax_code 103) 12 = .ok (.if_icmp .ge 44, 3) := by decide +kernel
theorem dc_103_15 : decode (ax_code 103) 15 = .ok (.aload_n 0, 1) := by decide +kernel
theorem dc_103_16 : decode (ax_code 103) 16 = .ok (.getfield 10, 3) := by decide +kernel
theorem dc_103_19 : decode (ax_code 103) 19 = .ok (.getfield 234, 3) := by decide +kernel
theorem dc_103_22 : decode (ax_code 103) 22 = .ok (.iload_n 1, 1) := by decide +kernel
theorem dc_103_23 : decode (ax_code 103) 23 = .ok (.aload_n 0, 1) := by decide +kernel
theorem dc_103_24 : decode (ax_code 103) 24 = .ok (.getfield 26, 3) := by decide +kernel
theorem dc_103_27 : decode (ax_code 103) 27 = .ok (.getfield 212, 3) := by decide +kernel
theorem dc_103_30 : decode (ax_code 103) 30 = .ok (.iload_n 3, 1) := by decide +kernel
theorem dc_103_31 : decode (ax_code 103) 31 = .ok (.iaload, 1) := by decide +kernel
theorem dc_103_32 : decode (ax_code 103) 32 = .ok (.aload_n 0, 1) := by decide +kernel
theorem dc_103_33 : decode (ax_code 103) 33 = .ok (.getfield 26, 3) := by decide +kernel
theorem dc_103_36 : decode (ax_code 103) 36 = .ok (.getfield 215, 3) := by decide +kernel
theorem dc_103_39 : decode (ax_code 103) 39 = .ok (.iload_n 3, 1) := by decide +kernel
theorem dc_103_40 : decode (ax_code 103) 40 = .ok (.iaload, 1) := by decide +kernel
theorem dc_103_41 : decode (ax_code 103) 41 = .ok (.invokevirtual 378, 3) := by decide +kernel
theorem dc_103_44 : decode (ax_code 103) 44 = .ok (.ifCond .ge 6, 3) := by decide +kernel
theorem dc_103_47 : decode (ax_code 103) 47 = .ok (.iinc 2 1, 3) := by decide +kernel
theorem dc_103_50 : decode (ax_code 103) 50 = .ok (.iinc 3 1, 3) := by decide +kernel
theorem dc_103_53 : decode (ax_code 103) 53 = .ok (.goto (-49), 3) := by decide +kernel
theorem dc_103_56 : decode (ax_code 103) 56 = .ok (.iload_n 2, 1) := by decide +kernel
theorem dc_103_57 : decode (ax_code 103) 57 = .ok (.ireturn, 1) := by decide +kernel
theorem dc_104_0 : decode (ax_code 104) 0 = .ok (.iload_n 1, 1) := by decide +kernel
theorem dc_104_1 : decode (ax_code 104) 1 = .ok (.ifCond .lt 18, 3) := by decide +kernel
theorem dc_104_4 : decode (ax_code 104) 4 = .ok (.iload_n 1, 1) := by decide +kernel
theorem dc_104_5 : decode (ax_code 104) 5 = .ok (.bipush 9, 2) := by decide +kernel
theorem dc_104_7 : decode (ax_code 104) 7 = .ok (.if_icmp .ge 12, 3) := by decide +kernel
theorem dc_104_10 : decode (ax_code 104) 10 = .ok (.aload_n 0, 1) := by decide +kernel
theorem dc_104_11 : decode (ax_code 104) 11 = .ok (.getfield 38, 3) := by decide +kernel
theorem dc_104_14 : decode (ax_code 104) 14 = .ok (.iload_n 1, 1) := by decide +kernel
theorem dc_104_15 : decode (ax_code 104) 15 = .ok (.iaload, 1) := by decide +kernel
theorem dc_104_16 : decode (ax_code 104) 16 = .ok (.goto 4, 3) := by decide +kernel
theorem dc_104_19 : decode (ax_code 104) 19 = .ok (.iconst 0, 1) := by decide +kernel
theorem dc_104_20 : decode (ax_code 104) 20 = .ok (.ireturn, 1) := by decide +kernel
theorem dc_105_0 : decode (ax_code 105) 0 = .ok (.iconst 0, 1) := by decide +kernel
theorem dc_105_1 : decode (ax_code 105) 1 = .ok (.istore_n 1, 1) := by decide +kernel
theorem dc_105_2 : decode (ax_code 105) 2 = .ok (.iload_n 1, 1) := by decide +kernel
theorem dc_105_3 : decode (ax_code 105) 3 = .ok (.iconst 3, 1) := by decide +kernel
theorem dc_105_4 : decode (ax_code 105) 4 = .ok (.if_icmp .ge 20, 3) := by decide +kernel
theorem dc_105_7 : decode (ax_code 105) 7 = .ok (.aload_n 0, 1) := by decide +kernel
theorem dc_105_8 : decode (ax_code 105) 8 = .ok (.iload_n 1, 1) := by decide +kernel
theorem dc_105_9 : decode (ax_code 105) 9 = .ok (.invokevirtual 307, 3) := by decide +kernel
theorem dc_105_12 : decode (ax_code 105) 12 = .ok (.ifCond .eq 6, 3) := by decide +kernel
theorem dc_105_15 : decode (ax_code 105) 15 = .ok (.bipush (-5), 2) := by decide +kernel
theorem dc_105_17 : decode (ax_code 105) 17 = .ok (.ireturn, 1) := by decide +kernel
theorem dc_105_18 : decode (ax_code 105) 18 = .ok (.iinc 1 1, 3) := by decide +kernel
theorem dc_105_21 : decode (ax_code 105) 21 = .ok (.goto (-19), 3) := by decide +kernel
theorem dc_105_24 : decode (ax_code 105) 24 = .ok (.iconst 0, 1) := by decide +kernel
theorem dc_105_25 : decode (ax_code 105) 25 = .ok (.istore_n 1, 1) := by decide +kernel
theorem dc_105_26 : decode (ax_code 105) 26 = .ok (.iload_n 1, 1) := by decide +kernel
theorem dc_105_27 : decode (ax_code 105) 27 = .ok (.iconst 3, 1) := by decide +kernel
theorem dc_105_28 : decode (ax_code 105) 28 = .ok (.if_icmp .ge 57, 3) := by decide +kernel
theorem dc_105_31 : decode (ax_code 105) 31 = .ok (.aload_n 0, 1) := by decide +kernel
theorem dc_105_32 : decode (ax_code 105) 32 = .ok (.getfield 26, 3) := by decide +kernel
theorem dc_105_35 : decode (ax_code 105) 35 = .ok (.aload_n 0, 1) := by decide +kernel
theorem dc_105_36 : decode (ax_code 105) 36 = .ok (.getfield 10, 3) := by decide +kernel
theorem dc_105_39 : decode (ax_code 105) 39 = .ok (.getfield 77, 3) := by decide +kernel
theorem dc_105_42 : decode (ax_code 105) 42 = .ok (.iload_n 1, 1) := by decide +kernel
theorem dc_105_43 : decode (ax_code 105) 43 = .ok (.invokevirtual 205, 3) := by decide +kernel
theorem dc_105_46 : decode (ax_code 105) 46 = .ok (.aload_n 0, 1) := by decide +kernel
theorem dc_105_47 : decode (ax_code 105) 47 = .ok (.getfield 33, 3) := by decide +kernel
theorem dc_105_50 : decode (ax_code 105) 50 = .ok (.aload_n 0, 1) := by decide +kernel
theorem dc_105_51 : decode (ax_code 105) 51 = .ok (.getfield 10, 3) := by decide +kernel
theorem dc_105_54 : decode (ax_code 105) 54 = .ok (.aload_n 0, 1) := by decide +kernel
theorem dc_105_55 : decode (ax_code 105) 55 = .ok (.getfield 26, 3) := by decide +kernel
theorem dc_105_58 : decode (ax_code 105) 58 = .ok (.iload_n 1, 1) := by decide +kernel
theorem dc_105_59 : decode (ax_code 105) 59 = .ok (.invokevirtual 310, 3) := by decide +kernel
theorem dc_105_62 : decode (ax_code 105) 62 = .ok (.aload_n 0, 1) := by decide +kernel
theorem dc_105_63 : decode (ax_code 105) 63 = .ok (.getfield 33, 3) := by decide +kernel
theorem dc_105_66 : decode (ax_code 105) 66 = .ok (.aload_n 0, 1) := by decide +kernel
theorem dc_105_67 : decode (ax_code 105) 67 = .ok (.getfield 10, 3) := by decide +kernel
theorem dc_105_70 : decode (ax_code 105) 70 = .ok (.iload_n 1, 1) := by decide +kernel
theorem dc_105_71 : decode (ax_code 105) 71 = .ok (.invokevirtual 299, 3) := by decide +kernel
theorem dc_105_74 : decode (ax_code 105) 74 = .ok (.if_icmp .eq 5, 3) := by decide +kernel
theorem dc_105_77 : decode (ax_code 105) 77 = .ok (.iconst 0, 1) := by decide +kernel
theorem dc_105_78 : decode (ax_code 105) 78 = .ok (.ireturn, 1) := by decide +kernel
theorem dc_105_79 : decode (ax_code 105) 79 = .ok (.iinc 1 1, 3) := by decide +kernel
theorem dc_105_82 : decode (ax_code 105) 82 = .ok (.goto (-56), 3) := by decide +kernel
theorem dc_105_85 : decode (ax_code 105) 85 = .ok (.iconst 1, 1) := by decide +kernel
theorem dc_105_86 : decode (ax_code 105) 86 = .ok (.ireturn, 1) := by decide +kernel
theorem dc_106_0 : decode (ax_code 106) 0 = .ok (.lload_n 1, 1) := by decide +kernel
theorem dc_106_1 : decode (ax_code 106) 1 = .ok (.lconst 1, 1) := by decide +kernel
theorem dc_106_2 : decode (ax_code 106) 2 = .ok (.lcmp, 1) := by decide +kernel
theorem dc_106_3 : decode (ax_code 106) 3 = .ok (.ifCond .lt 11, 3) := by decide +kernel
theorem dc_106_6 : decode (ax_code 106) 6 = .ok (.lload_n 1, 1) := by decide +kernel
theorem dc_106_7 : decode (ax_code 106) 7 = .ok (.ldc2_w 320, 3) := by decide +kernel
theorem dc_106_10 : decode (ax_code 106) 10 = .ok (.lcmp, 1) := by decide +kernel
theorem dc_106_11 : decode (ax_code 106) 11 = .ok (.ifCond .le 6, 3) := by decide +kernel
theorem dc_106_14 : decode (ax_code 106) 14 = .ok (.bipush (-2), 2) := by decide +kernel
theorem dc_106_16 : decode (ax_code 106) 16 = .ok (.ireturn, 1) := by decide +kernel
theorem dc_106_17 : decode (ax_code 106) 17 = .ok (.aload_n 0, 1) := by decide +kernel
theorem dc_106_18 : decode (ax_code 106) 18 = .ok (.getfield 10, 3) := by decide +kernel
theorem dc_106_21 : decode (ax_code 106) 21 = .ok (.getfield 289, 3) := by decide +kernel
theorem dc_106_24 : decode (ax_code 106) 24 = .ok (.lload_n 1, 1) := by decide +kernel
theorem dc_106_25 : decode (ax_code 106) 25 = .ok (.invokestatic 293, 3) := by decide +kernel
theorem dc_106_28 : decode (ax_code 106) 28 = .ok (.ifCond .ne 6, 3) := by decide +kernel
theorem dc_106_31 : decode (ax_code 106) 31 = .ok (.bipush (-5), 2) := by decide +kernel
theorem dc_106_33 : decode (ax_code 106) 33 = .ok (.ireturn, 1) := by decide +kernel
theorem dc_106_34 : decode (ax_code 106) 34 = .ok (.aload_n 0, 1) := by decide +kernel
theorem dc_106_35 : decode (ax_code 106) 35 = .ok (.getfield 10, 3) := by decide +kernel
theorem dc_106_38 : decode (ax_code 106) 38 = .ok (.dup, 1) := by decide +kernel
theorem dc_106_39 : decode (ax_code 106) 39 = .ok (.getfield 289, 3) := by decide +kernel
theorem dc_106_42 : decode (ax_code 106) 42 = .ok (.lload_n 1, 1) := by decide +kernel
theorem dc_106_43 : decode (ax_code 106) 43 = .ok (.lmul, 1) := by decide +kernel
theorem dc_106_44 : decode (ax_code 106) 44 = .ok (.putfield 289, 3) := by decide +kernel
theorem dc_106_47 : decode (ax_code 106) 47 = .ok (.iconst 1, 1) := by decide +kernel
theorem dc_106_48 : decode (ax_code 106) 48 = .ok (.ireturn, 1) := by decide +kernel
theorem dc_107_0 : decode (ax_code 107) 0 = .ok (.iload_n 1, 1) := by decide +kernel
theorem dc_107_1 : decode (ax_code 107) 1 = .ok (.iconst 1, 1) := by decide +kernel
theorem dc_107_2 : decode (ax_code 107) 2 = .ok (.if_icmp .lt 8, 3) := by decide +kernel
theorem dc_107_5 : decode (ax_code 107) 5 = .ok (.iload_n 1, 1) := by decide +kernel
theorem dc_107_6 : decode (ax_code 107) 6 = .ok (.iconst 4, 1) := by decide +kernel
theorem dc_107_7 : decode (ax_code 107) 7 = .ok (.if_icmp .le 6, 3) := by decide +kernel
theorem dc_107_10 : decode (ax_code 107) 10 = .ok (.bipush (-2), 2) := by decide +kernel
theorem dc_107_12 : decode (ax_code 107) 12 = .ok (.ireturn, 1) := by decide +kernel
theorem dc_107_13 : decode (ax_code 107) 13 = .ok (.aload_n 0, 1) := by decide +kernel
theorem dc_107_14 : decode (ax_code 107) 14 = .ok (.getfield 40, 3) := by decide +kernel
theorem dc_107_17 : decode (ax_code 107) 17 = .ok (.getfield 322, 3) := by decide +kernel
theorem dc_107_20 : decode (ax_code 107) 20 = .ok (.iload_n 1, 1) := by decide +kernel
theorem dc_107_21 : decode (ax_code 107) 21 = .ok (.iadd, 1) := by decide +kernel
theorem dc_107_22 : decode (ax_code 107) 22 = .ok (.bipush 120, 2) := by decide +kernel
theorem dc_107_24 : decode (ax_code 107) 24 = .ok (.if_icmp .le 6, 3) := by decide +kernel
theorem dc_107_27 : decode (ax_code 107) 27 = .ok (.bipush (-4), 2) := by decide +kernel
theorem dc_107_29 : decode (ax_code 107) 29 = .ok (.ireturn, 1) := by decide +kernel
theorem dc_107_30 : decode (ax_code 107) 30 = .ok (.aload_n 0, 1) := by decide +kernel
theorem dc_107_31 : decode (ax_code 107) 31 = .ok (.getfield 40, 3) := by decide +kernel
theorem dc_107_34 : decode (ax_code 107) 34 = .ok (.iload_n 1, 1) := by decide +kernel
theorem dc_107_35 : decode (ax_code 107) 35 = .ok (.iload_n 2, 1) := by decide +kernel
theorem dc_107_36 : decode (ax_code 107) 36 = .ok (.invokevirtual 323, 3) := by decide +kernel
theorem dc_107_39 : decode (ax_code 107) 39 = .ok (.aload_n 0, 1) := by decide +kernel
theorem dc_107_40 : decode (ax_code 107) 40 = .ok (.getfield 40, 3) := by decide +kernel
theorem dc_107_43 : decode (ax_code 107) 43 = .ok (.getfield 322, 3) := by decide +kernel
theorem dc_107_46 : decode (ax_code 107) 46 = .ok (.ireturn, 1) := by decide +kernel
theorem dc_108_0 : decode (ax_code 108) 0 = .ok (.iconst 0, 1) := by decide +kernel
theorem dc_108_1 : decode (ax_code 108) 1 = .ok (.istore_n 3, 1) := by decide +kernel
theorem dc_108_2 : decode (ax_code 108) 2 = .ok (.iload_n 3, 1) := by decide +kernel
theorem dc_108_3 : decode (ax_code 108) 3 = .ok (.iload_n 1, 1) := by decide +kernel
theorem dc_108_4 : decode (ax_code 108) 4 = .ok (.if_icmp .ge 50, 3) := by decide +kernel
theorem dc_108_7 : decode (ax_code 108) 7 = .ok (.aload_n 0, 1) := by decide +kernel
theorem dc_108_8 : decode (ax_code 108) 8 = .ok (.getfield 15, 3) := by decide +kernel
theorem dc_108_11 : decode (ax_code 108) 11 = .ok (.bipush 120, 2) := by decide +kernel
theorem dc_108_13 : decode (ax_code 108) 13 = .ok (.if_icmp .ge 41, 3) := by decide +kernel
theorem dc_108_16 : decode (ax_code 108) 16 = .ok (.aload_n 0, 1) := by decide +kernel
theorem dc_108_17 : decode (ax_code 108) 17 = .ok (.getfield 9, 3) := by decide +kernel
theorem dc_108_20 : decode (ax_code 108) 20 = .ok (.aload_n 0, 1) := by decide +kernel
theorem dc_108_21 : decode (ax_code 108) 21 = .ok (.getfield 15, 3) := by decide +kernel
theorem dc_108_24 : decode (ax_code 108) 24 = .ok (.iload_n 2, 1) := by decide +kernel
theorem dc_108_25 : decode (ax_code 108) 25 = .ok (.bipush 24, 2) := by decide +kernel
theorem dc_108_27 : decode (ax_code 108) 27 = .ok (.bipush 8, 2) := by decide +kernel
theorem dc_108_29 : decode (ax_code 108) 29 = .ok (.iload_n 3, 1) := by decide +kernel
theorem dc_108_30 : decode (ax_code 108) 30 = .ok (.imul, 1) := by decide +kernel
theorem dc_108_31 : decode (ax_code 108) 31 = .ok (.isub, 1) := by decide +kernel
theorem dc_108_32 : decode (ax_code 108) 32 = .ok (.iushr, 1) := by decide +kernel
theorem dc_108_33 : decode (ax_code 108) 33 = .ok (.sipush 255, 3) := by decide +kernel
theorem dc_108_36 : decode (ax_code 108) 36 = .ok (.iand, 1) := by decide +kernel
theorem dc_108_37 : decode (ax_code 108) 37 = .ok (.iastore, 1) := by decide +kernel
theorem dc_108_38 : decode (ax_code 108) 38 = .ok (.aload_n 0, 1) := by decide +kernel
theorem dc_108_39 : decode (ax_code 108) 39 = .ok (.dup, 1) := by decide +kernel
theorem dc_108_40 : decode (ax_code 108) 40 = .ok (.getfield 15, 3) := by decide +kernel
theorem dc_108_43 : decode (ax_code 108) 43 = .ok (.iconst 1, 1) := by decide +kernel
theorem dc_108_44 : decode (ax_code 108) 44 = .ok (.iadd, 1) := by decide +kernel
theorem dc_108_45 : decode (ax_code 108) 45 = .ok (.putfield 15, 3) := by decide +kernel
theorem dc_108_48 : decode (ax_code 108) 48 = .ok (.iinc 3 1, 3) := by decide +kernel
theorem dc_108_51 : decode (ax_code 108) 51 = .ok (.goto (-49), 3) := by decide +kernel
theorem dc_108_54 : decode (ax_code 108) 54 = .ok (.return_, 1) := by decide +kernel
theorem dc_109_0 : decode (ax_code 109) 0 = .ok (.aload_n 0, 1) := by decide +kernel
theorem dc_109_1 : decode (ax_code 109) 1 = .ok (.getfield 10, 3) := by decide +kernel
theorem dc_109_4 : decode (ax_code 109) 4 = .ok (.getfield 77, 3) := by decide +kernel
theorem dc_109_7 : decode (ax_code 109) 7 = .ok (.getfield 117, 3) := by decide +kernel
theorem dc_109_10 : decode (ax_code 109) 10 = .ok (.istore_n 1, 1) := by decide +kernel
theorem dc_109_11 : decode (ax_code 109) 11 = .ok (.aload_n 0, 1) := by decide +kernel
theorem dc_109_12 : decode (ax_code 109) 12 = .ok (.getfield 40, 3) := by decide +kernel
theorem dc_109_15 : decode (ax_code 109) 15 = .ok (.aload_n 0, 1) := by decide +kernel
theorem dc_109_16 : decode (ax_code 109) 16 = .ok (.getfield 10, 3) := by decide +kernel
theorem dc_109_19 : decode (ax_code 109) 19 = .ok (.getfield 77, 3) := by decide +kernel
theorem dc_109_22 : decode (ax_code 109) 22 = .ok (.invokevirtual 326, 3) := by decide +kernel
theorem dc_109_25 : decode (ax_code 109) 25 = .ok (.istore_n 2, 1) := by decide +kernel
theorem dc_109_26 : decode (ax_code 109) 26 = .ok (.iload_n 2, 1) := by decide +kernel
theorem dc_109_27 : decode (ax_code 109) 27 = .ok (.iconst (-1), 1) := by decide +kernel
theorem dc_109_28 : decode (ax_code 109) 28 = .ok (.if_icmp .ne 16, 3) := by decide +kernel
theorem dc_109_31 : decode (ax_code 109) 31 = .ok (.aload_n 0, 1) := by decide +kernel
theorem dc_109_32 : decode (ax_code 109) 32 = .ok (.getfield 10, 3) := by decide +kernel
theorem dc_109_35 : decode (ax_code 109) 35 = .ok (.getfield 77, 3) := by decide +kernel
theorem dc_109_38 : decode (ax_code 109) 38 = .ok (.getfield 117, 3) := by decide +kernel
theorem dc_109_41 : decode (ax_code 109) 41 = .ok (.iload_n 1, 1) := by decide +kernel
theorem dc_109_42 : decode (ax_code 109) 42 = .ok (.isub, 1) := by decide +kernel
theorem dc_109_43 : decode (ax_code 109) 43 = .ok (.ireturn, 1) := by decide +kernel
theorem dc_109_44 : decode (ax_code 109) 44 = .ok (.aload_n 0, 1) := by decide +kernel
theorem dc_109_45 : decode (ax_code 109) 45 = .ok (.getfield 10, 3) := by decide +kernel
theorem dc_109_48 : decode (ax_code 109) 48 = .ok (.getfield 77, 3) := by decide +kernel
theorem dc_109_51 : decode (ax_code 109) 51 = .ok (.iload_n 1, 1) := by decide +kernel
theorem dc_109_52 : decode (ax_code 109) 52 = .ok (.putfield 117, 3) := by decide +kernel
theorem dc_109_55 : decode (ax_code 109) 55 = .ok (.bipush (-100), 2) := by decide +kernel
theorem dc_109_57 : decode (ax_code 109) 57 = .ok (.iload_n 2, 1) := by decide +kernel
theorem dc_109_58 : decode (ax_code 109) 58 = .ok (.isub, 1) := by decide +kernel
theorem dc_109_59 : decode (ax_code 109) 59 = .ok (.ireturn, 1) := by decide +kernel
theorem dc_110_0 : decode (ax_code 110) 0 = .ok (.aload_n 0, 1) := by decide +kernel
theorem dc_110_1 : decode (ax_code 110) 1 = .ok (.iconst 0, 1) := by decide +kernel
theorem dc_110_2 : decode (ax_code 110) 2 = .ok (.putfield 25, 3) := by decide +kernel
theorem dc_110_5 : decode (ax_code 110) 5 = .ok (.iconst 1, 1) := by decide +kernel
theorem dc_110_6 : decode (ax_code 110) 6 = .ok (.istore_n 2, 1) := by decide +kernel
theorem dc_110_7 : decode (ax_code 110) 7 = .ok (.iconst 0, 1) := by decide +kernel
theorem dc_110_8 : decode (ax_code 110) 8 = .ok (.istore_n 3, 1) := by decide +kernel
theorem dc_110_9 : decode (ax_code 110) 9 = .ok (.iload_n 3, 1) := by decide +kernel
theorem dc_110_10 : decode (ax_code 110) 10 = .ok (.bipush 120, 2) := by decide +kernel
theorem dc_110_12 : decode (ax_code 110) 12 = .ok (.if_icmp .gt 34, 3) := by decide +kernel
theorem dc_110_15 : decode (ax_code 110) 15 = .ok (.iload_n 2, 1) := by decide +kernel
theorem dc_110_16 : decode (ax_code 110) 16 = .ok (.ifCond .eq 30, 3) := by decide +kernel
theorem dc_110_19 : decode (ax_code 110) 19 = .ok (.aload_n 0, 1) := by decide +kernel
theorem dc_110_20 : decode (ax_code 110) 20 = .ok (.invokevirtual 31, 3) := by decide +kernel
theorem dc_110_23 : decode (ax_code 110) 23 = .ok (.aload_n 0, 1) := by decide +kernel
theorem dc_110_24 : decode (ax_code 110) 24 = .ok (.aload_n 1, 1) := by decide +kernel
theorem dc_110_25 : decode (ax_code 110) 25 = .ok (.invokevirtual 34, 3) := by decide +kernel
theorem dc_110_28 : decode (ax_code 110) 28 = .ok (.istore_n 2, 1) := by decide +kernel
theorem dc_110_29 : decode (ax_code 110) 29 = .ok (.aload_n 0, 1) := by decide +kernel
theorem dc_110_30 : decode (ax_code 110) 30 = .ok (.getfield 19, 3) := by decide +kernel
theorem dc_110_33 : decode (ax_code 110) 33 = .ok (.iconst 3, 1) := by decide +kernel
theorem dc_110_34 : decode (ax_code 110) 34 = .ok (.if_icmp .eq 6, 3) := by decide +kernel
theorem dc_110_37 : decode (ax_code 110) 37 = .ok (.goto 9, 3) := by decide +kernel
theorem dc_110_40 : decode (ax_code 110) 40 = .ok (.iinc 3 1, 3) := by decide +kernel
theorem dc_110_43 : decode (ax_code 110) 43 = .ok (.goto (-34), 3) := by decide +kernel
theorem dc_110_46 : decode (ax_code 110) 46 = .ok (.iload_n 2, 1) := by decide +kernel
theorem dc_110_47 : decode (ax_code 110) 47 = .ok (.ifCond .eq 14, 3) := by decide +kernel
theorem dc_110_50 : decode (ax_code 110) 50 = .ok (.aload_n 0, 1) := by decide +kernel
theorem dc_110_51 : decode (ax_code 110) 51 = .ok (.getfield 19, 3) := by decide +kernel
theorem dc_110_54 : decode (ax_code 110) 54 = .ok (.ifCond .ne 7, 3) := by decide +kernel
theorem dc_110_57 : decode (ax_code 110) 57 = .ok (.iconst (-1), 1) := by decide +kernel
theorem dc_110_58 : decode (ax_code 110) 58 = .ok (.goto 7, 3) := by decide +kernel
theorem dc_110_61 : decode (ax_code 110) 61 = .ok (.aload_n 0, 1) := by decide +kernel
theorem dc_110_62 : decode (ax_code 110) 62 = .ok (.getfield 22, 3) := by decide +kernel
theorem dc_110_65 : decode (ax_code 110) 65 = .ok (.istore_n 3, 1) := by decide +kernel
theorem dc_110_66 : decode (ax_code 110) 66 = .ok (.aload_n 0, 1) := by decide +kernel
theorem dc_110_67 : decode (ax_code 110) 67 = .ok (.iconst 0, 1) := by decide +kernel
theorem dc_110_68 : decode (ax_code 110) 68 = .ok (.putfield 15, 3) := by decide +kernel
theorem dc_110_71 : decode (ax_code 110) 71 = .ok (.iload_n 3, 1) := by decide +kernel
theorem dc_110_72 : decode (ax_code 110) 72 = .ok (.ireturn, 1) := by decide +kernel
theorem dc_111_0 : decode (ax_code 111) 0 = .ok (.aload_n 0, 1) := by decide +kernel
theorem dc_111_1 : decode (ax_code 111) 1 = .ok (.aload_n 0, 1) := by decide +kernel
theorem dc_111_2 : decode (ax_code 111) 2 = .ok (.getfield 25, 3) := by decide +kernel
theorem dc_111_5 : decode (ax_code 111) 5 = .ok (.putfield 22, 3) := by decide +kernel
theorem dc_111_8 : decode (ax_code 111) 8 = .ok (.aload_n 0, 1) := by decide +kernel
theorem dc_111_9 : decode (ax_code 111) 9 = .ok (.getfield 22, 3) := by decide +kernel
theorem dc_111_12 : decode (ax_code 111) 12 = .ok (.aload_n 0, 1) := by decide +kernel
theorem dc_111_13 : decode (ax_code 111) 13 = .ok (.getfield 15, 3) := by decide +kernel
theorem dc_111_16 : decode (ax_code 111) 16 = .ok (.if_icmp .ge 30, 3) := by decide +kernel
theorem dc_111_19 : decode (ax_code 111) 19 = .ok (.aload_n 0, 1) := by decide +kernel
theorem dc_111_20 : decode (ax_code 111) 20 = .ok (.getfield 9, 3) := by decide +kernel
theorem dc_111_23 : decode (ax_code 111) 23 = .ok (.aload_n 0, 1) := by decide +kernel
theorem dc_111_24 : decode (ax_code 111) 24 = .ok (.getfield 22, 3) := by decide +kernel
theorem dc_111_27 : decode (ax_code 111) 27 = .ok (.iaload, 1) := by decide +kernel
theorem dc_111_28 : decode (ax_code 111) 28 = .ok (.bipush 32, 2) := by decide +kernel
theorem dc_111_30 : decode (ax_code 111) 30 = .ok (.if_icmp .ne 16, 3) := by decide +kernel
theorem dc_111_33 : decode (ax_code 111) 33 = .ok (.aload_n 0, 1) := by decide +kernel
theorem dc_111_34 : decode (ax_code 111) 34 = .ok (.dup, 1) := by decide +kernel
theorem dc_111_35 : decode (ax_code 111) 35 = .ok (.getfield 22, 3) := by decide +kernel
theorem dc_111_38 : decode (ax_code 111) 38 = .ok (.iconst 1, 1) := by decide +kernel
theorem dc_111_39 : decode (ax_code 111) 39 = .ok (.iadd, 1) := by decide +kernel
theorem dc_111_40 : decode (ax_code 111) 40 = .ok (.putfield 22, 3) := by decide +kernel
theorem dc_111_43 : decode (ax_code 111) 43 = .ok (.goto (-35), 3) := by decide +kernel
theorem dc_111_46 : decode (ax_code 111) 46 = .ok (.aload_n 0, 1) := by decide +kernel
theorem dc_111_47 : decode (ax_code 111) 47 = .ok (.aload_n 0, 1) := by decide +kernel
theorem dc_111_48 : decode (ax_code 111) 48 = .ok (.getfield 22, 3) := by decide +kernel
theorem dc_111_51 : decode (ax_code 111) 51 = .ok (.putfield 25, 3) := by decide +kernel
theorem dc_111_54 : decode (ax_code 111) 54 = .ok (.aload_n 0, 1) := by decide +kernel
theorem dc_111_55 : decode (ax_code 111) 55 = .ok (.iconst 0, 1) := by decide +kernel
theorem dc_111_56 : decode (ax_code 111) 56 = .ok (.putfield 28, 3) := by decide +kernel
theorem dc_111_59 : decode (ax_code 111) 59 = .ok (.aload_n 0, 1) := by decide +kernel
theorem dc_111_60 : decode (ax_code 111) 60 = .ok (.aload_n 0, 1) := by decide +kernel
theorem dc_111_61 : decode (ax_code 111) 61 = .ok (.aload_n 0, 1) := by decide +kernel
theorem dc_111_62 : decode (ax_code 111) 62 = .ok (.getfield 22, 3) := by decide +kernel
theorem dc_111_65 : decode (ax_code 111) 65 = .ok (.invokevirtual 96, 3) := by decide +kernel
theorem dc_111_68 : decode (ax_code 111) 68 = .ok (.putfield 19, 3) := by decide +kernel
theorem dc_111_71 : decode (ax_code 111) 71 = .ok (.aload_n 0, 1) := by decide +kernel
theorem dc_111_72 : decode (ax_code 111) 72 = .ok (.getfield 25, 3) := by decide +kernel
theorem dc_111_75 : decode (ax_code 111) 75 = .ok (.aload_n 0, 1) := by decide +kernel
theorem dc_111_76 : decode (ax_code 111) 76 = .ok (.getfield 15, 3) := by decide +kernel
theorem dc_111_79 : decode (ax_code 111) 79 = .ok (.if_icmp .ge 80, 3) := by decide +kernel
theorem dc_111_82 : decode (ax_code 111) 82 = .ok (.aload_n 0, 1) := by decide +kernel
theorem dc_111_83 : decode (ax_code 111) 83 = .ok (.aload_n 0, 1) := by decide +kernel
theorem dc_111_84 : decode (ax_code 111) 84 = .ok (.getfield 25, 3) := by decide +kernel
theorem dc_111_87 : decode (ax_code 111) 87 = .ok (.invokevirtual 96, 3) := by decide +kernel
theorem dc_111_90 : decode (ax_code 111) 90 = .ok (.aload_n 0, 1) := by decide +kernel
theorem dc_111_91 : decode (ax_code 111) 91 = .ok (.getfield 19, 3) := by decide +kernel
theorem dc_111_94 : decode (ax_code 111) 94 = .ok (.if_icmp .ne 65, 3) := by decide +kernel
theorem dc_111_97 : decode (ax_code 111) 97 = .ok (.aload_n 0, 1) := by decide +kernel
theorem dc_111_98 : decode (ax_code 111) 98 = .ok (.getfield 28, 3) := by decide +kernel
theorem dc_111_101 : decode (ax_code 111) 101 = .ok (.bipush 9, 2) := by decide +kernel
theorem dc_111_103 : decode (ax_code 111) 103 = .ok (.if_icmp .gt 27, 3) := by decide +kernel
theorem dc_111_106 : decode (ax_code 111) 106 = .ok (.aload_n 0, 1) := by decide +kernel
theorem dc_111_107 : decode (ax_code 111) 107 = .ok (.bipush 10, 2) := by decide +kernel
theorem dc_111_109 : decode (ax_code 111) 109 = .ok (.aload_n 0, 1) := by decide +kernel
theorem dc_111_110 : decode (ax_code 111) 110 = .ok (.getfield 28, 3) := by decide +kernel
theorem dc_111_113 : decode (ax_code 111) 113 = .ok (.imul, 1) := by decide +kernel
theorem dc_111_114 : decode (ax_code 111) 114 = .ok (.aload_n 0, 1) := by decide +kernel
theorem dc_111_115 : decode (ax_code 111) 115 = .ok (.getfield 9, 3) := by decide +kernel
theorem dc_111_118 : decode (ax_code 111) 118 = .ok (.aload_n 0, 1) := by decide +kernel
theorem dc_111_119 : decode (ax_code 111) 119 = .ok (.getfield 25, 3) := by decide +kernel
theorem dc_111_122 : decode (ax_code 111) 122 = .ok (.iaload, 1) := by decide +kernel
theorem dc_111_123 : decode (ax_code 111) 123 = .ok (.iadd, 1) := by decide +kernel
theorem dc_111_124 : decode (ax_code 111) 124 = .ok (.bipush 48, 2) := by decide +kernel
theorem dc_111_126 : decode (ax_code 111) 126 = .ok (.isub, 1) := by decide +kernel
theorem dc_111_127 : decode (ax_code 111) 127 = .ok (.putfield 28, 3) := by decide +kernel
theorem dc_111_130 : decode (ax_code 111) 130 = .ok (.aload_n 0, 1) := by decide +kernel
theorem dc_111_131 : decode (ax_code 111) 131 = .ok (.dup, 1) := by decide +kernel
theorem dc_111_132 : decode (ax_code 111) 132 = .ok (.getfield 25, 3) := by decide +kernel
theorem dc_111_135 : decode (ax_code 111) 135 = .ok (.iconst 1, 1) := by decide +kernel
theorem dc_111_136 : decode (ax_code 111) 136 = .ok (.iadd, 1) := by decide +kernel
theorem dc_111_137 : decode (ax_code 111) 137 = .ok (.putfield 25, 3) := by decide +kernel
theorem dc_111_140 : decode (ax_code 111) 140 = .ok (.aload_n 0, 1) := by decide +kernel
theorem dc_111_141 : decode (ax_code 111) 141 = .ok (.getfield 19, 3) := by decide +kernel
theorem dc_111_144 : decode (ax_code 111) 144 = .ok (.iconst 3, 1) := by decide +kernel
theorem dc_111_145 : decode (ax_code 111) 145 = .ok (.if_icmp .eq 14, 3) := by decide +kernel
theorem dc_111_148 : decode (ax_code 111) 148 = .ok (.aload_n 0, 1) := by decide +kernel
theorem dc_111_149 : decode (ax_code 111) 149 = .ok (.getfield 19, 3) := by decide +kernel
theorem dc_111_152 : decode (ax_code 111) 152 = .ok (.iconst 4, 1) := by decide +kernel
theorem dc_111_153 : decode (ax_code 111) 153 = .ok (.if_icmp .ne (-82), 3) := by decide +kernel
theorem dc_111_156 : decode (ax_code 111) 156 = .ok (.goto 3, 3) := by decide +kernel
theorem dc_111_159 : decode (ax_code 111) 159 = .ok (.return_, 1) := by decide +kernel
theorem dc_112_0 : decode (ax_code 112) 0 = .ok (.iload_n 1, 1) := by decide +kernel
theorem dc_112_1 : decode (ax_code 112) 1 = .ok (.ifCond .lt 11, 3) := by decide +kernel
theorem dc_112_4 : decode (ax_code 112) 4 = .ok (.iload_n 1, 1) := by decide +kernel
theorem dc_112_5 : decode (ax_code 112) 5 = .ok (.aload_n 0, 1) := by decide +kernel
theorem dc_112_6 : decode (ax_code 112) 6 = .ok (.getfield 15, 3) := by decide +kernel
theorem dc_112_9 : decode (ax_code 112) 9 = .ok (.if_icmp .lt 5, 3) := by decide +kernel
theorem dc_112_12 : decode (ax_code 112) 12 = .ok (.iconst 0, 1) := by decide +kernel
theorem dc_112_13 : decode (ax_code 112) 13 = .ok (.ireturn, 1) := by decide +kernel
theorem dc_112_14 : decode (ax_code 112) 14 = .ok (.aload_n 0, 1) := by decide +kernel
theorem dc_112_15 : decode (ax_code 112) 15 = .ok (.getfield 9, 3) := by decide +kernel
theorem dc_112_18 : decode (ax_code 112) 18 = .ok (.iload_n 1, 1) := by decide +kernel
theorem dc_112_19 : decode (ax_code 112) 19 = .ok (.iaload, 1) := by decide +kernel
theorem dc_112_20 : decode (ax_code 112) 20 = .ok (.bipush 97, 2) := by decide +kernel
theorem dc_112_22 : decode (ax_code 112) 22 = .ok (.if_icmp .lt 16, 3) := by decide +kernel
theorem dc_112_25 : decode (ax_code 112) 25 = .ok (.aload_n 0, 1) := by decide +kernel
theorem dc_112_26 : decode (ax_code 112) 26 = .ok (.getfield 9, 3) := by decide +kernel
theorem dc_112_29 : decode (ax_code 112) 29 = .ok (.iload_n 1, 1) := by decide +kernel
theorem dc_112_30 : decode (ax_code 112) 30 = .ok (.iaload, 1) := by decide +kernel
theorem dc_112_31 : decode (ax_code 112) 31 = .ok (.bipush 122, 2) := by decide +kernel
theorem dc_112_33 : decode (ax_code 112) 33 = .ok (.if_icmp .gt 5, 3) := by decide +kernel
theorem dc_112_36 : decode (ax_code 112) 36 = .ok (.iconst 1, 1) := by decide +kernel
theorem dc_112_37 : decode (ax_code 112) 37 = .ok (.ireturn, 1) := by decide +kernel
theorem dc_112_38 : decode (ax_code 112) 38 = .ok (.aload_n 0, 1) := by decide +kernel
theorem dc_112_39 : decode (ax_code 112) 39 = .ok (.getfield 9, 3) := by decide +kernel
theorem dc_112_42 : decode (ax_code 112) 42 = .ok (.iload_n 1, 1) := by decide +kernel
theorem dc_112_43 : decode (ax_code 112) 43 = .ok (.iaload, 1) := by decide +kernel
theorem dc_112_44 : decode (ax_code 112) 44 = .ok (.bipush 48, 2) := by decide +kernel
theorem dc_112_46 : decode (ax_code 112) 46 = .ok (.if_icmp .lt 16, 3) := by decide +kernel
theorem dc_112_49 : decode (ax_code 112) 49 = .ok (.aload_n 0, 1) := by decide +kernel
theorem dc_112_50 : decode (ax_code 112) 50 = .ok (.getfield 9, 3) := by decide +kernel
theorem dc_112_53 : decode (ax_code 112) 53 = .ok (.iload_n 1, 1) := by decide +kernel
theorem dc_112_54 : decode (ax_code 112) 54 = .ok (.iaload, 1) := by decide +kernel
theorem dc_112_55 : decode (ax_code 112) 55 = .ok (.bipush 57, 2) := by decide +kernel
theorem dc_112_57 : decode (ax_code 112) 57 = .ok (.if_icmp .gt 5, 3) := by decide +kernel
theorem dc_112_60 : decode (ax_code 112) 60 = .ok (.iconst 2, 1) := by decide +kernel
theorem dc_112_61 : decode (ax_code 112) 61 = .ok (.ireturn, 1) := by decide +kernel
theorem dc_112_62 : decode (ax_code 112) 62 = .ok (.aload_n 0, 1) := by decide +kernel
theorem dc_112_63 : decode (ax_code 112) 63 = .ok (.getfield 9, 3) := by decide +kernel
theorem dc_112_66 : decode (ax_code 112) 66 = .ok (.iload_n 1, 1) := by decide +kernel
theorem dc_112_67 : decode (ax_code 112) 67 = .ok (.iaload, 1) := by decide +kernel
theorem dc_112_68 : decode (ax_code 112) 68 = .ok (.bipush 59, 2) := by decide +kernel
theorem dc_112_70 : decode (ax_code 112) 70 = .ok (.if_icmp .ne 7, 3) := by decide +kernel
theorem dc_112_73 : decode (ax_code 112) 73 = .ok (.iconst 3, 1) := by decide +kernel
theorem dc_112_74 : decode (ax_code 112) 74 = .ok (.goto 4, 3) := by decide +kernel
theorem dc_112_77 : decode (ax_code 112) 77 = .ok (.iconst 4, 1) := by decide +kernel
theorem dc_112_78 : decode (ax_code 112) 78 = .ok (.ireturn, 1) := by decide +kernel
theorem dc_113_0 : decode (ax_code 113) 0 = .ok (.aload_n 0, 1) := by decide +kernel
theorem dc_113_1 : decode (ax_code 113) 1 = .ok (.invokevirtual 38, 3) := by decide +kernel
theorem dc_113_4 : decode (ax_code 113) 4 = .ok (.astore_n 2, 1) := by decide +kernel
theorem dc_113_5 : decode (ax_code 113) 5 = .ok (.aload_n 2, 1) := by decide +kernel
theorem dc_113_6 : decode (ax_code 113) 6 = .ok (.ifnull 18, 3) := by decide +kernel
theorem dc_113_9 : decode (ax_code 113) 9 = .ok (.aload_n 1, 1) := by decide +kernel
theorem dc_113_10 : decode (ax_code 113) 10 = .ok (.invokevirtual 42, 3) := by decide +kernel
theorem dc_113_13 : decode (ax_code 113) 13 = .ok (.ifCond .eq 11, 3) := by decide +kernel
theorem dc_113_16 : decode (ax_code 113) 16 = .ok (.aload_n 1, 1) := by decide +kernel
theorem dc_113_17 : decode (ax_code 113) 17 = .ok (.aload_n 2, 1) := by decide +kernel
theorem dc_113_18 : decode (ax_code 113) 18 = .ok (.invokevirtual 48, 3) := by decide +kernel
theorem dc_113_21 : decode (ax_code 113) 21 = .ok (.ifCond .ne 5, 3) := by decide +kernel
theorem dc_113_24 : decode (ax_code 113) 24 = .ok (.iconst 0, 1) := by decide +kernel
theorem dc_113_25 : decode (ax_code 113) 25 = .ok (.ireturn, 1) := by decide +kernel
theorem dc_113_26 : decode (ax_code 113) 26 = .ok (.aload_n 0, 1) := by decide +kernel
theorem dc_113_27 : decode (ax_code 113) 27 = .ok (.invokevirtual 31, 3) := by decide +kernel
theorem dc_113_30 : decode (ax_code 113) 30 = .ok (.iconst 0, 1) := by decide +kernel
theorem dc_113_31 : decode (ax_code 113) 31 = .ok (.istore_n 3, 1) := by decide +kernel
theorem dc_113_32 : decode (ax_code 113) 32 = .ok (.iconst 0, 1) := by decide +kernel
theorem dc_113_33 : decode (ax_code 113) 33 = .ok (.istore 4, 2) := by decide +kernel
theorem dc_113_35 : decode (ax_code 113) 35 = .ok (.aload_n 2, 1) := by decide +kernel
theorem dc_113_36 : decode (ax_code 113) 36 = .ok (.getfield 52, 3) := by decide +kernel
theorem dc_113_39 : decode (ax_code 113) 39 = .ok (.ifCond .eq 23, 3) := by decide +kernel
theorem dc_113_42 : decode (ax_code 113) 42 = .ok (.aload_n 0, 1) := by decide +kernel
theorem dc_113_43 : decode (ax_code 113) 43 = .ok (.iconst 0, 1) := by decide +kernel
theorem dc_113_44 : decode (ax_code 113) 44 = .ok (.iconst 2, 1) := by decide +kernel
theorem dc_113_45 : decode (ax_code 113) 45 = .ok (.invokevirtual 58, 3) := by decide +kernel
theorem dc_113_48 : decode (ax_code 113) 48 = .ok (.ifCond .ne 5, 3) := by decide +kernel
theorem dc_113_51 : decode (ax_code 113) 51 = .ok (.iconst 0, 1) := by decide +kernel
theorem dc_113_52 : decode (ax_code 113) 52 = .ok (.ireturn, 1) := by decide +kernel
theorem dc_113_53 : decode (ax_code 113) 53 = .ok (.aload_n 0, 1) := by decide +kernel
theorem dc_113_54 : decode (ax_code 113) 54 = .ok (.getfield 28, 3) := by decide +kernel
theorem dc_113_57 : decode (ax_code 113) 57 = .ok (.istore_n 3, 1) := by decide +kernel
theorem dc_113_58 : decode (ax_code 113) 58 = .ok (.aload_n 0, 1) := by decide +kernel
theorem dc_113_59 : decode (ax_code 113) 59 = .ok (.invokevirtual 31, 3) := by decide +kernel
theorem dc_113_62 : decode (ax_code 113) 62 = .ok (.aload_n 2, 1) := by decide +kernel
theorem dc_113_63 : decode (ax_code 113) 63 = .ok (.getfield 62, 3) := by decide +kernel
theorem dc_113_66 : decode (ax_code 113) 66 = .ok (.ifCond .eq 24, 3) := by decide +kernel
theorem dc_113_69 : decode (ax_code 113) 69 = .ok (.aload_n 0, 1) := by decide +kernel
theorem dc_113_70 : decode (ax_code 113) 70 = .ok (.iconst 2, 1) := by decide +kernel
theorem dc_113_71 : decode (ax_code 113) 71 = .ok (.iconst 3, 1) := by decide +kernel
theorem dc_113_72 : decode (ax_code 113) 72 = .ok (.invokevirtual 58, 3) := by decide +kernel
theorem dc_113_75 : decode (ax_code 113) 75 = .ok (.ifCond .ne 5, 3) := by decide +kernel
theorem dc_113_78 : decode (ax_code 113) 78 = .ok (.iconst 0, 1) := by decide +kernel
theorem dc_113_79 : decode (ax_code 113) 79 = .ok (.ireturn, 1) := by decide +kernel
theorem dc_113_80 : decode (ax_code 113) 80 = .ok (.aload_n 0, 1) := by decide +kernel
theorem dc_113_81 : decode (ax_code 113) 81 = .ok (.getfield 28, 3) := by decide +kernel
theorem dc_113_84 : decode (ax_code 113) 84 = .ok (.istore 4, 2) := by decide +kernel
theorem dc_113_86 : decode (ax_code 113) 86 = .ok (.aload_n 0, 1) := by decide +kernel
theorem dc_113_87 : decode (ax_code 113) 87 = .ok (.invokevirtual 31, 3) := by decide +kernel
theorem dc_113_90 : decode (ax_code 113) 90 = .ok (.aload_n 1, 1) := by decide +kernel
theorem dc_113_91 : decode (ax_code 113) 91 = .ok (.new 65, 3) := by decide +kernel
theorem dc_113_94 : decode (ax_code 113) 94 = .ok (.dup, 1) := by decide +kernel
theorem dc_113_95 : decode (ax_code 113) 95 = .ok (.aload_n 2, 1) := by decide +kernel
theorem dc_113_96 : decode (ax_code 113) 96 = .ok (.iload_n 3, 1) := by decide +kernel
theorem dc_113_97 : decode (ax_code 113) 97 = .ok (.iload 4, 2) := by decide +kernel
theorem dc_113_99 : decode (ax_code 113) 99 = .ok (.invokespecial 67, 3) := by decide +kernel
theorem dc_113_102 : decode (ax_code 113) 102 = .ok (.invokevirtual 70, 3) := by decide +kernel
theorem dc_113_105 : decode (ax_code 113) 105 = .ok (.iconst 1, 1) := by decide +kernel
theorem dc_113_106 : decode (ax_code 113) 106 = .ok (.ireturn, 1) := by decide +kernel
theorem dc_114_0 : decode (ax_code 114) 0 = .ok (.aload_n 0, 1) := by decide +kernel
theorem dc_114_1 : decode (ax_code 114) 1 = .ok (.getfield 19, 3) := by decide +kernel
theorem dc_114_4 : decode (ax_code 114) 4 = .ok (.iconst 1, 1) := by decide +kernel
theorem dc_114_5 : decode (ax_code 114) 5 = .ok (.if_icmp .eq 5, 3) := by decide +kernel
theorem dc_114_8 : decode (ax_code 114) 8 = .ok (.aconst_null, 1) := by decide +kernel
theorem dc_114_9 : decode (ax_code 114) 9 = .ok (.areturn, 1) := by decide +kernel
theorem dc_114_10 : decode (ax_code 114) 10 = .ok (.iconst 0, 1) := by decide +kernel
theorem dc_114_11 : decode (ax_code 114) 11 = .ok (.istore_n 1, 1) := by decide +kernel
theorem dc_114_12 : decode (ax_code 114) 12 = .ok (.iload_n 1, 1) := by decide +kernel
theorem dc_114_13 : decode (ax_code 114) 13 = .ok (.getstatic 74, 3) := by decide +kernel
theorem dc_114_16 : decode (ax_code 114) 16 = .ok (.arraylength, 1) := by decide +kernel
theorem dc_114_17 : decode (ax_code 114) 17 = .ok (.if_icmp .ge 30, 3) := by decide +kernel
theorem dc_114_20 : decode (ax_code 114) 20 = .ok (.aload_n 0, 1) := by decide +kernel
theorem dc_114_21 : decode (ax_code 114) 21 = .ok (.getstatic 74, 3) := by decide +kernel
theorem dc_114_24 : decode (ax_code 114) 24 = .ok (.iload_n 1, 1) := by decide +kernel
theorem dc_114_25 : decode (ax_code 114) 25 = .ok (.aaload, 1) := by decide +kernel
theorem dc_114_26 : decode (ax_code 114) 26 = .ok (.getfield 78, 3) := by decide +kernel
theorem dc_114_29 : decode (ax_code 114) 29 = .ok (.invokevirtual 82, 3) := by decide +kernel
theorem dc_114_32 : decode (ax_code 114) 32 = .ok (.ifCond .eq 9, 3) := by decide +kernel
theorem dc_114_35 : decode (ax_code 114) 35 = .ok (.getstatic 74, 3) := by decide +kernel
theorem dc_114_38 : decode (ax_code 114) 38 = .ok (.iload_n 1, 1) := by decide +kernel
theorem dc_114_39 : decode (ax_code 114) 39 = .ok (.aaload, 1) := by decide +kernel
theorem dc_114_40 : decode (ax_code 114) 40 = .ok (.areturn, 1) := by decide +kernel
theorem dc_114_41 : decode (ax_code 114) 41 = .ok (.iinc 1 1, 3) := by decide +kernel
theorem dc_114_44 : decode (ax_code 114) 44 = .ok (.goto (-32), 3) := by decide +kernel
theorem dc_114_47 : decode (ax_code 114) 47 = .ok (.aconst_null, 1) := by decide +kernel
theorem dc_114_48 : decode (ax_code 114) 48 = .ok (.areturn, 1) := by decide +kernel
theorem dc_115_0 : decode (ax_code 115) 0 = .ok (.aload_n 1, 1) := by decide +kernel
theorem dc_115_1 : decode (ax_code 115) 1 = .ok (.invokevirtual 86, 3) := by decide +kernel
theorem dc_115_4 : decode (ax_code 115) 4 = .ok (.aload_n 0, 1) := by decide +kernel
theorem dc_115_5 : decode (ax_code 115) 5 = .ok (.getfield 25, 3) := by decide +kernel
theorem dc_115_8 : decode (ax_code 115) 8 = .ok (.aload_n 0, 1) := by decide +kernel
theorem dc_115_9 : decode (ax_code 115) 9 = .ok (.getfield 22, 3) := by decide +kernel
theorem dc_115_12 : decode (ax_code 115) 12 = .ok (.isub, 1) := by decide +kernel
theorem dc_115_13 : decode (ax_code 115) 13 = .ok (.if_icmp .eq 5, 3) := by decide +kernel
theorem dc_115_16 : decode (ax_code 115) 16 = .ok (.iconst 0, 1) := by decide +kernel
theorem dc_115_17 : decode (ax_code 115) 17 = .ok (.ireturn, 1) := by decide +kernel
theorem dc_115_18 : decode (ax_code 115) 18 = .ok (.iconst 0, 1) := by decide +kernel
theorem dc_115_19 : decode (ax_code 115) 19 = .ok (.istore_n 2, 1) := by decide +kernel
theorem dc_115_20 : decode (ax_code 115) 20 = .ok (.iload_n 2, 1) := by decide +kernel
theorem dc_115_21 : decode (ax_code 115) 21 = .ok (.aload_n 1, 1) := by decide +kernel
theorem dc_115_22 : decode (ax_code 115) 22 = .ok (.invokevirtual 86, 3) := by decide +kernel
theorem dc_115_25 : decode (ax_code 115) 25 = .ok (.if_icmp .ge 30, 3) := by decide +kernel
theorem dc_115_28 : decode (ax_code 115) 28 = .ok (.aload_n 1, 1) := by decide +kernel
theorem dc_115_29 : decode (ax_code 115) 29 = .ok (.iload_n 2, 1) := by decide +kernel
theorem dc_115_30 : decode (ax_code 115) 30 = .ok (.invokevirtual 92, 3) := by decide +kernel
theorem dc_115_33 : decode (ax_code 115) 33 = .ok (.aload_n 0, 1) := by decide +kernel
theorem dc_115_34 : decode (ax_code 115) 34 = .ok (.getfield 9, 3) := by decide +kernel
theorem dc_115_37 : decode (ax_code 115) 37 = .ok (.aload_n 0, 1) := by decide +kernel
theorem dc_115_38 : decode (ax_code 115) 38 = .ok (.getfield 22, 3) := by decide +kernel
theorem dc_115_41 : decode (ax_code 115) 41 = .ok (.iload_n 2, 1) := by decide +kernel
theorem dc_115_42 : decode (ax_code 115) 42 = .ok (.iadd, 1) := by decide +kernel
theorem dc_115_43 : decode (ax_code 115) 43 = .ok (.iaload, 1) := by decide +kernel
theorem dc_115_44 : decode (ax_code 115) 44 = .ok (.if_icmp .eq 5, 3) := by decide +kernel
theorem dc_115_47 : decode (ax_code 115) 47 = .ok (.iconst 0, 1) := by decide +kernel
theorem dc_115_48 : decode (ax_code 115) 48 = .ok (.ireturn, 1) := by decide +kernel
theorem dc_115_49 : decode (ax_code 115) 49 = .ok (.iinc 2 1, 3) := by decide +kernel
theorem dc_115_52 : decode (ax_code 115) 52 = .ok (.goto (-32), 3) := by decide +kernel
theorem dc_115_55 : decode (ax_code 115) 55 = .ok (.iconst 1, 1) := by decide +kernel
theorem dc_115_56 : decode (ax_code 115) 56 = .ok (.ireturn, 1) := by decide +kernel
theorem dc_116_0 : decode (ax_code 116) 0 = .ok (.aload_n 0, 1) := by decide +kernel
theorem dc_116_1 : decode (ax_code 116) 1 = .ok (.getfield 9, 3) := by decide +kernel
theorem dc_116_4 : decode (ax_code 116) 4 = .ok (.arraylength, 1) := by decide +kernel
theorem dc_116_5 : decode (ax_code 116) 5 = .ok (.aload_n 0, 1) := by decide +kernel
theorem dc_116_6 : decode (ax_code 116) 6 = .ok (.invokevirtual 335, 3) := by decide +kernel
theorem dc_116_9 : decode (ax_code 116) 9 = .ok (.ishr, 1) := by decide +kernel
theorem dc_116_10 : decode (ax_code 116) 10 = .ok (.ireturn, 1) := by decide +kernel
theorem dc_117_0 : decode (ax_code 117) 0 = .ok (.getstatic 38, 3) := by decide +kernel
theorem dc_117_3 : decode (ax_code 117) 3 = .ok (.ifCond .eq 10, 3) := by decide +kernel
theorem dc_117_6 : decode (ax_code 117) 6 = .ok (.aload_n 0, 1) := by decide +kernel
theorem dc_117_7 : decode (ax_code 117) 7 = .ok (.getfield 15, 3) := by decide +kernel
theorem dc_117_10 : decode (ax_code 117) 10 = .ok (.goto 4, 3) := by decide +kernel
theorem dc_117_13 : decode (ax_code 117) 13 = .ok (.iconst 1, 1) := by decide +kernel
theorem dc_117_14 : decode (ax_code 117) 14 = .ok (.ireturn, 1) := by decide +kernel
theorem dc_118_0 : decode (ax_code 118) 0 = .ok (.aload_n 0, 1) := by decide +kernel
theorem dc_118_1 : decode (ax_code 118) 1 = .ok (.invokevirtual 492, 3) := by decide +kernel
theorem dc_118_4 : decode (ax_code 118) 4 = .ok (.ifCond .eq 12, 3) := by decide +kernel
theorem dc_118_7 : decode (ax_code 118) 7 = .ok (.aload_n 0, 1) := by decide +kernel
theorem dc_118_8 : decode (ax_code 118) 8 = .ok (.getfield 9, 3) := by decide +kernel
theorem dc_118_11 : decode (ax_code 118) 11 = .ok (.iload_n 1, 1) := by decide +kernel
theorem dc_118_12 : decode (ax_code 118) 12 = .ok (.invokestatic 495, 3) := by decide +kernel
theorem dc_118_15 : decode (ax_code 118) 15 = .ok (.ireturn, 1) := by decide +kernel
theorem dc_118_16 : decode (ax_code 118) 16 = .ok (.aload_n 0, 1) := by decide +kernel
theorem dc_118_17 : decode (ax_code 118) 17 = .ok (.getfield 9, 3) := by decide +kernel
theorem dc_118_20 : decode (ax_code 118) 20 = .ok (.iload_n 1, 1) := by decide +kernel
theorem dc_118_21 : decode (ax_code 118) 21 = .ok (.invokestatic 498, 3) := by decide +kernel
theorem dc_118_24 : decode (ax_code 118) 24 = .ok (.ireturn, 1) := by decide +kernel
theorem dc_119_0 : decode (ax_code 119) 0 = .ok (.getstatic 38, 3) := by decide +kernel
theorem dc_119_3 : decode (ax_code 119) 3 = .ok (.ifCond .eq 14, 3) := by decide +kernel
theorem dc_119_6 : decode (ax_code 119) 6 = .ok (.aload_n 0, 1) := by decide +kernel
theorem dc_119_7 : decode (ax_code 119) 7 = .ok (.getfield 15, 3) := by decide +kernel
theorem dc_119_10 : decode (ax_code 119) 10 = .ok (.ifCond .ne 7, 3) := by decide +kernel
theorem dc_119_13 : decode (ax_code 119) 13 = .ok (.iconst 1, 1) := by decide +kernel
theorem dc_119_14 : decode (ax_code 119) 14 = .ok (.goto 4, 3) := by decide +kernel
theorem dc_119_17 : decode (ax_code 119) 17 = .ok (.iconst 0, 1) := by decide +kernel
theorem dc_119_18 : decode (ax_code 119) 18 = .ok (.ireturn, 1) := by decide +kernel
theorem dc_120_0 : decode (ax_code 120) 0 = .ok (.iload_n 1, 1) := by decide +kernel
theorem dc_120_1 : decode (ax_code 120) 1 = .ok (.aload_n 0, 1) := by decide +kernel
theorem dc_120_2 : decode (ax_code 120) 2 = .ok (.arraylength, 1) := by decide +kernel
theorem dc_120_3 : decode (ax_code 120) 3 = .ok (.invokestatic 9, 3) := by decide +kernel
theorem dc_120_6 : decode (ax_code 120) 6 = .ok (.aload_n 0, 1) := by decide +kernel
theorem dc_120_7 : decode (ax_code 120) 7 = .ok (.iload_n 1, 1) := by decide +kernel
theorem dc_120_8 : decode (ax_code 120) 8 = .ok (.baload, 1) := by decide +kernel
theorem dc_120_9 : decode (ax_code 120) 9 = .ok (.sipush 255, 3) := by decide +kernel
theorem dc_120_12 : decode (ax_code 120) 12 = .ok (.iand, 1) := by decide +kernel
theorem dc_120_13 : decode (ax_code 120) 13 = .ok (.i2c, 1) := by decide +kernel
theorem dc_120_14 : decode (ax_code 120) 14 = .ok (.ireturn, 1) := by decide +kernel
theorem dc_121_0 : decode (ax_code 121) 0 = .ok (.iload_n 0, 1) := by decide +kernel
theorem dc_121_1 : decode (ax_code 121) 1 = .ok (.iload_n 1, 1) := by decide +kernel
theorem dc_121_2 : decode (ax_code 121) 2 = .ok (.getstatic 1053, 3) := by decide +kernel
theorem dc_121_5 : decode (ax_code 121) 5 = .ok (.invokestatic 1059, 3) := by decide +kernel
theorem dc_121_8 : decode (ax_code 121) 8 = .ok (.pop, 1) := by decide +kernel
theorem dc_121_9 : decode (ax_code 121) 9 = .ok (.return_, 1) := by decide +kernel
theorem dc_122_0 : decode (ax_code 122) 0 = .ok (.iload_n 0, 1) := by decide +kernel
theorem dc_122_1 : decode (ax_code 122) 1 = .ok (.ifCond .lt 8, 3) := by decide +kernel
theorem dc_122_4 : decode (ax_code 122) 4 = .ok (.iload_n 0, 1) := by decide +kernel
theorem dc_122_5 : decode (ax_code 122) 5 = .ok (.iload_n 1, 1) := by decide +kernel
theorem dc_122_6 : decode (ax_code 122) 6 = .ok (.if_icmp .lt 10, 3) := by decide +kernel
theorem dc_122_9 : decode (ax_code 122) 9 = .ok (.aload_n 2, 1) := by decide +kernel
theorem dc_122_10 : decode (ax_code 122) 10 = .ok (.iload_n 0, 1) := by decide +kernel
theorem dc_122_11 : decode (ax_code 122) 11 = .ok (.iload_n 1, 1) := by decide +kernel
theorem dc_122_16 : decode (ax_code 122) 16 = .ok (.iload_n 0, 1) := by decide +kernel
theorem dc_122_17 : decode (ax_code 122) 17 = .ok (.ireturn, 1) := by decide +kernel
theorem dc_127_0 : decode (ax_code 127) 0 = .ok (.aload_n 0, 1) := by decide +kernel
theorem dc_127_1 : decode (ax_code 127) 1 = .ok (.getfield 19, 3) := by decide +kernel
theorem dc_127_4 : decode (ax_code 127) 4 = .ok (.iconst 2, 1) := by decide +kernel
theorem dc_127_5 : decode (ax_code 127) 5 = .ok (.if_icmp .ne 23, 3) := by decide +kernel
theorem dc_127_8 : decode (ax_code 127) 8 = .ok (.aload_n 0, 1) := by decide +kernel
theorem dc_127_9 : decode (ax_code 127) 9 = .ok (.getfield 28, 3) := by decide +kernel
theorem dc_127_12 : decode (ax_code 127) 12 = .ok (.iload_n 1, 1) := by decide +kernel
theorem dc_127_13 : decode (ax_code 127) 13 = .ok (.if_icmp .lt 15, 3) := by decide +kernel
theorem dc_127_16 : decode (ax_code 127) 16 = .ok (.aload_n 0, 1) := by decide +kernel
theorem dc_127_17 : decode (ax_code 127) 17 = .ok (.getfield 28, 3) := by decide +kernel
theorem dc_127_20 : decode (ax_code 127) 20 = .ok (.iload_n 2, 1) := by decide +kernel
theorem dc_127_21 : decode (ax_code 127) 21 = .ok (.if_icmp .gt 7, 3) := by decide +kernel
theorem dc_127_24 : decode (ax_code 127) 24 = .ok (.iconst 1, 1) := by decide +kernel
theorem dc_127_25 : decode (ax_code 127) 25 = .ok (.goto 4, 3) := by decide +kernel
theorem dc_127_28 : decode (ax_code 127) 28 = .ok (.iconst 0, 1) := by decide +kernel
theorem dc_127_29 : decode (ax_code 127) 29 = .ok (.ireturn, 1) := by decide +kernel
theorem dc_128_0 : decode (ax_code 128) 0 = .ok (.iload_n 1, 1) := by decide +kernel
theorem dc_128_1 : decode (ax_code 128) 1 = .ok (.invokestatic 330, 3) := by decide +kernel
theorem dc_128_4 : decode (ax_code 128) 4 = .ok (.ifCond .eq 9, 3) := by decide +kernel
theorem dc_128_7 : decode (ax_code 128) 7 = .ok (.iload_n 2, 1) := by decide +kernel
theorem dc_128_8 : decode (ax_code 128) 8 = .ok (.bipush 6, 2) := by decide +kernel
theorem dc_128_10 : decode (ax_code 128) 10 = .ok (.if_icmp .le 6, 3) := by decide +kernel
theorem dc_128_13 : decode (ax_code 128) 13 = .ok (.bipush (-2), 2) := by decide +kernel
theorem dc_128_15 : decode (ax_code 128) 15 = .ok (.ireturn, 1) := by decide +kernel
theorem dc_128_16 : decode (ax_code 128) 16 = .ok (.iload_n 2, 1) := by decide +kernel
theorem dc_128_17 : decode (ax_code 128) 17 = .ok (.ifCond .ge 12, 3) := by decide +kernel
theorem dc_128_20 : decode (ax_code 128) 20 = .ok (.iload_n 2, 1) := by decide +kernel
theorem dc_128_21 : decode (ax_code 128) 21 = .ok (.bipush (-9), 2) := by decide +kernel
theorem dc_128_23 : decode (ax_code 128) 23 = .ok (.if_icmp .eq 6, 3) := by decide +kernel
theorem dc_128_26 : decode (ax_code 128) 26 = .ok (.bipush (-14), 2) := by decide +kernel
theorem dc_128_28 : decode (ax_code 128) 28 = .ok (.ireturn, 1) := by decide +kernel
theorem dc_128_29 : decode (ax_code 128) 29 = .ok (.aload_n 0, 1) := by decide +kernel
theorem dc_128_30 : decode (ax_code 128) 30 = .ok (.getfield 50, 3) := by decide +kernel
theorem dc_128_33 : decode (ax_code 128) 33 = .ok (.iload_n 1, 1) := by decide +kernel
theorem dc_128_34 : decode (ax_code 128) 34 = .ok (.iload_n 2, 1) := by decide +kernel
theorem dc_128_35 : decode (ax_code 128) 35 = .ok (.bipush (-9), 2) := by decide +kernel
theorem dc_128_37 : decode (ax_code 128) 37 = .ok (.if_icmp .ne 7, 3) := by decide +kernel
theorem dc_128_40 : decode (ax_code 128) 40 = .ok (.iconst (-1), 1) := by decide +kernel
theorem dc_128_41 : decode (ax_code 128) 41 = .ok (.goto 4, 3) := by decide +kernel
theorem dc_128_44 : decode (ax_code 128) 44 = .ok (.iload_n 2, 1) := by decide +kernel
theorem dc_128_45 : decode (ax_code 128) 45 = .ok (.iastore, 1) := by decide +kernel
theorem dc_128_46 : decode (ax_code 128) 46 = .ok (.iconst 0, 1) := by decide +kernel
theorem dc_128_47 : decode (ax_code 128) 47 = .ok (.istore_n 3, 1) := by decide +kernel
theorem dc_128_48 : decode (ax_code 128) 48 = .ok (.iload_n 3, 1) := by decide +kernel
theorem dc_128_49 : decode (ax_code 128) 49 = .ok (.bipush 6, 2) := by decide +kernel
theorem dc_128_51 : decode (ax_code 128) 51 = .ok (.if_icmp .ge 21, 3) := by decide +kernel
theorem dc_128_54 : decode (ax_code 128) 54 = .ok (.aload_n 0, 1) := by decide +kernel
theorem dc_128_55 : decode (ax_code 128) 55 = .ok (.getfield 46, 3) := by decide +kernel
theorem dc_128_58 : decode (ax_code 128) 58 = .ok (.iload_n 1, 1) := by decide +kernel
theorem dc_128_59 : decode (ax_code 128) 59 = .ok (.bipush 6, 2) := by decide +kernel
theorem dc_128_61 : decode (ax_code 128) 61 = .ok (.imul, 1) := by decide +kernel
theorem dc_128_62 : decode (ax_code 128) 62 = .ok (.iload_n 3, 1) := by decide +kernel
theorem dc_128_63 : decode (ax_code 128) 63 = .ok (.iadd, 1) := by decide +kernel
theorem dc_128_64 : decode (ax_code 128) 64 = .ok (.aconst_null, 1) := by decide +kernel
theorem dc_128_65 : decode (ax_code 128) 65 = .ok (.aastore, 1) := by decide +kernel
theorem dc_128_66 : decode (ax_code 128) 66 = .ok (.iinc 3 1, 3) := by decide +kernel
theorem dc_128_69 : decode (ax_code 128) 69 = .ok (.goto (-21), 3) := by decide +kernel
theorem dc_128_72 : decode (ax_code 128) 72 = .ok (.iconst 1, 1) := by decide +kernel
theorem dc_128_73 : decode (ax_code 128) 73 = .ok (.ireturn, 1) := by decide +kernel
theorem dc_129_0 : decode (ax_code 129) 0 = .ok (.iload_n 0, 1) := by decide +kernel
theorem dc_129_1 : decode (ax_code 129) 1 = .ok (.ifCond .lt 12, 3) := by decide +kernel
theorem dc_129_4 : decode (ax_code 129) 4 = .ok (.iload_n 0, 1) := by decide +kernel
theorem dc_129_5 : decode (ax_code 129) 5 = .ok (.iconst 2, 1) := by decide +kernel
theorem dc_129_6 : decode (ax_code 129) 6 = .ok (.if_icmp .ge 7, 3) := by decide +kernel
theorem dc_129_9 : decode (ax_code 129) 9 = .ok (.iconst 1, 1) := by decide +kernel
theorem dc_129_10 : decode (ax_code 129) 10 = .ok (.goto 4, 3) := by decide +kernel
theorem dc_129_13 : decode (ax_code 129) 13 = .ok (.iconst 0, 1) := by decide +kernel
theorem dc_129_14 : decode (ax_code 129) 14 = .ok (.ireturn, 1) := by decide +kernel
theorem dc_130_0 : decode (ax_code 130) 0 = .ok (.aload_n 0, 1) := by decide +kernel
theorem dc_130_1 : decode (ax_code 130) 1 = .ok (.getfield 10, 3) := by decide +kernel
theorem dc_130_4 : decode (ax_code 130) 4 = .ok (.getfield 77, 3) := by decide +kernel
theorem dc_130_7 : decode (ax_code 130) 7 = .ok (.iload_n 3, 1) := by decide +kernel
theorem dc_130_8 : decode (ax_code 130) 8 = .ok (.invokevirtual 120, 3) := by decide +kernel
theorem dc_130_11 : decode (ax_code 130) 11 = .ok (.astore 4, 2) := by decide +kernel
theorem dc_130_13 : decode (ax_code 130) 13 = .ok (.iload_n 1, 1) := by decide +kernel
theorem dc_130_14 : decode (ax_code 130) 14 = .ok (.invokestatic 330, 3) := by decide +kernel
theorem dc_130_17 : decode (ax_code 130) 17 = .ok (.ifCond .eq 8, 3) := by decide +kernel
theorem dc_130_20 : decode (ax_code 130) 20 = .ok (.aload 4, 2) := by decide +kernel
theorem dc_130_22 : decode (ax_code 130) 22 = .ok (.ifnonnull 6, 3) := by decide +kernel
theorem dc_130_25 : decode (ax_code 130) 25 = .ok (.bipush (-2), 2) := by decide +kernel
theorem dc_130_27 : decode (ax_code 130) 27 = .ok (.ireturn, 1) := by decide +kernel
theorem dc_130_28 : decode (ax_code 130) 28 = .ok (.aload_n 0, 1) := by decide +kernel
theorem dc_130_29 : decode (ax_code 130) 29 = .ok (.getfield 50, 3) := by decide +kernel
theorem dc_130_32 : decode (ax_code 130) 32 = .ok (.iload_n 1, 1) := by decide +kernel
theorem dc_130_33 : decode (ax_code 130) 33 = .ok (.iaload, 1) := by decide +kernel
theorem dc_130_34 : decode (ax_code 130) 34 = .ok (.iconst (-1), 1) := by decide +kernel
theorem dc_130_35 : decode (ax_code 130) 35 = .ok (.if_icmp .ne 6, 3) := by decide +kernel
theorem dc_130_38 : decode (ax_code 130) 38 = .ok (.bipush (-11), 2) := by decide +kernel
theorem dc_130_40 : decode (ax_code 130) 40 = .ok (.ireturn, 1) := by decide +kernel
theorem dc_130_41 : decode (ax_code 130) 41 = .ok (.iload_n 2, 1) := by decide +kernel
theorem dc_130_42 : decode (ax_code 130) 42 = .ok (.ifCond .lt 13, 3) := by decide +kernel
theorem dc_130_45 : decode (ax_code 130) 45 = .ok (.iload_n 2, 1) := by decide +kernel
theorem dc_130_46 : decode (ax_code 130) 46 = .ok (.aload_n 0, 1) := by decide +kernel
theorem dc_130_47 : decode (ax_code 130) 47 = .ok (.getfield 50, 3) := by decide +kernel
theorem dc_130_50 : decode (ax_code 130) 50 = .ok (.iload_n 1, 1) := by decide +kernel
theorem dc_130_51 : decode (ax_code 130) 51 = .ok (.iaload, 1) := by decide +kernel
theorem dc_130_52 : decode (ax_code 130) 52 = .ok (.if_icmp .lt 6, 3) := by decide +kernel
theorem dc_130_55 : decode (ax_code 130) 55 = .ok (.bipush (-12), 2) := by decide +kernel
theorem dc_130_57 : decode (ax_code 130) 57 = .ok (.ireturn, 1) := by decide +kernel
theorem dc_130_58 : decode (ax_code 130) 58 = .ok (.aload_n 0, 1) := by decide +kernel
theorem dc_130_59 : decode (ax_code 130) 59 = .ok (.getfield 46, 3) := by decide +kernel
theorem dc_130_62 : decode (ax_code 130) 62 = .ok (.iload_n 1, 1) := by decide +kernel
theorem dc_130_63 : decode (ax_code 130) 63 = .ok (.bipush 6, 2) := by decide +kernel
theorem dc_130_65 : decode (ax_code 130) 65 = .ok (.imul, 1) := by decide +kernel
theorem dc_130_66 : decode (ax_code 130) 66 = .ok (.iload_n 2, 1) := by decide +kernel
theorem dc_130_67 : decode (ax_code 130) 67 = .ok (.iadd, 1) := by decide +kernel
theorem dc_130_68 : decode (ax_code 130) 68 = .ok (.aload 4, 2) := by decide +kernel
theorem dc_130_70 : decode (ax_code 130) 70 = .ok (.aastore, 1) := by decide +kernel
theorem dc_130_71 : decode (ax_code 130) 71 = .ok (.iconst 1, 1) := by decide +kernel
theorem dc_130_72 : decode (ax_code 130) 72 = .ok (.ireturn, 1) := by decide +kernel
theorem dc_131_0 : decode (ax_code 131) 0 = .ok (.iload_n 1, 1) := by decide +kernel
theorem dc_131_1 : decode (ax_code 131) 1 = .ok (.invokestatic 330, 3) := by decide +kernel
theorem dc_131_4 : decode (ax_code 131) 4 = .ok (.ifCond .ne 6, 3) := by decide +kernel
theorem dc_131_7 : decode (ax_code 131) 7 = .ok (.bipush (-2), 2) := by decide +kernel
theorem dc_131_9 : decode (ax_code 131) 9 = .ok (.ireturn, 1) := by decide +kernel
theorem dc_131_10 : decode (ax_code 131) 10 = .ok (.aload_n 0, 1) := by decide +kernel
theorem dc_131_11 : decode (ax_code 131) 11 = .ok (.getfield 50, 3) := by decide +kernel
theorem dc_131_14 : decode (ax_code 131) 14 = .ok (.iload_n 1, 1) := by decide +kernel
theorem dc_131_15 : decode (ax_code 131) 15 = .ok (.iaload, 1) := by decide +kernel
theorem dc_131_16 : decode (ax_code 131) 16 = .ok (.iconst (-1), 1) := by decide +kernel
theorem dc_131_17 : decode (ax_code 131) 17 = .ok (.if_icmp .ne 6, 3) := by decide +kernel
theorem dc_131_20 : decode (ax_code 131) 20 = .ok (.bipush (-11), 2) := by decide +kernel
theorem dc_131_22 : decode (ax_code 131) 22 = .ok (.ireturn, 1) := by decide +kernel
theorem dc_131_23 : decode (ax_code 131) 23 = .ok (.aload_n 0, 1) := by decide +kernel
theorem dc_131_24 : decode (ax_code 131) 24 = .ok (.getfield 10, 3) := by decide +kernel
theorem dc_131_27 : decode (ax_code 131) 27 = .ok (.getfield 77, 3) := by decide +kernel
theorem dc_131_30 : decode (ax_code 131) 30 = .ok (.iconst 0, 1) := by decide +kernel
theorem dc_131_31 : decode (ax_code 131) 31 = .ok (.putfield 117, 3) := by decide +kernel
theorem dc_131_34 : decode (ax_code 131) 34 = .ok (.iconst 0, 1) := by decide +kernel
theorem dc_131_35 : decode (ax_code 131) 35 = .ok (.istore_n 2, 1) := by decide +kernel
theorem dc_131_36 : decode (ax_code 131) 36 = .ok (.iload_n 2, 1) := by decide +kernel
theorem dc_131_37 : decode (ax_code 131) 37 = .ok (.aload_n 0, 1) := by decide +kernel
theorem dc_131_38 : decode (ax_code 131) 38 = .ok (.getfield 50, 3) := by decide +kernel
theorem dc_131_41 : decode (ax_code 131) 41 = .ok (.iload_n 1, 1) := by decide +kernel
theorem dc_131_42 : decode (ax_code 131) 42 = .ok (.iaload, 1) := by decide +kernel
theorem dc_131_43 : decode (ax_code 131) 43 = .ok (.if_icmp .ge 56, 3) := by decide +kernel
theorem dc_131_46 : decode (ax_code 131) 46 = .ok (.aload_n 0, 1) := by decide +kernel
theorem dc_131_47 : decode (ax_code 131) 47 = .ok (.getfield 46, 3) := by decide +kernel
theorem dc_131_50 : decode (ax_code 131) 50 = .ok (.iload_n 1, 1) := by decide +kernel
theorem dc_131_51 : decode (ax_code 131) 51 = .ok (.bipush 6, 2) := by decide +kernel
theorem dc_131_53 : decode (ax_code 131) 53 = .ok (.imul, 1) := by decide +kernel
theorem dc_131_54 : decode (ax_code 131) 54 = .ok (.iload_n 2, 1) := by decide +kernel
theorem dc_131_55 : decode (ax_code 131) 55 = .ok (.iadd, 1) := by decide +kernel
theorem dc_131_56 : decode (ax_code 131) 56 = .ok (.aaload, 1) := by decide +kernel
theorem dc_131_57 : decode (ax_code 131) 57 = .ok (.astore_n 3, 1) := by decide +kernel
theorem dc_131_58 : decode (ax_code 131) 58 = .ok (.aload_n 3, 1) := by decide +kernel
theorem dc_131_59 : decode (ax_code 131) 59 = .ok (.ifnull 40, 3) := by decide +kernel
theorem dc_131_62 : decode (ax_code 131) 62 = .ok (.aload_n 0, 1) := by decide +kernel
theorem dc_131_63 : decode (ax_code 131) 63 = .ok (.getfield 10, 3) := by decide +kernel
theorem dc_131_66 : decode (ax_code 131) 66 = .ok (.getfield 77, 3) := by decide +kernel
theorem dc_131_69 : decode (ax_code 131) 69 = .ok (.aload_n 3, 1) := by decide +kernel
theorem dc_131_70 : decode (ax_code 131) 70 = .ok (.getfield 124, 3) := by decide +kernel
theorem dc_131_73 : decode (ax_code 131) 73 = .ok (.invokevirtual 106, 3) := by decide +kernel
theorem dc_131_76 : decode (ax_code 131) 76 = .ok (.ifCond .ne 6, 3) := by decide +kernel
theorem dc_131_79 : decode (ax_code 131) 79 = .ok (.goto 20, 3) := by decide +kernel
theorem dc_131_82 : decode (ax_code 131) 82 = .ok (.aload_n 0, 1) := by decide +kernel
theorem dc_131_83 : decode (ax_code 131) 83 = .ok (.getfield 10, 3) := by decide +kernel
theorem dc_131_86 : decode (ax_code 131) 86 = .ok (.getfield 77, 3) := by decide +kernel
theorem dc_131_89 : decode (ax_code 131) 89 = .ok (.aload_n 3, 1) := by decide +kernel
theorem dc_131_90 : decode (ax_code 131) 90 = .ok (.invokevirtual 113, 3) := by decide +kernel
theorem dc_131_93 : decode (ax_code 131) 93 = .ok (.iinc 2 1, 3) := by decide +kernel
theorem dc_131_96 : decode (ax_code 131) 96 = .ok (.goto (-60), 3) := by decide +kernel
theorem dc_131_99 : decode (ax_code 131) 99 = .ok (.aload_n 0, 1) := by decide +kernel
theorem dc_131_100 : decode (ax_code 131) 100 = .ok (.getfield 10, 3) := by decide +kernel
theorem dc_131_103 : decode (ax_code 131) 103 = .ok (.getfield 77, 3) := by decide +kernel
theorem dc_131_106 : decode (ax_code 131) 106 = .ok (.getfield 117, 3) := by decide +kernel
theorem dc_131_109 : decode (ax_code 131) 109 = .ok (.ireturn, 1) := by decide +kernel
theorem dc_132_0 : decode (ax_code 132) 0 = .ok (.iload_n 1, 1) := by decide +kernel
theorem dc_132_1 : decode (ax_code 132) 1 = .ok (.invokestatic 333, 3) := by decide +kernel
theorem dc_132_4 : decode (ax_code 132) 4 = .ok (.ifCond .eq 20, 3) := by decide +kernel
theorem dc_132_7 : decode (ax_code 132) 7 = .ok (.iload_n 2, 1) := by decide +kernel
theorem dc_132_8 : decode (ax_code 132) 8 = .ok (.invokestatic 173, 3) := by decide +kernel
theorem dc_132_11 : decode (ax_code 132) 11 = .ok (.ifCond .eq 13, 3) := by decide +kernel
theorem dc_132_14 : decode (ax_code 132) 14 = .ok (.aload_n 0, 1) := by decide +kernel
theorem dc_132_15 : decode (ax_code 132) 15 = .ok (.iload 5, 2) := by decide +kernel
theorem dc_132_17 : decode (ax_code 132) 17 = .ok (.iload_n 3, 1) := by decide +kernel
theorem dc_132_18 : decode (ax_code 132) 18 = .ok (.invokevirtual 143, 3) := by decide +kernel
theorem dc_132_21 : decode (ax_code 132) 21 = .ok (.ifCond .ne 6, 3) := by decide +kernel
theorem dc_132_24 : decode (ax_code 132) 24 = .ok (.bipush (-2), 2) := by decide +kernel
theorem dc_132_26 : decode (ax_code 132) 26 = .ok (.ireturn, 1) := by decide +kernel
theorem dc_132_27 : decode (ax_code 132) 27 = .ok (.aload_n 0, 1) := by decide +kernel
theorem dc_132_28 : decode (ax_code 132) 28 = .ok (.getfield 57, 3) := by decide +kernel
theorem dc_132_31 : decode (ax_code 132) 31 = .ok (.iload_n 1, 1) := by decide +kernel
theorem dc_132_32 : decode (ax_code 132) 32 = .ok (.aaload, 1) := by decide +kernel
theorem dc_132_33 : decode (ax_code 132) 33 = .ok (.astore 6, 2) := by decide +kernel
theorem dc_132_35 : decode (ax_code 132) 35 = .ok (.aload 6, 2) := by decide +kernel
theorem dc_132_37 : decode (ax_code 132) 37 = .ok (.iconst 0, 1) := by decide +kernel
theorem dc_132_38 : decode (ax_code 132) 38 = .ok (.iconst 5, 1) := by decide +kernel
theorem dc_132_39 : decode (ax_code 132) 39 = .ok (.invokevirtual 336, 3) := by decide +kernel
theorem dc_132_42 : decode (ax_code 132) 42 = .ok (.iconst 0, 1) := by decide +kernel
theorem dc_132_43 : decode (ax_code 132) 43 = .ok (.istore 7, 2) := by decide +kernel
theorem dc_132_45 : decode (ax_code 132) 45 = .ok (.iload 7, 2) := by decide +kernel
theorem dc_132_47 : decode (ax_code 132) 47 = .ok (.aload_n 0, 1) := by decide +kernel
theorem dc_132_48 : decode (ax_code 132) 48 = .ok (.getfield 10, 3) := by decide +kernel
theorem dc_132_51 : decode (ax_code 132) 51 = .ok (.getfield 77, 3) := by decide +kernel
theorem dc_132_54 : decode (ax_code 132) 54 = .ok (.getfield 151, 3) := by decide +kernel
theorem dc_132_57 : decode (ax_code 132) 57 = .ok (.iload_n 3, 1) := by decide +kernel
theorem dc_132_58 : decode (ax_code 132) 58 = .ok (.iaload, 1) := by decide +kernel
theorem dc_132_59 : decode (ax_code 132) 59 = .ok (.if_icmp .ge 58, 3) := by decide +kernel
theorem dc_132_62 : decode (ax_code 132) 62 = .ok (.aload_n 0, 1) := by decide +kernel
theorem dc_132_63 : decode (ax_code 132) 63 = .ok (.getfield 10, 3) := by decide +kernel
theorem dc_132_66 : decode (ax_code 132) 66 = .ok (.getfield 77, 3) := by decide +kernel
theorem dc_132_69 : decode (ax_code 132) 69 = .ok (.iload 7, 2) := by decide +kernel
theorem dc_132_71 : decode (ax_code 132) 71 = .ok (.iload_n 3, 1) := by decide +kernel
theorem dc_132_72 : decode (ax_code 132) 72 = .ok (.invokevirtual 157, 3) := by decide +kernel
theorem dc_132_75 : decode (ax_code 132) 75 = .ok (.aload_n 0, 1) := by decide +kernel
theorem dc_132_76 : decode (ax_code 132) 76 = .ok (.getfield 10, 3) := by decide +kernel
theorem dc_132_79 : decode (ax_code 132) 79 = .ok (.getfield 77, 3) := by decide +kernel
theorem dc_132_82 : decode (ax_code 132) 82 = .ok (.iload_n 2, 1) := by decide +kernel
theorem dc_132_83 : decode (ax_code 132) 83 = .ok (.iload_n 3, 1) := by decide +kernel
theorem dc_132_84 : decode (ax_code 132) 84 = .ok (.invokevirtual 176, 3) := by decide +kernel
theorem dc_132_87 : decode (ax_code 132) 87 = .ok (.iload 4, 2) := by decide +kernel
theorem dc_132_89 : decode (ax_code 132) 89 = .ok (.if_icmp .ne 22, 3) := by decide +kernel
theorem dc_132_92 : decode (ax_code 132) 92 = .ok (.aload 6, 2) := by decide +kernel
theorem dc_132_94 : decode (ax_code 132) 94 = .ok (.aload_n 0, 1) := by decide +kernel
theorem dc_132_95 : decode (ax_code 132) 95 = .ok (.getfield 10, 3) := by decide +kernel
theorem dc_132_98 : decode (ax_code 132) 98 = .ok (.getfield 77, 3) := by decide +kernel
theorem dc_132_101 : decode (ax_code 132) 101 = .ok (.getfield 161, 3) := by decide +kernel
theorem dc_132_104 : decode (ax_code 132) 104 = .ok (.iload 5, 2) := by decide +kernel
theorem dc_132_106 : decode (ax_code 132) 106 = .ok (.iaload, 1) := by decide +kernel
theorem dc_132_107 : decode (ax_code 132) 107 = .ok (.iconst 1, 1) := by decide +kernel
theorem dc_132_108 : decode (ax_code 132) 108 = .ok (.invokevirtual 338, 3) := by decide +kernel
theorem dc_132_111 : decode (ax_code 132) 111 = .ok (.iinc 7 1, 3) := by decide +kernel
theorem dc_132_114 : decode (ax_code 132) 114 = .ok (.goto (-69), 3) := by decide +kernel
theorem dc_132_117 : decode (ax_code 132) 117 = .ok (.aload 6, 2) := by decide +kernel
theorem dc_132_119 : decode (ax_code 132) 119 = .ok (.invokevirtual 340, 3) := by decide +kernel
theorem dc_132_122 : decode (ax_code 132) 122 = .ok (.ireturn, 1) := by decide +kernel
theorem dc_133_0 : decode (ax_code 133) 0 = .ok (.iload_n 0, 1) := by decide +kernel
theorem dc_133_1 : decode (ax_code 133) 1 = .ok (.ifCond .lt 12, 3) := by decide +kernel
theorem dc_133_4 : decode (ax_code 133) 4 = .ok (.iload_n 0, 1) := by decide +kernel
theorem dc_133_5 : decode (ax_code 133) 5 = .ok (.iconst 4, 1) := by decide +kernel
theorem dc_133_6 : decode (ax_code 133) 6 = .ok (.if_icmp .ge 7, 3) := by decide +kernel
theorem dc_133_9 : decode (ax_code 133) 9 = .ok (.iconst 1, 1) := by decide +kernel
theorem dc_133_10 : decode (ax_code 133) 10 = .ok (.goto 4, 3) := by decide +kernel
theorem dc_133_13 : decode (ax_code 133) 13 = .ok (.iconst 0, 1) := by decide +kernel
theorem dc_133_14 : decode (ax_code 133) 14 = .ok (.ireturn, 1) := by decide +kernel
theorem dc_134_0 : decode (ax_code 134) 0 = .ok (.aload_n 0, 1) := by decide +kernel
theorem dc_134_1 : decode (ax_code 134) 1 = .ok (.iload_n 1, 1) := by decide +kernel
theorem dc_134_2 : decode (ax_code 134) 2 = .ok (.putfield 9, 3) := by decide +kernel
theorem dc_134_5 : decode (ax_code 134) 5 = .ok (.aload_n 0, 1) := by decide +kernel
theorem dc_134_6 : decode (ax_code 134) 6 = .ok (.iload_n 2, 1) := by decide +kernel
theorem dc_134_7 : decode (ax_code 134) 7 = .ok (.putfield 15, 3) := by decide +kernel
theorem dc_134_10 : decode (ax_code 134) 10 = .ok (.iconst 0, 1) := by decide +kernel
theorem dc_134_11 : decode (ax_code 134) 11 = .ok (.istore_n 3, 1) := by decide +kernel
theorem dc_134_12 : decode (ax_code 134) 12 = .ok (.iload_n 3, 1) := by decide +kernel
theorem dc_134_13 : decode (ax_code 134) 13 = .ok (.bipush 40, 2) := by decide +kernel
theorem dc_134_15 : decode (ax_code 134) 15 = .ok (.if_icmp .ge 16, 3) := by decide +kernel
theorem dc_134_18 : decode (ax_code 134) 18 = .ok (.aload_n 0, 1) := by decide +kernel
theorem dc_134_19 : decode (ax_code 134) 19 = .ok (.getfield 18, 3) := by decide +kernel
theorem dc_134_22 : decode (ax_code 134) 22 = .ok (.iload_n 3, 1) := by decide +kernel
theorem dc_134_23 : decode (ax_code 134) 23 = .ok (.iconst 0, 1) := by decide +kernel
theorem dc_134_24 : decode (ax_code 134) 24 = .ok (.iastore, 1) := by decide +kernel
theorem dc_134_25 : decode (ax_code 134) 25 = .ok (.iinc 3 1, 3) := by decide +kernel
theorem dc_134_28 : decode (ax_code 134) 28 = .ok (.goto (-16), 3) := by decide +kernel
theorem dc_134_31 : decode (ax_code 134) 31 = .ok (.return_, 1) := by decide +kernel
theorem dc_135_0 : decode (ax_code 135) 0 = .ok (.iload_n 1, 1) := by decide +kernel
theorem dc_135_1 : decode (ax_code 135) 1 = .ok (.ifCond .lt 11, 3) := by decide +kernel
theorem dc_135_4 : decode (ax_code 135) 4 = .ok (.iload_n 1, 1) := by decide +kernel
theorem dc_135_5 : decode (ax_code 135) 5 = .ok (.aload_n 0, 1) := by decide +kernel
theorem dc_135_6 : decode (ax_code 135) 6 = .ok (.getfield 15, 3) := by decide +kernel
theorem dc_135_9 : decode (ax_code 135) 9 = .ok (.if_icmp .lt 4, 3) := by decide +kernel
theorem dc_135_12 : decode (ax_code 135) 12 = .ok (.return_, 1) := by decide +kernel
theorem dc_135_13 : decode (ax_code 135) 13 = .ok (.aload_n 0, 1) := by decide +kernel
theorem dc_135_14 : decode (ax_code 135) 14 = .ok (.getfield 18, 3) := by decide +kernel
theorem dc_135_17 : decode (ax_code 135) 17 = .ok (.iload_n 1, 1) := by decide +kernel
theorem dc_135_18 : decode (ax_code 135) 18 = .ok (.aload_n 0, 1) := by decide +kernel
theorem dc_135_19 : decode (ax_code 135) 19 = .ok (.getfield 9, 3) := by decide +kernel
theorem dc_135_22 : decode (ax_code 135) 22 = .ok (.ifCond .ne 11, 3) := by decide +kernel
theorem dc_135_25 : decode (ax_code 135) 25 = .ok (.iload_n 2, 1) := by decide +kernel
theorem dc_135_26 : decode (ax_code 135) 26 = .ok (.ifCond .eq 7, 3) := by decide +kernel
theorem dc_135_29 : decode (ax_code 135) 29 = .ok (.iconst 1, 1) := by decide +kernel
theorem dc_135_30 : decode (ax_code 135) 30 = .ok (.goto 4, 3) := by decide +kernel
theorem dc_135_33 : decode (ax_code 135) 33 = .ok (.iload_n 2, 1) := by decide +kernel
theorem dc_135_34 : decode (ax_code 135) 34 = .ok (.iastore, 1) := by decide +kernel
theorem dc_135_35 : decode (ax_code 135) 35 = .ok (.return_, 1) := by decide +kernel
theorem dc_136_0 : decode (ax_code 136) 0 = .ok (.iconst 0, 1) := by decide +kernel
theorem dc_136_1 : decode (ax_code 136) 1 = .ok (.istore_n 1, 1) := by decide +kernel
theorem dc_136_2 : decode (ax_code 136) 2 = .ok (.iconst 0, 1) := by decide +kernel
theorem dc_136_3 : decode (ax_code 136) 3 = .ok (.istore_n 2, 1) := by decide +kernel
theorem dc_136_4 : decode (ax_code 136) 4 = .ok (.iload_n 2, 1) := by decide +kernel
theorem dc_136_5 : decode (ax_code 136) 5 = .ok (.aload_n 0, 1) := by decide +kernel
theorem dc_136_6 : decode (ax_code 136) 6 = .ok (.getfield 15, 3) := by decide +kernel
theorem dc_136_9 : decode (ax_code 136) 9 = .ok (.if_icmp .ge 18, 3) := by decide +kernel
theorem dc_136_12 : decode (ax_code 136) 12 = .ok (.iload_n 1, 1) := by decide +kernel
theorem dc_136_13 : decode (ax_code 136) 13 = .ok (.aload_n 0, 1) := by decide +kernel
theorem dc_136_14 : decode (ax_code 136) 14 = .ok (.getfield 18, 3) := by decide +kernel
theorem dc_136_17 : decode (ax_code 136) 17 = .ok (.iload_n 2, 1) := by decide +kernel
theorem dc_136_18 : decode (ax_code 136) 18 = .ok (.iaload, 1) := by decide +kernel
theorem dc_136_19 : decode (ax_code 136) 19 = .ok (.iadd, 1) := by decide +kernel
theorem dc_136_20 : decode (ax_code 136) 20 = .ok (.istore_n 1, 1) := by decide +kernel
theorem dc_136_21 : decode (ax_code 136) 21 = .ok (.iinc 2 1, 3) := by decide +kernel
theorem dc_136_24 : decode (ax_code 136) 24 = .ok (.goto (-20), 3) := by decide +kernel
theorem dc_136_27 : decode (ax_code 136) 27 = .ok (.iload_n 1, 1) := by decide +kernel
theorem dc_136_28 : decode (ax_code 136) 28 = .ok (.ireturn, 1) := by decide +kernel
theorem dc_137_0 : decode (ax_code 137) 0 = .ok (.iload_n 1, 1) := by decide +kernel
theorem dc_137_1 : decode (ax_code 137) 1 = .ok (.invokestatic 333, 3) := by decide +kernel
theorem dc_137_4 : decode (ax_code 137) 4 = .ok (.ifCond .eq 13, 3) := by decide +kernel
theorem dc_137_7 : decode (ax_code 137) 7 = .ok (.iload_n 2, 1) := by decide +kernel
theorem dc_137_8 : decode (ax_code 137) 8 = .ok (.iconst (-1), 1) := by decide +kernel
theorem dc_137_9 : decode (ax_code 137) 9 = .ok (.if_icmp .lt 8, 3) := by decide +kernel
theorem dc_137_12 : decode (ax_code 137) 12 = .ok (.iload_n 2, 1) := by decide +kernel
theorem dc_137_13 : decode (ax_code 137) 13 = .ok (.iconst 1, 1) := by decide +kernel
theorem dc_137_14 : decode (ax_code 137) 14 = .ok (.if_icmp .le 6, 3) := by decide +kernel
theorem dc_137_17 : decode (ax_code 137) 17 = .ok (.bipush (-2), 2) := by decide +kernel
theorem dc_137_19 : decode (ax_code 137) 19 = .ok (.ireturn, 1) := by decide +kernel
theorem dc_137_20 : decode (ax_code 137) 20 = .ok (.iload_n 2, 1) := by decide +kernel
theorem dc_137_21 : decode (ax_code 137) 21 = .ok (.iconst (-1), 1) := by decide +kernel
theorem dc_137_22 : decode (ax_code 137) 22 = .ok (.if_icmp .eq 12, 3) := by decide +kernel
theorem dc_137_25 : decode (ax_code 137) 25 = .ok (.iload_n 3, 1) := by decide +kernel
theorem dc_137_26 : decode (ax_code 137) 26 = .ok (.bipush 40, 2) := by decide +kernel
theorem dc_137_28 : decode (ax_code 137) 28 = .ok (.if_icmp .le 6, 3) := by decide +kernel
theorem dc_137_31 : decode (ax_code 137) 31 = .ok (.bipush (-2), 2) := by decide +kernel
theorem dc_137_33 : decode (ax_code 137) 33 = .ok (.ireturn, 1) := by decide +kernel
theorem dc_137_34 : decode (ax_code 137) 34 = .ok (.iload_n 2, 1) := by decide +kernel
theorem dc_137_35 : decode (ax_code 137) 35 = .ok (.iconst (-1), 1) := by decide +kernel
theorem dc_137_36 : decode (ax_code 137) 36 = .ok (.if_icmp .eq 10, 3) := by decide +kernel
theorem dc_137_39 : decode (ax_code 137) 39 = .ok (.iload_n 3, 1) := by decide +kernel
theorem dc_137_40 : decode (ax_code 137) 40 = .ok (.ifCond .ge 6, 3) := by decide +kernel
theorem dc_137_43 : decode (ax_code 137) 43 = .ok (.bipush (-14), 2) := by decide +kernel
theorem dc_137_45 : decode (ax_code 137) 45 = .ok (.ireturn, 1) := by decide +kernel
theorem dc_137_46 : decode (ax_code 137) 46 = .ok (.aload_n 0, 1) := by decide +kernel
theorem dc_137_47 : decode (ax_code 137) 47 = .ok (.getfield 57, 3) := by decide +kernel
theorem dc_137_50 : decode (ax_code 137) 50 = .ok (.iload_n 1, 1) := by decide +kernel
theorem dc_137_51 : decode (ax_code 137) 51 = .ok (.aaload, 1) := by decide +kernel
theorem dc_137_52 : decode (ax_code 137) 52 = .ok (.iload_n 2, 1) := by decide +kernel
theorem dc_137_53 : decode (ax_code 137) 53 = .ok (.iload_n 2, 1) := by decide +kernel
theorem dc_137_54 : decode (ax_code 137) 54 = .ok (.iconst (-1), 1) := by decide +kernel
theorem dc_137_55 : decode (ax_code 137) 55 = .ok (.if_icmp .ne 7, 3) := by decide +kernel
theorem dc_137_58 : decode (ax_code 137) 58 = .ok (.iconst 0, 1) := by decide +kernel
theorem dc_137_59 : decode (ax_code 137) 59 = .ok (.goto 4, 3) := by decide +kernel
theorem dc_137_62 : decode (ax_code 137) 62 = .ok (.iload_n 3, 1) := by decide +kernel
theorem dc_137_63 : decode (ax_code 137) 63 = .ok (.invokevirtual 336, 3) := by decide +kernel
theorem dc_137_66 : decode (ax_code 137) 66 = .ok (.iconst 1, 1) := by decide +kernel
theorem dc_137_67 : decode (ax_code 137) 67 = .ok (.ireturn, 1) := by decide +kernel
theorem dc_138_0 : decode (ax_code 138) 0 = .ok (.aload_n 0, 1) := by decide +kernel
theorem dc_138_1 : decode (ax_code 138) 1 = .ok (.iload_n 1, 1) := by decide +kernel
theorem dc_138_2 : decode (ax_code 138) 2 = .ok (.iload_n 2, 1) := by decide +kernel
theorem dc_138_3 : decode (ax_code 138) 3 = .ok (.invokevirtual 344, 3) := by decide +kernel
theorem dc_138_6 : decode (ax_code 138) 6 = .ok (.istore 4, 2) := by decide +kernel
theorem dc_138_8 : decode (ax_code 138) 8 = .ok (.iload 4, 2) := by decide +kernel
theorem dc_138_10 : decode (ax_code 138) 10 = .ok (.ifCond .eq 6, 3) := by decide +kernel
theorem dc_138_13 : decode (ax_code 138) 13 = .ok (.iload 4, 2) := by decide +kernel
theorem dc_138_15 : decode (ax_code 138) 15 = .ok (.ireturn, 1) := by decide +kernel
theorem dc_138_16 : decode (ax_code 138) 16 = .ok (.aload_n 0, 1) := by decide +kernel
theorem dc_138_17 : decode (ax_code 138) 17 = .ok (.getfield 57, 3) := by decide +kernel
theorem dc_138_20 : decode (ax_code 138) 20 = .ok (.iload_n 1, 1) := by decide +kernel
theorem dc_138_21 : decode (ax_code 138) 21 = .ok (.aaload, 1) := by decide +kernel
theorem dc_138_22 : decode (ax_code 138) 22 = .ok (.iload_n 2, 1) := by decide +kernel
theorem dc_138_23 : decode (ax_code 138) 23 = .ok (.iload_n 3, 1) := by decide +kernel
theorem dc_138_24 : decode (ax_code 138) 24 = .ok (.invokevirtual 338, 3) := by decide +kernel
theorem dc_138_27 : decode (ax_code 138) 27 = .ok (.iconst 1, 1) := by decide +kernel
theorem dc_138_28 : decode (ax_code 138) 28 = .ok (.ireturn, 1) := by decide +kernel
theorem dc_139_0 : decode (ax_code 139) 0 = .ok (.iload_n 1, 1) := by decide +kernel
theorem dc_139_1 : decode (ax_code 139) 1 = .ok (.invokestatic 333, 3) := by decide +kernel
theorem dc_139_4 : decode (ax_code 139) 4 = .ok (.ifCond .ne 6, 3) := by decide +kernel
theorem dc_139_7 : decode (ax_code 139) 7 = .ok (.bipush (-2), 2) := by decide +kernel
theorem dc_139_9 : decode (ax_code 139) 9 = .ok (.ireturn, 1) := by decide +kernel
theorem dc_139_10 : decode (ax_code 139) 10 = .ok (.aload_n 0, 1) := by decide +kernel
theorem dc_139_11 : decode (ax_code 139) 11 = .ok (.getfield 57, 3) := by decide +kernel
theorem dc_139_14 : decode (ax_code 139) 14 = .ok (.iload_n 1, 1) := by decide +kernel
theorem dc_139_15 : decode (ax_code 139) 15 = .ok (.aaload, 1) := by decide +kernel
theorem dc_139_16 : decode (ax_code 139) 16 = .ok (.getfield 350, 3) := by decide +kernel
theorem dc_139_19 : decode (ax_code 139) 19 = .ok (.iconst (-1), 1) := by decide +kernel
theorem dc_139_20 : decode (ax_code 139) 20 = .ok (.if_icmp .ne 6, 3) := by decide +kernel
theorem dc_139_23 : decode (ax_code 139) 23 = .ok (.bipush (-11), 2) := by decide +kernel
theorem dc_139_25 : decode (ax_code 139) 25 = .ok (.ireturn, 1) := by decide +kernel
theorem dc_139_26 : decode (ax_code 139) 26 = .ok (.iload_n 2, 1) := by decide +kernel
theorem dc_139_27 : decode (ax_code 139) 27 = .ok (.ifCond .lt 16, 3) := by decide +kernel
theorem dc_139_30 : decode (ax_code 139) 30 = .ok (.iload_n 2, 1) := by decide +kernel
theorem dc_139_31 : decode (ax_code 139) 31 = .ok (.aload_n 0, 1) := by decide +kernel
theorem dc_139_32 : decode (ax_code 139) 32 = .ok (.getfield 57, 3) := by decide +kernel
theorem dc_139_35 : decode (ax_code 139) 35 = .ok (.iload_n 1, 1) := by decide +kernel
theorem dc_139_36 : decode (ax_code 139) 36 = .ok (.aaload, 1) := by decide +kernel
theorem dc_139_37 : decode (ax_code 139) 37 = .ok (.getfield 353, 3) := by decide +kernel
theorem dc_139_40 : decode (ax_code 139) 40 = .ok (.if_icmp .lt 8, 3) := by decide +kernel
theorem dc_139_43 : decode (ax_code 139) 43 = .ok (.bipush (-12), 2) := by decide +kernel
theorem dc_139_45 : decode (ax_code 139) 45 = .ok (.goto 4, 3) := by decide +kernel
theorem dc_139_48 : decode (ax_code 139) 48 = .ok (.iconst 0, 1) := by decide +kernel
theorem dc_139_49 : decode (ax_code 139) 49 = .ok (.ireturn, 1) := by decide +kernel
theorem dc_140_0 : decode (ax_code 140) 0 = .ok (.aload_n 0, 1) := by decide +kernel
theorem dc_140_1 : decode (ax_code 140) 1 = .ok (.iload_n 1, 1) := by decide +kernel
theorem dc_140_2 : decode (ax_code 140) 2 = .ok (.iload_n 2, 1) := by decide +kernel
theorem dc_140_3 : decode (ax_code 140) 3 = .ok (.invokevirtual 344, 3) := by decide +kernel
theorem dc_140_6 : decode (ax_code 140) 6 = .ok (.istore_n 3, 1) := by decide +kernel
theorem dc_140_7 : decode (ax_code 140) 7 = .ok (.iload_n 3, 1) := by decide +kernel
theorem dc_140_8 : decode (ax_code 140) 8 = .ok (.ifCond .eq 5, 3) := by decide +kernel
theorem dc_140_11 : decode (ax_code 140) 11 = .ok (.iload_n 3, 1) := by decide +kernel
theorem dc_140_12 : decode (ax_code 140) 12 = .ok (.ireturn, 1) := by decide +kernel
theorem dc_140_13 : decode (ax_code 140) 13 = .ok (.aload_n 0, 1) := by decide +kernel
theorem dc_140_14 : decode (ax_code 140) 14 = .ok (.getfield 57, 3) := by decide +kernel
theorem dc_140_17 : decode (ax_code 140) 17 = .ok (.iload_n 1, 1) := by decide +kernel
theorem dc_140_18 : decode (ax_code 140) 18 = .ok (.aaload, 1) := by decide +kernel
theorem dc_140_19 : decode (ax_code 140) 19 = .ok (.getfield 347, 3) := by decide +kernel
theorem dc_140_22 : decode (ax_code 140) 22 = .ok (.iload_n 2, 1) := by decide +kernel
theorem dc_140_23 : decode (ax_code 140) 23 = .ok (.iaload, 1) := by decide +kernel
theorem dc_140_24 : decode (ax_code 140) 24 = .ok (.ireturn, 1) := by decide +kernel
theorem dc_141_0 : decode (ax_code 141) 0 = .ok (.iload_n 1, 1) := by decide +kernel
theorem dc_141_1 : decode (ax_code 141) 1 = .ok (.invokestatic 333, 3) := by decide +kernel
theorem dc_141_4 : decode (ax_code 141) 4 = .ok (.ifCond .eq 10, 3) := by decide +kernel
theorem dc_141_7 : decode (ax_code 141) 7 = .ok (.iload_n 2, 1) := by decide +kernel
theorem dc_141_8 : decode (ax_code 141) 8 = .ok (.invokestatic 173, 3) := by decide +kernel
theorem dc_141_11 : decode (ax_code 141) 11 = .ok (.ifCond .ne 6, 3) := by decide +kernel
theorem dc_141_14 : decode (ax_code 141) 14 = .ok (.bipush (-2), 2) := by decide +kernel
theorem dc_141_16 : decode (ax_code 141) 16 = .ok (.ireturn, 1) := by decide +kernel
theorem dc_141_17 : decode (ax_code 141) 17 = .ok (.aload_n 0, 1) := by decide +kernel
theorem dc_141_18 : decode (ax_code 141) 18 = .ok (.getfield 57, 3) := by decide +kernel
theorem dc_141_21 : decode (ax_code 141) 21 = .ok (.iload_n 1, 1) := by decide +kernel
theorem dc_141_22 : decode (ax_code 141) 22 = .ok (.aaload, 1) := by decide +kernel
theorem dc_141_23 : decode (ax_code 141) 23 = .ok (.getfield 350, 3) := by decide +kernel
theorem dc_141_26 : decode (ax_code 141) 26 = .ok (.iconst (-1), 1) := by decide +kernel
theorem dc_141_27 : decode (ax_code 141) 27 = .ok (.if_icmp .ne 6, 3) := by decide +kernel
theorem dc_141_30 : decode (ax_code 141) 30 = .ok (.bipush (-11), 2) := by decide +kernel
theorem dc_141_32 : decode (ax_code 141) 32 = .ok (.ireturn, 1) := by decide +kernel
theorem dc_141_33 : decode (ax_code 141) 33 = .ok (.aload_n 0, 1) := by decide +kernel
theorem dc_141_34 : decode (ax_code 141) 34 = .ok (.getfield 26, 3) := by decide +kernel
theorem dc_141_37 : decode (ax_code 141) 37 = .ok (.aload_n 0, 1) := by decide +kernel
theorem dc_141_38 : decode (ax_code 141) 38 = .ok (.getfield 10, 3) := by decide +kernel
theorem dc_141_41 : decode (ax_code 141) 41 = .ok (.getfield 77, 3) := by decide +kernel
theorem dc_141_44 : decode (ax_code 141) 44 = .ok (.iload_n 2, 1) := by decide +kernel
theorem dc_141_45 : decode (ax_code 141) 45 = .ok (.invokevirtual 205, 3) := by decide +kernel
theorem dc_141_48 : decode (ax_code 141) 48 = .ok (.iconst 0, 1) := by decide +kernel
theorem dc_141_49 : decode (ax_code 141) 49 = .ok (.istore_n 3, 1) := by decide +kernel
theorem dc_141_50 : decode (ax_code 141) 50 = .ok (.iload_n 3, 1) := by decide +kernel
theorem dc_141_51 : decode (ax_code 141) 51 = .ok (.aload_n 0, 1) := by decide +kernel
theorem dc_141_52 : decode (ax_code 141) 52 = .ok (.getfield 57, 3) := by decide +kernel
theorem dc_141_55 : decode (ax_code 141) 55 = .ok (.iload_n 1, 1) := by decide +kernel
theorem dc_141_56 : decode (ax_code 141) 56 = .ok (.aaload, 1) := by decide +kernel
theorem dc_141_57 : decode (ax_code 141) 57 = .ok (.getfield 353, 3) := by decide +kernel
theorem dc_141_60 : decode (ax_code 141) 60 = .ok (.if_icmp .ge 103, 3) := by decide +kernel
theorem dc_141_63 : decode (ax_code 141) 63 = .ok (.iload_n 3, 1) := by decide +kernel
theorem dc_141_64 : decode (ax_code 141) 64 = .ok (.aload_n 0, 1) := by decide +kernel
theorem dc_141_65 : decode (ax_code 141) 65 = .ok (.getfield 26, 3) := by decide +kernel
theorem dc_141_68 : decode (ax_code 141) 68 = .ok (.getfield 209, 3) := by decide +kernel
theorem dc_141_71 : decode (ax_code 141) 71 = .ok (.if_icmp .ge 92, 3) := by decide +kernel
theorem dc_141_74 : decode (ax_code 141) 74 = .ok (.aload_n 0, 1) := by decide +kernel
theorem dc_141_75 : decode (ax_code 141) 75 = .ok (.getfield 57, 3) := by decide +kernel
theorem dc_141_78 : decode (ax_code 141) 78 = .ok (.iload_n 1, 1) := by decide +kernel
theorem dc_141_79 : decode (ax_code 141) 79 = .ok (.aaload, 1) := by decide +kernel
theorem dc_141_80 : decode (ax_code 141) 80 = .ok (.getfield 347, 3) := by decide +kernel
theorem dc_141_83 : decode (ax_code 141) 83 = .ok (.iload_n 3, 1) := by decide +kernel
theorem dc_141_84 : decode (ax_code 141) 84 = .ok (.iaload, 1) := by decide +kernel
theorem dc_141_85 : decode (ax_code 141) 85 = .ok (.istore 4, 2) := by decide +kernel
theorem dc_141_87 : decode (ax_code 141) 87 = .ok (.iload 4, 2) := by decide +kernel
theorem dc_141_89 : decode (ax_code 141) 89 = .ok (.ifCond .lt 74, 3) := by decide +kernel
theorem dc_141_92 : decode (ax_code 141) 92 = .ok (.iload 4, 2) := by decide +kernel
theorem dc_141_94 : decode (ax_code 141) 94 = .ok (.aload_n 0, 1) := by decide +kernel
theorem dc_141_95 : decode (ax_code 141) 95 = .ok (.getfield 10, 3) := by decide +kernel
theorem dc_141_98 : decode (ax_code 141) 98 = .ok (.getfield 77, 3) := by decide +kernel
theorem dc_141_101 : decode (ax_code 141) 101 = .ok (.getfield 231, 3) := by decide +kernel
theorem dc_141_104 : decode (ax_code 141) 104 = .ok (.aload_n 0, 1) := by decide +kernel
theorem dc_141_105 : decode (ax_code 141) 105 = .ok (.getfield 26, 3) := by decide +kernel
theorem dc_141_108 : decode (ax_code 141) 108 = .ok (.getfield 212, 3) := by decide +kernel
theorem dc_141_111 : decode (ax_code 141) 111 = .ok (.iload_n 3, 1) := by decide +kernel
theorem dc_141_112 : decode (ax_code 141) 112 = .ok (.iaload, 1) := by decide +kernel
theorem dc_141_113 : decode (ax_code 141) 113 = .ok (.iaload, 1) := by decide +kernel
theorem dc_141_114 : decode (ax_code 141) 114 = .ok (.if_icmp .lt 6, 3) := by decide +kernel
theorem dc_141_117 : decode (ax_code 141) 117 = .ok (.goto 46, 3) := by decide +kernel
theorem dc_141_120 : decode (ax_code 141) 120 = .ok (.aload_n 0, 1) := by decide +kernel
theorem dc_141_121 : decode (ax_code 141) 121 = .ok (.getfield 10, 3) := by decide +kernel
theorem dc_141_124 : decode (ax_code 141) 124 = .ok (.getfield 234, 3) := by decide +kernel
theorem dc_141_127 : decode (ax_code 141) 127 = .ok (.iload_n 2, 1) := by decide +kernel
theorem dc_141_128 : decode (ax_code 141) 128 = .ok (.aload_n 0, 1) := by decide +kernel
theorem dc_141_129 : decode (ax_code 141) 129 = .ok (.getfield 26, 3) := by decide +kernel
theorem dc_141_132 : decode (ax_code 141) 132 = .ok (.getfield 212, 3) := by decide +kernel
theorem dc_141_135 : decode (ax_code 141) 135 = .ok (.iload_n 3, 1) := by decide +kernel
theorem dc_141_136 : decode (ax_code 141) 136 = .ok (.iaload, 1) := by decide +kernel
theorem dc_141_137 : decode (ax_code 141) 137 = .ok (.aload_n 0, 1) := by decide +kernel
theorem dc_141_138 : decode (ax_code 141) 138 = .ok (.getfield 26, 3) := by decide +kernel
theorem dc_141_141 : decode (ax_code 141) 141 = .ok (.getfield 215, 3) := by decide +kernel
theorem dc_141_144 : decode (ax_code 141) 144 = .ok (.iload_n 3, 1) := by decide +kernel
theorem dc_141_145 : decode (ax_code 141) 145 = .ok (.iaload, 1) := by decide +kernel
theorem dc_141_146 : decode (ax_code 141) 146 = .ok (.iload 4, 2) := by decide +kernel
theorem dc_141_148 : decode (ax_code 141) 148 = .ok (.invokevirtual 238, 3) := by decide +kernel
theorem dc_141_151 : decode (ax_code 141) 151 = .ok (.ifCond .ne 6, 3) := by decide +kernel
theorem dc_141_154 : decode (ax_code 141) 154 = .ok (.goto 9, 3) := by decide +kernel
theorem dc_141_157 : decode (ax_code 141) 157 = .ok (.iinc 3 1, 3) := by decide +kernel
theorem dc_141_160 : decode (ax_code 141) 160 = .ok (.goto (-110), 3) := by decide +kernel
theorem dc_141_163 : decode (ax_code 141) 163 = .ok (.iload_n 3, 1) := by decide +kernel
theorem dc_141_164 : decode (ax_code 141) 164 = .ok (.ireturn, 1) := by decide +kernel
theorem dc_142_0 : decode (ax_code 142) 0 = .ok (.iload_n 1, 1) := by decide +kernel
theorem dc_142_1 : decode (ax_code 142) 1 = .ok (.invokestatic 356, 3) := by decide +kernel
theorem dc_142_4 : decode (ax_code 142) 4 = .ok (.ifCond .eq 12, 3) := by decide +kernel
theorem dc_142_7 : decode (ax_code 142) 7 = .ok (.iload_n 2, 1) := by decide +kernel
theorem dc_142_8 : decode (ax_code 142) 8 = .ok (.ifCond .lt 8, 3) := by decide +kernel
theorem dc_142_11 : decode (ax_code 142) 11 = .ok (.iload_n 2, 1) := by decide +kernel
theorem dc_142_12 : decode (ax_code 142) 12 = .ok (.iconst 3, 1) := by decide +kernel
theorem dc_142_13 : decode (ax_code 142) 13 = .ok (.if_icmp .le 6, 3) := by decide +kernel
theorem dc_142_16 : decode (ax_code 142) 16 = .ok (.bipush (-2), 2) := by decide +kernel
theorem dc_142_18 : decode (ax_code 142) 18 = .ok (.ireturn, 1) := by decide +kernel
theorem dc_142_19 : decode (ax_code 142) 19 = .ok (.iload_n 2, 1) := by decide +kernel
theorem dc_142_20 : decode (ax_code 142) 20 = .ok (.iconst 1, 1) := by decide +kernel
theorem dc_142_21 : decode (ax_code 142) 21 = .ok (.if_icmp .ne 28, 3) := by decide +kernel
theorem dc_142_24 : decode (ax_code 142) 24 = .ok (.lload_n 3, 1) := by decide +kernel
theorem dc_142_25 : decode (ax_code 142) 25 = .ok (.lconst 0, 1) := by decide +kernel
theorem dc_142_26 : decode (ax_code 142) 26 = .ok (.lcmp, 1) := by decide +kernel
theorem dc_142_27 : decode (ax_code 142) 27 = .ok (.ifCond .lt 19, 3) := by decide +kernel
theorem dc_142_30 : decode (ax_code 142) 30 = .ok (.lload_n 3, 1) := by decide +kernel
theorem dc_142_31 : decode (ax_code 142) 31 = .ok (.aload_n 0, 1) := by decide +kernel
theorem dc_142_32 : decode (ax_code 142) 32 = .ok (.getfield 10, 3) := by decide +kernel
theorem dc_142_35 : decode (ax_code 142) 35 = .ok (.getfield 77, 3) := by decide +kernel
theorem dc_142_38 : decode (ax_code 142) 38 = .ok (.getfield 117, 3) := by decide +kernel
theorem dc_142_41 : decode (ax_code 142) 41 = .ok (.i2l, 1) := by decide +kernel
theorem dc_142_42 : decode (ax_code 142) 42 = .ok (.lcmp, 1) := by decide +kernel
theorem dc_142_43 : decode (ax_code 142) 43 = .ok (.ifCond .lt 6, 3) := by decide +kernel
theorem dc_142_46 : decode (ax_code 142) 46 = .ok (.bipush (-2), 2) := by decide +kernel
theorem dc_142_48 : decode (ax_code 142) 48 = .ok (.ireturn, 1) := by decide +kernel
theorem dc_142_49 : decode (ax_code 142) 49 = .ok (.iload_n 2, 1) := by decide +kernel
theorem dc_142_50 : decode (ax_code 142) 50 = .ok (.iconst 2, 1) := by decide +kernel
theorem dc_142_51 : decode (ax_code 142) 51 = .ok (.if_icmp .ne 25, 3) := by decide +kernel
theorem dc_142_54 : decode (ax_code 142) 54 = .ok (.lload_n 3, 1) := by decide +kernel
theorem dc_142_55 : decode (ax_code 142) 55 = .ok (.lconst 0, 1) := by decide +kernel
theorem dc_142_56 : decode (ax_code 142) 56 = .ok (.lcmp, 1) := by decide +kernel
theorem dc_142_57 : decode (ax_code 142) 57 = .ok (.ifCond .lt 16, 3) := by decide +kernel
theorem dc_142_60 : decode (ax_code 142) 60 = .ok (.lload_n 3, 1) := by decide +kernel
theorem dc_142_61 : decode (ax_code 142) 61 = .ok (.aload_n 0, 1) := by decide +kernel
theorem dc_142_62 : decode (ax_code 142) 62 = .ok (.getfield 10, 3) := by decide +kernel
theorem dc_142_65 : decode (ax_code 142) 65 = .ok (.getfield 253, 3) := by decide +kernel
theorem dc_142_68 : decode (ax_code 142) 68 = .ok (.i2l, 1) := by decide +kernel
theorem dc_142_69 : decode (ax_code 142) 69 = .ok (.lcmp, 1) := by decide +kernel
theorem dc_142_70 : decode (ax_code 142) 70 = .ok (.ifCond .lt 6, 3) := by decide +kernel
theorem dc_142_73 : decode (ax_code 142) 73 = .ok (.bipush (-2), 2) := by decide +kernel
theorem dc_142_75 : decode (ax_code 142) 75 = .ok (.ireturn, 1) := by decide +kernel
theorem dc_142_76 : decode (ax_code 142) 76 = .ok (.aload_n 0, 1) := by decide +kernel
theorem dc_142_77 : decode (ax_code 142) 77 = .ok (.getfield 61, 3) := by decide +kernel
theorem dc_142_80 : decode (ax_code 142) 80 = .ok (.iload_n 1, 1) := by decide +kernel
theorem dc_142_81 : decode (ax_code 142) 81 = .ok (.iaload, 1) := by decide +kernel
theorem dc_142_82 : decode (ax_code 142) 82 = .ok (.istore 5, 2) := by decide +kernel
theorem dc_142_84 : decode (ax_code 142) 84 = .ok (.aload_n 0, 1) := by decide +kernel
theorem dc_142_85 : decode (ax_code 142) 85 = .ok (.getfield 61, 3) := by decide +kernel
theorem dc_142_88 : decode (ax_code 142) 88 = .ok (.iload_n 1, 1) := by decide +kernel
theorem dc_142_89 : decode (ax_code 142) 89 = .ok (.iload_n 2, 1) := by decide +kernel
theorem dc_142_90 : decode (ax_code 142) 90 = .ok (.iastore, 1) := by decide +kernel
theorem dc_142_91 : decode (ax_code 142) 91 = .ok (.aload_n 0, 1) := by decide +kernel
theorem dc_142_92 : decode (ax_code 142) 92 = .ok (.getfield 64, 3) := by decide +kernel
theorem dc_142_95 : decode (ax_code 142) 95 = .ok (.iload_n 1, 1) := by decide +kernel
theorem dc_142_96 : decode (ax_code 142) 96 = .ok (.iload_n 2, 1) := by decide +kernel
theorem dc_142_97 : decode (ax_code 142) 97 = .ok (.iconst 1, 1) := by decide +kernel
theorem dc_142_98 : decode (ax_code 142) 98 = .ok (.if_icmp .ne 18, 3) := by decide +kernel
theorem dc_142_101 : decode (ax_code 142) 101 = .ok (.aload_n 0, 1) := by decide +kernel
theorem dc_142_102 : decode (ax_code 142) 102 = .ok (.getfield 10, 3) := by decide +kernel
theorem dc_142_105 : decode (ax_code 142) 105 = .ok (.getfield 77, 3) := by decide +kernel
theorem dc_142_108 : decode (ax_code 142) 108 = .ok (.lload_n 3, 1) := by decide +kernel
theorem dc_142_109 : decode (ax_code 142) 109 = .ok (.l2i, 1) := by decide +kernel
theorem dc_142_110 : decode (ax_code 142) 110 = .ok (.invokevirtual 120, 3) := by decide +kernel
theorem dc_142_113 : decode (ax_code 142) 113 = .ok (.goto 4, 3) := by decide +kernel
theorem dc_142_116 : decode (ax_code 142) 116 = .ok (.aconst_null, 1) := by decide +kernel
theorem dc_142_117 : decode (ax_code 142) 117 = .ok (.aastore, 1) := by decide +kernel
theorem dc_142_118 : decode (ax_code 142) 118 = .ok (.aload_n 0, 1) := by decide +kernel
theorem dc_142_119 : decode (ax_code 142) 119 = .ok (.getfield 69, 3) := by decide +kernel
theorem dc_142_122 : decode (ax_code 142) 122 = .ok (.iload_n 1, 1) := by decide +kernel
theorem dc_142_123 : decode (ax_code 142) 123 = .ok (.iload_n 2, 1) := by decide +kernel
theorem dc_142_124 : decode (ax_code 142) 124 = .ok (.iconst 2, 1) := by decide +kernel
theorem dc_142_125 : decode (ax_code 142) 125 = .ok (.if_icmp .ne 15, 3) := by decide +kernel
theorem dc_142_128 : decode (ax_code 142) 128 = .ok (.aload_n 0, 1) := by decide +kernel
theorem dc_142_129 : decode (ax_code 142) 129 = .ok (.getfield 10, 3) := by decide +kernel
theorem dc_142_132 : decode (ax_code 142) 132 = .ok (.lload_n 3, 1) := by decide +kernel
theorem dc_142_133 : decode (ax_code 142) 133 = .ok (.l2i, 1) := by decide +kernel
theorem dc_142_134 : decode (ax_code 142) 134 = .ok (.invokevirtual 270, 3) := by decide +kernel
theorem dc_142_137 : decode (ax_code 142) 137 = .ok (.goto 4, 3) := by decide +kernel
theorem dc_142_140 : decode (ax_code 142) 140 = .ok (.aconst_null, 1) := by decide +kernel
theorem dc_142_141 : decode (ax_code 142) 141 = .ok (.aastore, 1) := by decide +kernel
theorem dc_142_142 : decode (ax_code 142) 142 = .ok (.aload_n 0, 1) := by decide +kernel
theorem dc_142_143 : decode (ax_code 142) 143 = .ok (.getfield 73, 3) := by decide +kernel
theorem dc_142_146 : decode (ax_code 142) 146 = .ok (.iload_n 1, 1) := by decide +kernel
theorem dc_142_147 : decode (ax_code 142) 147 = .ok (.iload_n 2, 1) := by decide +kernel
theorem dc_142_148 : decode (ax_code 142) 148 = .ok (.iconst 3, 1) := by decide +kernel
theorem dc_142_149 : decode (ax_code 142) 149 = .ok (.if_icmp .ne 7, 3) := by decide +kernel
theorem dc_142_152 : decode (ax_code 142) 152 = .ok (.lload_n 3, 1) := by decide +kernel
theorem dc_142_153 : decode (ax_code 142) 153 = .ok (.goto 4, 3) := by decide +kernel
theorem dc_142_156 : decode (ax_code 142) 156 = .ok (.lconst 0, 1) := by decide +kernel
theorem dc_142_157 : decode (ax_code 142) 157 = .ok (.lastore, 1) := by decide +kernel
theorem dc_142_158 : decode (ax_code 142) 158 = .ok (.iload 5, 2) := by decide +kernel
theorem dc_142_160 : decode (ax_code 142) 160 = .ok (.ireturn, 1) := by decide +kernel
theorem dc_143_0 : decode (ax_code 143) 0 = .ok (.iload_n 0, 1) := by decide +kernel
theorem dc_143_1 : decode (ax_code 143) 1 = .ok (.ifCond .lt 12, 3) := by decide +kernel
theorem dc_143_4 : decode (ax_code 143) 4 = .ok (.iload_n 0, 1) := by decide +kernel
theorem dc_143_5 : decode (ax_code 143) 5 = .ok (.iconst 4, 1) := by decide +kernel
theorem dc_143_6 : decode (ax_code 143) 6 = .ok (.if_icmp .ge 7, 3) := by decide +kernel
theorem dc_143_9 : decode (ax_code 143) 9 = .ok (.iconst 1, 1) := by decide +kernel
theorem dc_143_10 : decode (ax_code 143) 10 = .ok (.goto 4, 3) := by decide +kernel
theorem dc_143_13 : decode (ax_code 143) 13 = .ok (.iconst 0, 1) := by decide +kernel
theorem dc_143_14 : decode (ax_code 143) 14 = .ok (.ireturn, 1) := by decide +kernel
theorem dc_144_0 : decode (ax_code 144) 0 = .ok (.iload_n 1, 1) := by decide +kernel
theorem dc_144_1 : decode (ax_code 144) 1 = .ok (.invokestatic 356, 3) := by decide +kernel
theorem dc_144_4 : decode (ax_code 144) 4 = .ok (.ifCond .eq 12, 3) := by decide +kernel
theorem dc_144_7 : decode (ax_code 144) 7 = .ok (.iload_n 2, 1) := by decide +kernel
theorem dc_144_8 : decode (ax_code 144) 8 = .ok (.ifCond .lt 8, 3) := by decide +kernel
theorem dc_144_11 : decode (ax_code 144) 11 = .ok (.iload_n 2, 1) := by decide +kernel
theorem dc_144_12 : decode (ax_code 144) 12 = .ok (.iconst 2, 1) := by decide +kernel
theorem dc_144_13 : decode (ax_code 144) 13 = .ok (.if_icmp .le 6, 3) := by decide +kernel
theorem dc_144_16 : decode (ax_code 144) 16 = .ok (.bipush (-2), 2) := by decide +kernel
theorem dc_144_18 : decode (ax_code 144) 18 = .ok (.ireturn, 1) := by decide +kernel
theorem dc_144_19 : decode (ax_code 144) 19 = .ok (.aload_n 0, 1) := by decide +kernel
theorem dc_144_20 : decode (ax_code 144) 20 = .ok (.getfield 61, 3) := by decide +kernel
theorem dc_144_23 : decode (ax_code 144) 23 = .ok (.iload_n 1, 1) := by decide +kernel
theorem dc_144_24 : decode (ax_code 144) 24 = .ok (.iaload, 1) := by decide +kernel
theorem dc_144_25 : decode (ax_code 144) 25 = .ok (.ifCond .ne 6, 3) := by decide +kernel
theorem dc_144_28 : decode (ax_code 144) 28 = .ok (.bipush (-11), 2) := by decide +kernel
theorem dc_144_30 : decode (ax_code 144) 30 = .ok (.ireturn, 1) := by decide +kernel
theorem dc_144_31 : decode (ax_code 144) 31 = .ok (.aload_n 0, 1) := by decide +kernel
theorem dc_144_32 : decode (ax_code 144) 32 = .ok (.getfield 64, 3) := by decide +kernel
theorem dc_144_35 : decode (ax_code 144) 35 = .ok (.iload_n 1, 1) := by decide +kernel
theorem dc_144_36 : decode (ax_code 144) 36 = .ok (.aaload, 1) := by decide +kernel
theorem dc_144_37 : decode (ax_code 144) 37 = .ok (.astore_n 3, 1) := by decide +kernel
theorem dc_144_38 : decode (ax_code 144) 38 = .ok (.aload_n 3, 1) := by decide +kernel
theorem dc_144_39 : decode (ax_code 144) 39 = .ok (.ifnonnull 6, 3) := by decide +kernel
theorem dc_144_42 : decode (ax_code 144) 42 = .ok (.bipush (-13), 2) := by decide +kernel
theorem dc_144_44 : decode (ax_code 144) 44 = .ok (.ireturn, 1) := by decide +kernel
theorem dc_144_45 : decode (ax_code 144) 45 = .ok (.iload_n 2, 1) := by decide +kernel
theorem dc_144_46 : decode (ax_code 144) 46 = .ok (.ifCond .ne 16, 3) := by decide +kernel
theorem dc_144_49 : decode (ax_code 144) 49 = .ok (.aload_n 3, 1) := by decide +kernel
theorem dc_144_50 : decode (ax_code 144) 50 = .ok (.getfield 124, 3) := by decide +kernel
theorem dc_144_53 : decode (ax_code 144) 53 = .ok (.invokevirtual 359, 3) := by decide +kernel
theorem dc_144_56 : decode (ax_code 144) 56 = .ok (.ifCond .ne 6, 3) := by decide +kernel
theorem dc_144_59 : decode (ax_code 144) 59 = .ok (.bipush (-13), 2) := by decide +kernel
theorem dc_144_61 : decode (ax_code 144) 61 = .ok (.ireturn, 1) := by decide +kernel
theorem dc_144_62 : decode (ax_code 144) 62 = .ok (.iload_n 2, 1) := by decide +kernel
theorem dc_144_63 : decode (ax_code 144) 63 = .ok (.iconst 1, 1) := by decide +kernel
theorem dc_144_64 : decode (ax_code 144) 64 = .ok (.if_icmp .ne 16, 3) := by decide +kernel
theorem dc_144_67 : decode (ax_code 144) 67 = .ok (.aload_n 3, 1) := by decide +kernel
theorem dc_144_68 : decode (ax_code 144) 68 = .ok (.getfield 124, 3) := by decide +kernel
theorem dc_144_71 : decode (ax_code 144) 71 = .ok (.invokevirtual 362, 3) := by decide +kernel
theorem dc_144_74 : decode (ax_code 144) 74 = .ok (.ifCond .ne 6, 3) := by decide +kernel
theorem dc_144_77 : decode (ax_code 144) 77 = .ok (.bipush (-13), 2) := by decide +kernel
theorem dc_144_79 : decode (ax_code 144) 79 = .ok (.ireturn, 1) := by decide +kernel
theorem dc_144_80 : decode (ax_code 144) 80 = .ok (.aload_n 3, 1) := by decide +kernel
theorem dc_144_81 : decode (ax_code 144) 81 = .ok (.getfield 124, 3) := by decide +kernel
theorem dc_144_84 : decode (ax_code 144) 84 = .ok (.getfield 128, 3) := by decide +kernel
theorem dc_144_87 : decode (ax_code 144) 87 = .ok (.ireturn, 1) := by decide +kernel
theorem dc_145_0 : decode (ax_code 145) 0 = .ok (.iload_n 1, 1) := by decide +kernel
theorem dc_145_1 : decode (ax_code 145) 1 = .ok (.invokestatic 356, 3) := by decide +kernel
theorem dc_145_4 : decode (ax_code 145) 4 = .ok (.ifCond .eq 11, 3) := by decide +kernel
theorem dc_145_7 : decode (ax_code 145) 7 = .ok (.aload_n 0, 1) := by decide +kernel
theorem dc_145_8 : decode (ax_code 145) 8 = .ok (.iload_n 2, 1) := by decide +kernel
theorem dc_145_9 : decode (ax_code 145) 9 = .ok (.invokevirtual 154, 3) := by decide +kernel
theorem dc_145_12 : decode (ax_code 145) 12 = .ok (.ifCond .ne 6, 3) := by decide +kernel
theorem dc_145_15 : decode (ax_code 145) 15 = .ok (.bipush (-2), 2) := by decide +kernel
theorem dc_145_17 : decode (ax_code 145) 17 = .ok (.ireturn, 1) := by decide +kernel
theorem dc_145_18 : decode (ax_code 145) 18 = .ok (.aload_n 0, 1) := by decide +kernel
theorem dc_145_19 : decode (ax_code 145) 19 = .ok (.getfield 61, 3) := by decide +kernel
theorem dc_145_22 : decode (ax_code 145) 22 = .ok (.iload_n 1, 1) := by decide +kernel
theorem dc_145_23 : decode (ax_code 145) 23 = .ok (.iaload, 1) := by decide +kernel
theorem dc_145_24 : decode (ax_code 145) 24 = .ok (.ifCond .ne 6, 3) := by decide +kernel
theorem dc_145_27 : decode (ax_code 145) 27 = .ok (.bipush (-11), 2) := by decide +kernel
theorem dc_145_29 : decode (ax_code 145) 29 = .ok (.ireturn, 1) := by decide +kernel
theorem dc_145_30 : decode (ax_code 145) 30 = .ok (.aload_n 0, 1) := by decide +kernel
theorem dc_145_31 : decode (ax_code 145) 31 = .ok (.getfield 69, 3) := by decide +kernel
theorem dc_145_34 : decode (ax_code 145) 34 = .ok (.iload_n 1, 1) := by decide +kernel
theorem dc_145_35 : decode (ax_code 145) 35 = .ok (.aaload, 1) := by decide +kernel
theorem dc_145_36 : decode (ax_code 145) 36 = .ok (.astore_n 3, 1) := by decide +kernel
theorem dc_145_37 : decode (ax_code 145) 37 = .ok (.aload_n 3, 1) := by decide +kernel
theorem dc_145_38 : decode (ax_code 145) 38 = .ok (.ifnonnull 6, 3) := by decide +kernel
theorem dc_145_41 : decode (ax_code 145) 41 = .ok (.bipush (-13), 2) := by decide +kernel
theorem dc_145_43 : decode (ax_code 145) 43 = .ok (.ireturn, 1) := by decide +kernel
theorem dc_145_44 : decode (ax_code 145) 44 = .ok (.aload_n 0, 1) := by decide +kernel
theorem dc_145_45 : decode (ax_code 145) 45 = .ok (.getfield 10, 3) := by decide +kernel
theorem dc_145_48 : decode (ax_code 145) 48 = .ok (.getfield 77, 3) := by decide +kernel
theorem dc_145_51 : decode (ax_code 145) 51 = .ok (.iload_n 2, 1) := by decide +kernel
theorem dc_145_52 : decode (ax_code 145) 52 = .ok (.aload_n 0, 1) := by decide +kernel
theorem dc_145_53 : decode (ax_code 145) 53 = .ok (.getfield 10, 3) := by decide +kernel
theorem dc_145_56 : decode (ax_code 145) 56 = .ok (.getfield 77, 3) := by decide +kernel
theorem dc_145_59 : decode (ax_code 145) 59 = .ok (.getfield 117, 3) := by decide +kernel
theorem dc_145_62 : decode (ax_code 145) 62 = .ok (.invokevirtual 157, 3) := by decide +kernel
theorem dc_145_65 : decode (ax_code 145) 65 = .ok (.aload_n 3, 1) := by decide +kernel
theorem dc_145_66 : decode (ax_code 145) 66 = .ok (.aload_n 0, 1) := by decide +kernel
theorem dc_145_67 : decode (ax_code 145) 67 = .ok (.getfield 10, 3) := by decide +kernel
theorem dc_145_70 : decode (ax_code 145) 70 = .ok (.getfield 77, 3) := by decide +kernel
theorem dc_145_73 : decode (ax_code 145) 73 = .ok (.invokevirtual 365, 3) := by decide +kernel
theorem dc_145_76 : decode (ax_code 145) 76 = .ok (.ireturn, 1) := by decide +kernel
theorem dc_146_0 : decode (ax_code 146) 0 = .ok (.iload_n 1, 1) := by decide +kernel
theorem dc_146_1 : decode (ax_code 146) 1 = .ok (.invokestatic 356, 3) := by decide +kernel
theorem dc_146_4 : decode (ax_code 146) 4 = .ok (.ifCond .eq 18, 3) := by decide +kernel
theorem dc_146_7 : decode (ax_code 146) 7 = .ok (.iload_n 2, 1) := by decide +kernel
theorem dc_146_8 : decode (ax_code 146) 8 = .ok (.invokestatic 173, 3) := by decide +kernel
theorem dc_146_11 : decode (ax_code 146) 11 = .ok (.ifCond .eq 11, 3) := by decide +kernel
theorem dc_146_14 : decode (ax_code 146) 14 = .ok (.aload_n 0, 1) := by decide +kernel
theorem dc_146_15 : decode (ax_code 146) 15 = .ok (.iload_n 3, 1) := by decide +kernel
theorem dc_146_16 : decode (ax_code 146) 16 = .ok (.invokevirtual 147, 3) := by decide +kernel
theorem dc_146_19 : decode (ax_code 146) 19 = .ok (.ifCond .ne 6, 3) := by decide +kernel
theorem dc_146_22 : decode (ax_code 146) 22 = .ok (.bipush (-2), 2) := by decide +kernel
theorem dc_146_24 : decode (ax_code 146) 24 = .ok (.ireturn, 1) := by decide +kernel
theorem dc_146_25 : decode (ax_code 146) 25 = .ok (.aload_n 0, 1) := by decide +kernel
theorem dc_146_26 : decode (ax_code 146) 26 = .ok (.getfield 61, 3) := by decide +kernel
theorem dc_146_29 : decode (ax_code 146) 29 = .ok (.iload_n 1, 1) := by decide +kernel
theorem dc_146_30 : decode (ax_code 146) 30 = .ok (.iaload, 1) := by decide +kernel
theorem dc_146_31 : decode (ax_code 146) 31 = .ok (.ifCond .ne 6, 3) := by decide +kernel
theorem dc_146_34 : decode (ax_code 146) 34 = .ok (.bipush (-11), 2) := by decide +kernel
theorem dc_146_36 : decode (ax_code 146) 36 = .ok (.ireturn, 1) := by decide +kernel
theorem dc_146_37 : decode (ax_code 146) 37 = .ok (.aload_n 0, 1) := by decide +kernel
theorem dc_146_38 : decode (ax_code 146) 38 = .ok (.getfield 61, 3) := by decide +kernel
theorem dc_146_41 : decode (ax_code 146) 41 = .ok (.iload_n 1, 1) := by decide +kernel
theorem dc_146_42 : decode (ax_code 146) 42 = .ok (.iaload, 1) := by decide +kernel
theorem dc_146_43 : decode (ax_code 146) 43 = .ok (.iconst 3, 1) := by decide +kernel
theorem dc_146_44 : decode (ax_code 146) 44 = .ok (.if_icmp .eq 6, 3) := by decide +kernel
theorem dc_146_47 : decode (ax_code 146) 47 = .ok (.bipush (-13), 2) := by decide +kernel
theorem dc_146_49 : decode (ax_code 146) 49 = .ok (.ireturn, 1) := by decide +kernel
theorem dc_146_50 : decode (ax_code 146) 50 = .ok (.aload_n 0, 1) := by decide +kernel
theorem dc_146_51 : decode (ax_code 146) 51 = .ok (.getfield 73, 3) := by decide +kernel
theorem dc_146_54 : decode (ax_code 146) 54 = .ok (.iload_n 1, 1) := by decide +kernel
theorem dc_146_55 : decode (ax_code 146) 55 = .ok (.laload, 1) := by decide +kernel
theorem dc_146_56 : decode (ax_code 146) 56 = .ok (.l2i, 1) := by decide +kernel
theorem dc_146_57 : decode (ax_code 146) 57 = .ok (.istore 4, 2) := by decide +kernel
theorem dc_146_59 : decode (ax_code 146) 59 = .ok (.iload 4, 2) := by decide +kernel
theorem dc_146_61 : decode (ax_code 146) 61 = .ok (.i2l, 1) := by decide +kernel
theorem dc_146_62 : decode (ax_code 146) 62 = .ok (.aload_n 0, 1) := by decide +kernel
theorem dc_146_63 : decode (ax_code 146) 63 = .ok (.getfield 73, 3) := by decide +kernel
theorem dc_146_66 : decode (ax_code 146) 66 = .ok (.iload_n 1, 1) := by decide +kernel
theorem dc_146_67 : decode (ax_code 146) 67 = .ok (.laload, 1) := by decide +kernel
theorem dc_146_68 : decode (ax_code 146) 68 = .ok (.lcmp, 1) := by decide +kernel
theorem dc_146_69 : decode (ax_code 146) 69 = .ok (.ifCond .ne 20, 3) := by decide +kernel
theorem dc_146_72 : decode (ax_code 146) 72 = .ok (.aload_n 0, 1) := by decide +kernel
theorem dc_146_73 : decode (ax_code 146) 73 = .ok (.getfield 10, 3) := by decide +kernel
theorem dc_146_76 : decode (ax_code 146) 76 = .ok (.getfield 77, 3) := by decide +kernel
theorem dc_146_79 : decode (ax_code 146) 79 = .ok (.iload_n 2, 1) := by decide +kernel
theorem dc_146_80 : decode (ax_code 146) 80 = .ok (.iload_n 3, 1) := by decide +kernel
theorem dc_146_81 : decode (ax_code 146) 81 = .ok (.iload 4, 2) := by decide +kernel
theorem dc_146_83 : decode (ax_code 146) 83 = .ok (.invokevirtual 180, 3) := by decide +kernel
theorem dc_146_86 : decode (ax_code 146) 86 = .ok (.goto 4, 3) := by decide +kernel
theorem dc_146_89 : decode (ax_code 146) 89 = .ok (.iconst 0, 1) := by decide +kernel
theorem dc_146_90 : decode (ax_code 146) 90 = .ok (.ireturn, 1) := by decide +kernel
theorem dc_147_0 : decode (ax_code 147) 0 = .ok (.aload_n 0, 1) := by decide +kernel
theorem dc_147_1 : decode (ax_code 147) 1 = .ok (.getfield 16, 3) := by decide +kernel
theorem dc_147_4 : decode (ax_code 147) 4 = .ok (.aload_n 0, 1) := by decide +kernel
theorem dc_147_5 : decode (ax_code 147) 5 = .ok (.getfield 10, 3) := by decide +kernel
theorem dc_147_8 : decode (ax_code 147) 8 = .ok (.invokevirtual 368, 3) := by decide +kernel
theorem dc_147_11 : decode (ax_code 147) 11 = .ok (.aload_n 0, 1) := by decide +kernel
theorem dc_147_12 : decode (ax_code 147) 12 = .ok (.iconst 1, 1) := by decide +kernel
theorem dc_147_13 : decode (ax_code 147) 13 = .ok (.putfield 19, 3) := by decide +kernel
theorem dc_147_16 : decode (ax_code 147) 16 = .ok (.aload_n 0, 1) := by decide +kernel
theorem dc_147_17 : decode (ax_code 147) 17 = .ok (.getfield 10, 3) := by decide +kernel
theorem dc_147_20 : decode (ax_code 147) 20 = .ok (.getfield 77, 3) := by decide +kernel
theorem dc_147_23 : decode (ax_code 147) 23 = .ok (.getfield 117, 3) := by decide +kernel
theorem dc_147_26 : decode (ax_code 147) 26 = .ok (.ireturn, 1) := by decide +kernel
theorem dc_148_0 : decode (ax_code 148) 0 = .ok (.aload_n 0, 1) := by decide +kernel
theorem dc_148_1 : decode (ax_code 148) 1 = .ok (.getfield 12, 3) := by decide +kernel
theorem dc_148_4 : decode (ax_code 148) 4 = .ok (.aload_n 1, 1) := by decide +kernel
theorem dc_148_5 : decode (ax_code 148) 5 = .ok (.getfield 12, 3) := by decide +kernel
theorem dc_148_8 : decode (ax_code 148) 8 = .ok (.invokevirtual 59, 3) := by decide +kernel
theorem dc_148_11 : decode (ax_code 148) 11 = .ok (.aload_n 0, 1) := by decide +kernel
theorem dc_148_12 : decode (ax_code 148) 12 = .ok (.getfield 21, 3) := by decide +kernel
theorem dc_148_15 : decode (ax_code 148) 15 = .ok (.aload_n 1, 1) := by decide +kernel
theorem dc_148_16 : decode (ax_code 148) 16 = .ok (.getfield 21, 3) := by decide +kernel
theorem dc_148_19 : decode (ax_code 148) 19 = .ok (.invokevirtual 63, 3) := by decide +kernel
theorem dc_148_22 : decode (ax_code 148) 22 = .ok (.iconst 0, 1) := by decide +kernel
theorem dc_148_23 : decode (ax_code 148) 23 = .ok (.istore_n 2, 1) := by decide +kernel
theorem dc_148_24 : decode (ax_code 148) 24 = .ok (.iload_n 2, 1) := by decide +kernel
theorem dc_148_25 : decode (ax_code 148) 25 = .ok (.bipush 8, 2) := by decide +kernel
theorem dc_148_27 : decode (ax_code 148) 27 = .ok (.if_icmp .ge 57, 3) := by decide +kernel
theorem dc_148_30 : decode (ax_code 148) 30 = .ok (.aload_n 0, 1) := by decide +kernel
theorem dc_148_31 : decode (ax_code 148) 31 = .ok (.getfield 27, 3) := by decide +kernel
theorem dc_148_34 : decode (ax_code 148) 34 = .ok (.iload_n 2, 1) := by decide +kernel
theorem dc_148_35 : decode (ax_code 148) 35 = .ok (.aload_n 1, 1) := by decide +kernel
theorem dc_148_36 : decode (ax_code 148) 36 = .ok (.getfield 27, 3) := by decide +kernel
theorem dc_148_39 : decode (ax_code 148) 39 = .ok (.iload_n 2, 1) := by decide +kernel
theorem dc_148_40 : decode (ax_code 148) 40 = .ok (.aaload, 1) := by decide +kernel
theorem dc_148_41 : decode (ax_code 148) 41 = .ok (.aastore, 1) := by decide +kernel
theorem dc_148_42 : decode (ax_code 148) 42 = .ok (.aload_n 0, 1) := by decide +kernel
theorem dc_148_43 : decode (ax_code 148) 43 = .ok (.getfield 33, 3) := by decide +kernel
theorem dc_148_46 : decode (ax_code 148) 46 = .ok (.iload_n 2, 1) := by decide +kernel
theorem dc_148_47 : decode (ax_code 148) 47 = .ok (.aload_n 1, 1) := by decide +kernel
theorem dc_148_48 : decode (ax_code 148) 48 = .ok (.getfield 33, 3) := by decide +kernel
theorem dc_148_51 : decode (ax_code 148) 51 = .ok (.iload_n 2, 1) := by decide +kernel
theorem dc_148_52 : decode (ax_code 148) 52 = .ok (.aaload, 1) := by decide +kernel
theorem dc_148_53 : decode (ax_code 148) 53 = .ok (.aastore, 1) := by decide +kernel
theorem dc_148_54 : decode (ax_code 148) 54 = .ok (.aload_n 0, 1) := by decide +kernel
theorem dc_148_55 : decode (ax_code 148) 55 = .ok (.getfield 37, 3) := by decide +kernel
theorem dc_148_58 : decode (ax_code 148) 58 = .ok (.iload_n 2, 1) := by decide +kernel
theorem dc_148_59 : decode (ax_code 148) 59 = .ok (.aload_n 1, 1) := by decide +kernel
theorem dc_148_60 : decode (ax_code 148) 60 = .ok (.getfield 37, 3) := by decide +kernel
theorem dc_148_63 : decode (ax_code 148) 63 = .ok (.iload_n 2, 1) := by decide +kernel
theorem dc_148_64 : decode (ax_code 148) 64 = .ok (.iaload, 1) := by decide +kernel
theorem dc_148_65 : decode (ax_code 148) 65 = .ok (.iastore, 1) := by decide +kernel
theorem dc_148_66 : decode (ax_code 148) 66 = .ok (.aload_n 0, 1) := by decide +kernel
theorem dc_148_67 : decode (ax_code 148) 67 = .ok (.getfield 41, 3) := by decide +kernel
theorem dc_148_70 : decode (ax_code 148) 70 = .ok (.iload_n 2, 1) := by decide +kernel
theorem dc_148_71 : decode (ax_code 148) 71 = .ok (.aload_n 1, 1) := by decide +kernel
theorem dc_148_72 : decode (ax_code 148) 72 = .ok (.getfield 41, 3) := by decide +kernel
theorem dc_148_75 : decode (ax_code 148) 75 = .ok (.iload_n 2, 1) := by decide +kernel
theorem dc_148_76 : decode (ax_code 148) 76 = .ok (.iaload, 1) := by decide +kernel
theorem dc_148_77 : decode (ax_code 148) 77 = .ok (.iastore, 1) := by decide +kernel
theorem dc_148_78 : decode (ax_code 148) 78 = .ok (.iinc 2 1, 3) := by decide +kernel
theorem dc_148_81 : decode (ax_code 148) 81 = .ok (.goto (-57), 3) := by decide +kernel
theorem dc_148_84 : decode (ax_code 148) 84 = .ok (.aload_n 0, 1) := by decide +kernel
theorem dc_148_85 : decode (ax_code 148) 85 = .ok (.aload_n 1, 1) := by decide +kernel
theorem dc_148_86 : decode (ax_code 148) 86 = .ok (.getfield 44, 3) := by decide +kernel
theorem dc_148_89 : decode (ax_code 148) 89 = .ok (.putfield 44, 3) := by decide +kernel
theorem dc_148_92 : decode (ax_code 148) 92 = .ok (.aload_n 0, 1) := by decide +kernel
theorem dc_148_93 : decode (ax_code 148) 93 = .ok (.aload_n 1, 1) := by decide +kernel
theorem dc_148_94 : decode (ax_code 148) 94 = .ok (.getfield 48, 3) := by decide +kernel
theorem dc_148_97 : decode (ax_code 148) 97 = .ok (.putfield 48, 3) := by decide +kernel
theorem dc_148_100 : decode (ax_code 148) 100 = .ok (.return_, 1) := by decide +kernel
theorem dc_149_0 : decode (ax_code 149) 0 = .ok (.aload_n 0, 1) := by decide +kernel
theorem dc_149_1 : decode (ax_code 149) 1 = .ok (.aload_n 1, 1) := by decide +kernel
theorem dc_149_2 : decode (ax_code 149) 2 = .ok (.getfield 9, 3) := by decide +kernel
theorem dc_149_5 : decode (ax_code 149) 5 = .ok (.invokevirtual 45, 3) := by decide +kernel
theorem dc_149_8 : decode (ax_code 149) 8 = .ok (.iconst 0, 1) := by decide +kernel
theorem dc_149_9 : decode (ax_code 149) 9 = .ok (.istore_n 2, 1) := by decide +kernel
theorem dc_149_10 : decode (ax_code 149) 10 = .ok (.iload_n 2, 1) := by decide +kernel
theorem dc_149_11 : decode (ax_code 149) 11 = .ok (.iconst 5, 1) := by decide +kernel
theorem dc_149_12 : decode (ax_code 149) 12 = .ok (.if_icmp .ge 21, 3) := by decide +kernel
theorem dc_149_15 : decode (ax_code 149) 15 = .ok (.aload_n 0, 1) := by decide +kernel
theorem dc_149_16 : decode (ax_code 149) 16 = .ok (.getfield 15, 3) := by decide +kernel
theorem dc_149_19 : decode (ax_code 149) 19 = .ok (.iload_n 2, 1) := by decide +kernel
theorem dc_149_20 : decode (ax_code 149) 20 = .ok (.aload_n 1, 1) := by decide +kernel
theorem dc_149_21 : decode (ax_code 149) 21 = .ok (.getfield 15, 3) := by decide +kernel
theorem dc_149_24 : decode (ax_code 149) 24 = .ok (.iload_n 2, 1) := by decide +kernel
theorem dc_149_25 : decode (ax_code 149) 25 = .ok (.iaload, 1) := by decide +kernel
theorem dc_149_26 : decode (ax_code 149) 26 = .ok (.iastore, 1) := by decide +kernel
theorem dc_149_27 : decode (ax_code 149) 27 = .ok (.iinc 2 1, 3) := by decide +kernel
theorem dc_149_30 : decode (ax_code 149) 30 = .ok (.goto (-20), 3) := by decide +kernel
theorem dc_149_33 : decode (ax_code 149) 33 = .ok (.iconst 0, 1) := by decide +kernel
theorem dc_149_34 : decode (ax_code 149) 34 = .ok (.istore_n 2, 1) := by decide +kernel
theorem dc_149_35 : decode (ax_code 149) 35 = .ok (.iload_n 2, 1) := by decide +kernel
theorem dc_149_36 : decode (ax_code 149) 36 = .ok (.aload_n 1, 1) := by decide +kernel
theorem dc_149_37 : decode (ax_code 149) 37 = .ok (.getfield 25, 3) := by decide +kernel
theorem dc_149_40 : decode (ax_code 149) 40 = .ok (.if_icmp .ge 19, 3) := by decide +kernel
theorem dc_149_43 : decode (ax_code 149) 43 = .ok (.aload_n 0, 1) := by decide +kernel
theorem dc_149_44 : decode (ax_code 149) 44 = .ok (.aload_n 1, 1) := by decide +kernel
theorem dc_149_45 : decode (ax_code 149) 45 = .ok (.getfield 21, 3) := by decide +kernel
theorem dc_149_48 : decode (ax_code 149) 48 = .ok (.iload_n 2, 1) := by decide +kernel
theorem dc_149_49 : decode (ax_code 149) 49 = .ok (.aaload, 1) := by decide +kernel
theorem dc_149_50 : decode (ax_code 149) 50 = .ok (.invokevirtual 49, 3) := by decide +kernel
theorem dc_149_53 : decode (ax_code 149) 53 = .ok (.iinc 2 1, 3) := by decide +kernel
theorem dc_149_56 : decode (ax_code 149) 56 = .ok (.goto (-21), 3) := by decide +kernel
theorem dc_149_59 : decode (ax_code 149) 59 = .ok (.return_, 1) := by decide +kernel
theorem dc_150_0 : decode (ax_code 150) 0 = .ok (.aload_n 0, 1) := by decide +kernel
theorem dc_150_1 : decode (ax_code 150) 1 = .ok (.aload_n 1, 1) := by decide +kernel
theorem dc_150_2 : decode (ax_code 150) 2 = .ok (.getfield 18, 3) := by decide +kernel
theorem dc_150_5 : decode (ax_code 150) 5 = .ok (.putfield 18, 3) := by decide +kernel
theorem dc_150_8 : decode (ax_code 150) 8 = .ok (.iconst 0, 1) := by decide +kernel
theorem dc_150_9 : decode (ax_code 150) 9 = .ok (.istore_n 2, 1) := by decide +kernel
theorem dc_150_10 : decode (ax_code 150) 10 = .ok (.iload_n 2, 1) := by decide +kernel
theorem dc_150_11 : decode (ax_code 150) 11 = .ok (.bipush 40, 2) := by decide +kernel
theorem dc_150_13 : decode (ax_code 150) 13 = .ok (.if_icmp .ge 33, 3) := by decide +kernel
theorem dc_150_16 : decode (ax_code 150) 16 = .ok (.aload_n 0, 1) := by decide +kernel
theorem dc_150_17 : decode (ax_code 150) 17 = .ok (.getfield 9, 3) := by decide +kernel
theorem dc_150_20 : decode (ax_code 150) 20 = .ok (.iload_n 2, 1) := by decide +kernel
theorem dc_150_21 : decode (ax_code 150) 21 = .ok (.aload_n 1, 1) := by decide +kernel
theorem dc_150_22 : decode (ax_code 150) 22 = .ok (.getfield 9, 3) := by decide +kernel
theorem dc_150_25 : decode (ax_code 150) 25 = .ok (.iload_n 2, 1) := by decide +kernel
theorem dc_150_26 : decode (ax_code 150) 26 = .ok (.iaload, 1) := by decide +kernel
theorem dc_150_27 : decode (ax_code 150) 27 = .ok (.iastore, 1) := by decide +kernel
theorem dc_150_28 : decode (ax_code 150) 28 = .ok (.aload_n 0, 1) := by decide +kernel
theorem dc_150_29 : decode (ax_code 150) 29 = .ok (.getfield 15, 3) := by decide +kernel
theorem dc_150_32 : decode (ax_code 150) 32 = .ok (.iload_n 2, 1) := by decide +kernel
theorem dc_150_33 : decode (ax_code 150) 33 = .ok (.aload_n 1, 1) := by decide +kernel
theorem dc_150_34 : decode (ax_code 150) 34 = .ok (.getfield 15, 3) := by decide +kernel
theorem dc_150_37 : decode (ax_code 150) 37 = .ok (.iload_n 2, 1) := by decide +kernel
theorem dc_150_38 : decode (ax_code 150) 38 = .ok (.iaload, 1) := by decide +kernel
theorem dc_150_39 : decode (ax_code 150) 39 = .ok (.iastore, 1) := by decide +kernel
theorem dc_150_40 : decode (ax_code 150) 40 = .ok (.iinc 2 1, 3) := by decide +kernel
theorem dc_150_43 : decode (ax_code 150) 43 = .ok (.goto (-33), 3) := by decide +kernel
theorem dc_150_46 : decode (ax_code 150) 46 = .ok (.return_, 1) := by decide +kernel
theorem dc_151_0 : decode (ax_code 151) 0 = .ok (.aload_n 0, 1) := by decide +kernel
theorem dc_151_1 : decode (ax_code 151) 1 = .ok (.getfield 19, 3) := by decide +kernel
theorem dc_151_4 : decode (ax_code 151) 4 = .ok (.ifCond .ne 6, 3) := by decide +kernel
theorem dc_151_7 : decode (ax_code 151) 7 = .ok (.bipush (-3), 2) := by decide +kernel
theorem dc_151_9 : decode (ax_code 151) 9 = .ok (.ireturn, 1) := by decide +kernel
theorem dc_151_10 : decode (ax_code 151) 10 = .ok (.aload_n 0, 1) := by decide +kernel
theorem dc_151_11 : decode (ax_code 151) 11 = .ok (.getfield 10, 3) := by decide +kernel
theorem dc_151_14 : decode (ax_code 151) 14 = .ok (.aload_n 0, 1) := by decide +kernel
theorem dc_151_15 : decode (ax_code 151) 15 = .ok (.getfield 16, 3) := by decide +kernel
theorem dc_151_18 : decode (ax_code 151) 18 = .ok (.invokevirtual 368, 3) := by decide +kernel
theorem dc_151_21 : decode (ax_code 151) 21 = .ok (.aload_n 0, 1) := by decide +kernel
theorem dc_151_22 : decode (ax_code 151) 22 = .ok (.getfield 10, 3) := by decide +kernel
theorem dc_151_25 : decode (ax_code 151) 25 = .ok (.getfield 77, 3) := by decide +kernel
theorem dc_151_28 : decode (ax_code 151) 28 = .ok (.getfield 117, 3) := by decide +kernel
theorem dc_151_31 : decode (ax_code 151) 31 = .ok (.ireturn, 1) := by decide +kernel
theorem dc_152_0 : decode (ax_code 152) 0 = .ok (.iload_n 1, 1) := by decide +kernel
theorem dc_152_1 : decode (ax_code 152) 1 = .ok (.tableswitch 88 0 4 #[35, 47, 59, 71, 80], 35) := by decide +kernel
theorem dc_152_36 : decode (ax_code 152) 36 = .ok (.aload_n 0, 1) := by decide +kernel
theorem dc_152_37 : decode (ax_code 152) 37 = .ok (.getfield 10, 3) := by decide +kernel
theorem dc_152_40 : decode (ax_code 152) 40 = .ok (.getfield 77, 3) := by decide +kernel
theorem dc_152_43 : decode (ax_code 152) 43 = .ok (.getfield 81, 3) := by decide +kernel
theorem dc_152_46 : decode (ax_code 152) 46 = .ok (.i2l, 1) := by decide +kernel
theorem dc_152_47 : decode (ax_code 152) 47 = .ok (.lreturn, 1) := by decide +kernel
theorem dc_152_48 : decode (ax_code 152) 48 = .ok (.aload_n 0, 1) := by decide +kernel
theorem dc_152_49 : decode (ax_code 152) 49 = .ok (.getfield 10, 3) := by decide +kernel
theorem dc_152_52 : decode (ax_code 152) 52 = .ok (.getfield 77, 3) := by decide +kernel
theorem dc_152_55 : decode (ax_code 152) 55 = .ok (.getfield 117, 3) := by decide +kernel
theorem dc_152_58 : decode (ax_code 152) 58 = .ok (.i2l, 1) := by decide +kernel
theorem dc_152_59 : decode (ax_code 152) 59 = .ok (.lreturn, 1) := by decide +kernel
theorem dc_152_60 : decode (ax_code 152) 60 = .ok (.aload_n 0, 1) := by decide +kernel
theorem dc_152_61 : decode (ax_code 152) 61 = .ok (.getfield 10, 3) := by decide +kernel
theorem dc_152_64 : decode (ax_code 152) 64 = .ok (.getfield 234, 3) := by decide +kernel
theorem dc_152_67 : decode (ax_code 152) 67 = .ok (.getfield 250, 3) := by decide +kernel
theorem dc_152_70 : decode (ax_code 152) 70 = .ok (.i2l, 1) := by decide +kernel
theorem dc_152_71 : decode (ax_code 152) 71 = .ok (.lreturn, 1) := by decide +kernel
theorem dc_152_72 : decode (ax_code 152) 72 = .ok (.aload_n 0, 1) := by decide +kernel
theorem dc_152_73 : decode (ax_code 152) 73 = .ok (.getfield 10, 3) := by decide +kernel
theorem dc_152_76 : decode (ax_code 152) 76 = .ok (.getfield 253, 3) := by decide +kernel
theorem dc_152_79 : decode (ax_code 152) 79 = .ok (.i2l, 1) := by decide +kernel
theorem dc_152_80 : decode (ax_code 152) 80 = .ok (.lreturn, 1) := by decide +kernel
theorem dc_152_81 : decode (ax_code 152) 81 = .ok (.aload_n 0, 1) := by decide +kernel
theorem dc_152_82 : decode (ax_code 152) 82 = .ok (.getfield 10, 3) := by decide +kernel
theorem dc_152_85 : decode (ax_code 152) 85 = .ok (.getfield 289, 3) := by decide +kernel
theorem dc_152_88 : decode (ax_code 152) 88 = .ok (.lreturn, 1) := by decide +kernel
theorem dc_152_89 : decode (ax_code 152) 89 = .ok (.ldc2_w 167, 3) := by decide +kernel
theorem dc_152_92 : decode (ax_code 152) 92 = .ok (.lreturn, 1) := by decide +kernel
