/-! CELLS, LINKS and DECODE ROWS of the class and the law -/
theorem fl_0_9 : ax_fld 0 9 = some (0, 0) := by decide +kernel
theorem fl_0_15 : ax_fld 0 15 = some (0, 1) := by decide +kernel
theorem fl_0_18 : ax_fld 0 18 = some (0, 2) := by decide +kernel
theorem fl_0_21 : ax_fld 0 21 = some (0, 3) := by decide +kernel
theorem fl_0_24 : ax_fld 0 24 = some (0, 4) := by decide +kernel
theorem fl_0_32 : ax_fld 0 32 = some (7, 3) := by decide +kernel
theorem fl_0_37 : ax_fld 0 37 = some (7, 8) := by decide +kernel
theorem fl_0_41 : ax_fld 0 41 = some (7, 0) := by decide +kernel
theorem fl_0_44 : ax_fld 0 44 = some (7, 1) := by decide +kernel
theorem fl_1_12 : ax_fld 1 12 = some (1, 0) := by decide +kernel
theorem fl_1_21 : ax_fld 1 21 = some (1, 1) := by decide +kernel
theorem fl_1_27 : ax_fld 1 27 = some (1, 2) := by decide +kernel
theorem fl_1_33 : ax_fld 1 33 = some (1, 3) := by decide +kernel
theorem fl_1_37 : ax_fld 1 37 = some (1, 4) := by decide +kernel
theorem fl_1_41 : ax_fld 1 41 = some (1, 5) := by decide +kernel
theorem fl_1_44 : ax_fld 1 44 = some (1, 6) := by decide +kernel
theorem fl_1_48 : ax_fld 1 48 = some (1, 7) := by decide +kernel
theorem fl_1_56 : ax_fld 1 56 = some (2, 2) := by decide +kernel
theorem fl_1_74 : ax_fld 1 74 = some (6, 2) := by decide +kernel
theorem fl_2_9 : ax_fld 2 9 = some (2, 0) := by decide +kernel
theorem fl_2_15 : ax_fld 2 15 = some (2, 1) := by decide +kernel
theorem fl_2_18 : ax_fld 2 18 = some (2, 2) := by decide +kernel
theorem fl_3_9 : ax_fld 3 9 = some (3, 0) := by decide +kernel
theorem fl_3_15 : ax_fld 3 15 = some (3, 1) := by decide +kernel
theorem fl_3_18 : ax_fld 3 18 = some (3, 2) := by decide +kernel
theorem fl_3_22 : ax_fld 3 22 = some (3, 3) := by decide +kernel
theorem fl_3_26 : ax_fld 3 26 = some (3, 4) := by decide +kernel
theorem fl_3_29 : ax_fld 3 29 = some (3, 5) := by decide +kernel
theorem fl_3_32 : ax_fld 3 32 = some (3, 6) := by decide +kernel
theorem fl_3_35 : ax_fld 3 35 = some (3, 7) := by decide +kernel
theorem fl_3_38 : ax_fld 3 38 = some (3, 8) := by decide +kernel
theorem fl_3_45 : ax_fld 3 45 = some (1, 0) := by decide +kernel
theorem fl_3_57 : ax_fld 3 57 = some (7, 4) := by decide +kernel
theorem fl_3_60 : ax_fld 3 60 = some (6, 0) := by decide +kernel
theorem fl_3_72 : ax_fld 3 72 = some (6, 1) := by decide +kernel
theorem fl_3_82 : ax_fld 3 82 = some (7, 8) := by decide +kernel
theorem fl_3_85 : ax_fld 3 85 = some (7, 3) := by decide +kernel
theorem fl_3_134 : ax_fld 3 134 = some (4, 3) := by decide +kernel
theorem fl_3_140 : ax_fld 3 140 = some (4, 0) := by decide +kernel
theorem fl_4_9 : ax_fld 4 9 = some (4, 0) := by decide +kernel
theorem fl_4_15 : ax_fld 4 15 = some (4, 1) := by decide +kernel
theorem fl_4_18 : ax_fld 4 18 = some (4, 2) := by decide +kernel
theorem fl_4_21 : ax_fld 4 21 = some (4, 3) := by decide +kernel
theorem fl_4_25 : ax_fld 4 25 = some (4, 4) := by decide +kernel
theorem fl_4_31 : ax_fld 4 31 = some (7, 3) := by decide +kernel
theorem fl_4_44 : ax_fld 4 44 = some (7, 5) := by decide +kernel
theorem fl_6_7 : ax_fld 6 7 = some (6, 0) := by decide +kernel
theorem fl_6_13 : ax_fld 6 13 = some (6, 1) := by decide +kernel
theorem fl_6_17 : ax_fld 6 17 = some (6, 2) := by decide +kernel
theorem fl_7_9 : ax_fld 7 9 = some (7, 0) := by decide +kernel
theorem fl_7_15 : ax_fld 7 15 = some (7, 1) := by decide +kernel
theorem fl_7_21 : ax_fld 7 21 = some (7, 2) := by decide +kernel
theorem fl_7_25 : ax_fld 7 25 = some (7, 3) := by decide +kernel
theorem fl_7_28 : ax_fld 7 28 = some (7, 4) := by decide +kernel
theorem fl_7_31 : ax_fld 7 31 = some (7, 5) := by decide +kernel
theorem fl_7_36 : ax_fld 7 36 = some (7, 6) := by decide +kernel
theorem fl_7_39 : ax_fld 7 39 = some (7, 7) := by decide +kernel
theorem fl_7_42 : ax_fld 7 42 = some (7, 8) := by decide +kernel
theorem fl_7_71 : ax_fld 7 71 = some (6, 0) := by decide +kernel
theorem fl_7_81 : ax_fld 7 81 = some (6, 1) := by decide +kernel
theorem fl_7_91 : ax_fld 7 91 = some (6, 2) := by decide +kernel
theorem fl_9_9 : ax_fld 9 9 = some (9, 0) := by decide +kernel
theorem fl_9_15 : ax_fld 9 15 = some (9, 1) := by decide +kernel
theorem fl_9_18 : ax_fld 9 18 = some (9, 2) := by decide +kernel
theorem fl_9_21 : ax_fld 9 21 = some (9, 3) := by decide +kernel
theorem fl_9_29 : ax_fld 9 29 = some (7, 3) := by decide +kernel
theorem fl_9_34 : ax_fld 9 34 = some (7, 8) := by decide +kernel
theorem fl_10_10 : ax_fld 10 10 = some (10, 0) := by decide +kernel
theorem fl_10_26 : ax_fld 10 26 = some (10, 3) := by decide +kernel
theorem fl_10_33 : ax_fld 10 33 = some (10, 4) := by decide +kernel
theorem fl_10_77 : ax_fld 10 77 = some (1, 0) := by decide +kernel
theorem fl_10_81 : ax_fld 10 81 = some (7, 0) := by decide +kernel
theorem fl_10_91 : ax_fld 10 91 = some (7, 1) := by decide +kernel
theorem fl_10_117 : ax_fld 10 117 = some (7, 3) := by decide +kernel
theorem fl_10_139 : ax_fld 10 139 = some (7, 6) := by decide +kernel
theorem fl_10_151 : ax_fld 10 151 = some (7, 5) := by decide +kernel
theorem fl_10_161 : ax_fld 10 161 = some (7, 8) := by decide +kernel
theorem fl_10_209 : ax_fld 10 209 = some (4, 3) := by decide +kernel
theorem fl_10_212 : ax_fld 10 212 = some (4, 0) := by decide +kernel
theorem fl_10_215 : ax_fld 10 215 = some (4, 1) := by decide +kernel
theorem fl_10_218 : ax_fld 10 218 = some (4, 2) := by decide +kernel
theorem fl_10_231 : ax_fld 10 231 = some (7, 4) := by decide +kernel
theorem fl_10_234 : ax_fld 10 234 = some (1, 1) := by decide +kernel
theorem fl_10_250 : ax_fld 10 250 = some (2, 2) := by decide +kernel
theorem fl_10_253 : ax_fld 10 253 = some (1, 6) := by decide +kernel
theorem fl_10_256 : ax_fld 10 256 = some (1, 2) := by decide +kernel
theorem fl_10_267 : ax_fld 10 267 = some (1, 3) := by decide +kernel
theorem fl_10_277 : ax_fld 10 277 = some (1, 4) := by decide +kernel
theorem fl_10_280 : ax_fld 10 280 = some (1, 5) := by decide +kernel
theorem fl_10_289 : ax_fld 10 289 = some (1, 7) := by decide +kernel
theorem fl_10_372 : ax_fld 10 372 = some (12, 1) := by decide +kernel
theorem fl_10_375 : ax_fld 10 375 = some (12, 2) := by decide +kernel
theorem fl_11_7 : ax_fld 11 7 = some (11, 0) := by decide +kernel
theorem fl_11_17 : ax_fld 11 17 = some (11, 4) := by decide +kernel
theorem fl_11_20 : ax_fld 11 20 = some (11, 5) := by decide +kernel
theorem fl_11_23 : ax_fld 11 23 = some (11, 6) := by decide +kernel
theorem fl_11_32 : ax_fld 11 32 = some (11, 8) := by decide +kernel
theorem fl_11_53 : ax_fld 11 53 = some (11, 1) := by decide +kernel
theorem fl_11_60 : ax_fld 11 60 = some (11, 9) := by decide +kernel
theorem fl_18_27 : ax_fld 18 27 = some (11, 0) := by decide +kernel
theorem fl_18_37 : ax_fld 18 37 = some (11, 3) := by decide +kernel
theorem fl_18_52 : ax_fld 18 52 = some (11, 1) := by decide +kernel
theorem fl_18_55 : ax_fld 18 55 = some (11, 4) := by decide +kernel
theorem fl_18_58 : ax_fld 18 58 = some (11, 5) := by decide +kernel
theorem fl_18_61 : ax_fld 18 61 = some (11, 6) := by decide +kernel
theorem fl_18_71 : ax_fld 18 71 = some (11, 7) := by decide +kernel
theorem fl_18_74 : ax_fld 18 74 = some (11, 2) := by decide +kernel
theorem ow_8 : ax_own 8 = 10 := by decide +kernel
theorem ow_9 : ax_own 9 = 10 := by decide +kernel
theorem ow_10 : ax_own 10 = 10 := by decide +kernel
theorem ow_11 : ax_own 11 = 10 := by decide +kernel
theorem ow_12 : ax_own 12 = 10 := by decide +kernel
theorem ow_13 : ax_own 13 = 10 := by decide +kernel
theorem ow_14 : ax_own 14 = 7 := by decide +kernel
theorem ow_16 : ax_own 16 = 10 := by decide +kernel
theorem ow_18 : ax_own 18 = 7 := by decide +kernel
theorem ow_19 : ax_own 19 = 10 := by decide +kernel
theorem ow_20 : ax_own 20 = 7 := by decide +kernel
theorem ow_21 : ax_own 21 = 7 := by decide +kernel
theorem ow_22 : ax_own 22 = 10 := by decide +kernel
theorem ow_23 : ax_own 23 = 7 := by decide +kernel
theorem ow_24 : ax_own 24 = 10 := by decide +kernel
theorem ow_26 : ax_own 26 = 3 := by decide +kernel
theorem ow_27 : ax_own 27 = 3 := by decide +kernel
theorem ow_28 : ax_own 28 = 7 := by decide +kernel
theorem ow_29 : ax_own 29 = 12 := by decide +kernel
theorem ow_30 : ax_own 30 = 1 := by decide +kernel
theorem ow_31 : ax_own 31 = 2 := by decide +kernel
theorem ow_33 : ax_own 33 = 3 := by decide +kernel
theorem ow_34 : ax_own 34 = 3 := by decide +kernel
theorem ow_35 : ax_own 35 = 10 := by decide +kernel
theorem ow_37 : ax_own 37 = 10 := by decide +kernel
theorem ow_39 : ax_own 39 = 10 := by decide +kernel
theorem ow_40 : ax_own 40 = 4 := by decide +kernel
theorem ow_41 : ax_own 41 = 7 := by decide +kernel
theorem ow_42 : ax_own 42 = 4 := by decide +kernel
theorem ow_43 : ax_own 43 = 4 := by decide +kernel
theorem ow_44 : ax_own 44 = 10 := by decide +kernel
theorem ow_45 : ax_own 45 = 10 := by decide +kernel
theorem ow_46 : ax_own 46 = 2 := by decide +kernel
theorem ow_47 : ax_own 47 = 10 := by decide +kernel
theorem ow_48 : ax_own 48 = 1 := by decide +kernel
theorem ow_49 : ax_own 49 = 1 := by decide +kernel
theorem ow_50 : ax_own 50 = 1 := by decide +kernel
theorem ow_51 : ax_own 51 = 1 := by decide +kernel
theorem ow_52 : ax_own 52 = 9 := by decide +kernel
theorem ow_53 : ax_own 53 = 9 := by decide +kernel
theorem ow_54 : ax_own 54 = 0 := by decide +kernel
theorem ow_55 : ax_own 55 = 0 := by decide +kernel
theorem ow_56 : ax_own 56 = 10 := by decide +kernel
theorem ow_57 : ax_own 57 = 10 := by decide +kernel
theorem ow_58 : ax_own 58 = 3 := by decide +kernel
theorem ow_59 : ax_own 59 = 7 := by decide +kernel
theorem ow_60 : ax_own 60 = 7 := by decide +kernel
theorem ow_61 : ax_own 61 = 12 := by decide +kernel
theorem ow_62 : ax_own 62 = 12 := by decide +kernel
theorem ow_63 : ax_own 63 = 10 := by decide +kernel
theorem ow_64 : ax_own 64 = 10 := by decide +kernel
theorem ow_65 : ax_own 65 = 3 := by decide +kernel
theorem ow_66 : ax_own 66 = 3 := by decide +kernel
theorem ow_67 : ax_own 67 = 3 := by decide +kernel
theorem ow_68 : ax_own 68 = 4 := by decide +kernel
theorem ow_69 : ax_own 69 = 3 := by decide +kernel
theorem ow_70 : ax_own 70 = 3 := by decide +kernel
theorem ow_71 : ax_own 71 = 3 := by decide +kernel
theorem ow_73 : ax_own 73 = 10 := by decide +kernel
theorem ow_74 : ax_own 74 = 10 := by decide +kernel
theorem ow_75 : ax_own 75 = 3 := by decide +kernel
theorem ow_76 : ax_own 76 = 10 := by decide +kernel
theorem ow_77 : ax_own 77 = 10 := by decide +kernel
theorem ow_78 : ax_own 78 = 11 := by decide +kernel
theorem ow_79 : ax_own 79 = 11 := by decide +kernel
theorem ow_81 : ax_own 81 = 11 := by decide +kernel
theorem ow_82 : ax_own 82 = 11 := by decide +kernel
theorem ow_83 : ax_own 83 = 18 := by decide +kernel
theorem ow_84 : ax_own 84 = 18 := by decide +kernel
theorem ow_86 : ax_own 86 = 10 := by decide +kernel
theorem ow_87 : ax_own 87 = 1 := by decide +kernel
theorem ow_88 : ax_own 88 = 7 := by decide +kernel
theorem ow_89 : ax_own 89 = 10 := by decide +kernel
theorem ow_90 : ax_own 90 = 11 := by decide +kernel
theorem ow_91 : ax_own 91 = 10 := by decide +kernel
theorem ow_92 : ax_own 92 = 10 := by decide +kernel
theorem ow_93 : ax_own 93 = 7 := by decide +kernel
theorem ow_94 : ax_own 94 = 7 := by decide +kernel
theorem ow_95 : ax_own 95 = 7 := by decide +kernel
theorem ow_96 : ax_own 96 = 7 := by decide +kernel
theorem ow_97 : ax_own 97 = 6 := by decide +kernel
theorem ow_98 : ax_own 98 = 7 := by decide +kernel
theorem ow_99 : ax_own 99 = 7 := by decide +kernel
theorem ow_100 : ax_own 100 = 7 := by decide +kernel
theorem ow_101 : ax_own 101 = 7 := by decide +kernel
theorem ow_102 : ax_own 102 = 12 := by decide +kernel
theorem ow_103 : ax_own 103 = 10 := by decide +kernel
theorem ow_104 : ax_own 104 = 9 := by decide +kernel
theorem ow_105 : ax_own 105 = 0 := by decide +kernel
theorem ow_106 : ax_own 106 = 18 := by decide +kernel
theorem ow_107 : ax_own 107 = 11 := by decide +kernel
theorem ow_108 : ax_own 108 = 11 := by decide +kernel
theorem ow_109 : ax_own 109 = 11 := by decide +kernel
theorem ow_110 : ax_own 110 = 10 := by decide +kernel
theorem ow_112 : ax_own 112 = 18 := by decide +kernel
theorem aL_8 : ax_L 8 = 3 := by decide +kernel
theorem aL_9 : ax_L 9 = 3 := by decide +kernel
theorem aL_10 : ax_L 10 = 2 := by decide +kernel
theorem aL_11 : ax_L 11 = 2 := by decide +kernel
theorem aL_12 : ax_L 12 = 3 := by decide +kernel
theorem aL_13 : ax_L 13 = 2 := by decide +kernel
theorem aL_14 : ax_L 14 = 5 := by decide +kernel
theorem aL_16 : ax_L 16 = 4 := by decide +kernel
theorem aL_17 : ax_L 17 = 1 := by decide +kernel
theorem aL_18 : ax_L 18 = 6 := by decide +kernel
theorem aL_19 : ax_L 19 = 4 := by decide +kernel
theorem aL_20 : ax_L 20 = 6 := by decide +kernel
theorem aL_21 : ax_L 21 = 4 := by decide +kernel
theorem aL_22 : ax_L 22 = 6 := by decide +kernel
theorem aL_23 : ax_L 23 = 7 := by decide +kernel
theorem aL_24 : ax_L 24 = 8 := by decide +kernel
theorem aL_25 : ax_L 25 = 1 := by decide +kernel
theorem aL_26 : ax_L 26 = 5 := by decide +kernel
theorem aL_27 : ax_L 27 = 11 := by decide +kernel
theorem aL_28 : ax_L 28 = 2 := by decide +kernel
theorem aL_29 : ax_L 29 = 1 := by decide +kernel
theorem aL_30 : ax_L 30 = 6 := by decide +kernel
theorem aL_31 : ax_L 31 = 6 := by decide +kernel
theorem aL_32 : ax_L 32 = 3 := by decide +kernel
theorem aL_33 : ax_L 33 = 7 := by decide +kernel
theorem aL_34 : ax_L 34 = 9 := by decide +kernel
theorem aL_35 : ax_L 35 = 7 := by decide +kernel
theorem aL_37 : ax_L 37 = 11 := by decide +kernel
theorem aL_39 : ax_L 39 = 2 := by decide +kernel
theorem aL_40 : ax_L 40 = 4 := by decide +kernel
theorem aL_41 : ax_L 41 = 4 := by decide +kernel
theorem aL_42 : ax_L 42 = 6 := by decide +kernel
theorem aL_43 : ax_L 43 = 6 := by decide +kernel
theorem aL_44 : ax_L 44 = 4 := by decide +kernel
theorem aL_45 : ax_L 45 = 6 := by decide +kernel
theorem aL_46 : ax_L 46 = 7 := by decide +kernel
theorem aL_47 : ax_L 47 = 5 := by decide +kernel
theorem aL_48 : ax_L 48 = 4 := by decide +kernel
theorem aL_49 : ax_L 49 = 4 := by decide +kernel
theorem aL_50 : ax_L 50 = 2 := by decide +kernel
theorem aL_51 : ax_L 51 = 2 := by decide +kernel
theorem aL_52 : ax_L 52 = 5 := by decide +kernel
theorem aL_53 : ax_L 53 = 4 := by decide +kernel
theorem aL_54 : ax_L 54 = 5 := by decide +kernel
theorem aL_55 : ax_L 55 = 3 := by decide +kernel
theorem aL_56 : ax_L 56 = 4 := by decide +kernel
theorem aL_57 : ax_L 57 = 13 := by decide +kernel
theorem aL_58 : ax_L 58 = 5 := by decide +kernel
theorem aL_59 : ax_L 59 = 4 := by decide +kernel
theorem aL_60 : ax_L 60 = 3 := by decide +kernel
theorem aL_61 : ax_L 61 = 1 := by decide +kernel
theorem aL_62 : ax_L 62 = 1 := by decide +kernel
theorem aL_63 : ax_L 63 = 3 := by decide +kernel
theorem aL_64 : ax_L 64 = 4 := by decide +kernel
theorem aL_65 : ax_L 65 = 8 := by decide +kernel
theorem aL_66 : ax_L 66 = 8 := by decide +kernel
theorem aL_67 : ax_L 67 = 8 := by decide +kernel
theorem aL_68 : ax_L 68 = 6 := by decide +kernel
theorem aL_69 : ax_L 69 = 3 := by decide +kernel
theorem aL_70 : ax_L 70 = 7 := by decide +kernel
theorem aL_71 : ax_L 71 = 4 := by decide +kernel
theorem aL_73 : ax_L 73 = 5 := by decide +kernel
theorem aL_74 : ax_L 74 = 4 := by decide +kernel
theorem aL_75 : ax_L 75 = 2 := by decide +kernel
theorem aL_76 : ax_L 76 = 2 := by decide +kernel
theorem aL_77 : ax_L 77 = 2 := by decide +kernel
theorem aL_78 : ax_L 78 = 6 := by decide +kernel
theorem aL_79 : ax_L 79 = 10 := by decide +kernel
theorem aL_80 : ax_L 80 = 2 := by decide +kernel
theorem aL_81 : ax_L 81 = 7 := by decide +kernel
theorem aL_82 : ax_L 82 = 5 := by decide +kernel
theorem aL_83 : ax_L 83 = 2 := by decide +kernel
theorem aL_84 : ax_L 84 = 11 := by decide +kernel
theorem aL_86 : ax_L 86 = 3 := by decide +kernel
theorem aL_87 : ax_L 87 = 2 := by decide +kernel
theorem aL_88 : ax_L 88 = 3 := by decide +kernel
theorem aL_89 : ax_L 89 = 4 := by decide +kernel
theorem aL_90 : ax_L 90 = 3 := by decide +kernel
theorem aL_91 : ax_L 91 = 4 := by decide +kernel
theorem aL_92 : ax_L 92 = 5 := by decide +kernel
theorem aL_93 : ax_L 93 = 1 := by decide +kernel
theorem aL_94 : ax_L 94 = 2 := by decide +kernel
theorem aL_95 : ax_L 95 = 3 := by decide +kernel
theorem aL_96 : ax_L 96 = 3 := by decide +kernel
theorem aL_97 : ax_L 97 = 4 := by decide +kernel
theorem aL_98 : ax_L 98 = 3 := by decide +kernel
theorem aL_99 : ax_L 99 = 8 := by decide +kernel
theorem aL_100 : ax_L 100 = 5 := by decide +kernel
theorem aL_101 : ax_L 101 = 6 := by decide +kernel
theorem aL_102 : ax_L 102 = 1 := by decide +kernel
theorem aL_103 : ax_L 103 = 8 := by decide +kernel
theorem aL_104 : ax_L 104 = 5 := by decide +kernel
theorem aL_105 : ax_L 105 = 6 := by decide +kernel
theorem aL_106 : ax_L 106 = 11 := by decide +kernel
theorem aL_107 : ax_L 107 = 13 := by decide +kernel
theorem aL_108 : ax_L 108 = 3 := by decide +kernel
theorem aL_109 : ax_L 109 = 6 := by decide +kernel
theorem aL_110 : ax_L 110 = 7 := by decide +kernel
theorem aL_111 : ax_L 111 = 4 := by decide +kernel
theorem aL_112 : ax_L 112 = 15 := by decide +kernel
theorem rt_8 : ax_ret 8 = some .int := by decide +kernel
theorem rt_9 : ax_ret 9 = some .boolean := by decide +kernel
theorem rt_10 : ax_ret 10 = some .boolean := by decide +kernel
theorem rt_11 : ax_ret 11 = some .int := by decide +kernel
theorem rt_12 : ax_ret 12 = some .int := by decide +kernel
theorem rt_13 : ax_ret 13 = some .boolean := by decide +kernel
theorem rt_14 : ax_ret 14 = none := by decide +kernel
theorem rt_16 : ax_ret 16 = some .int := by decide +kernel
theorem rt_17 : ax_ret 17 = some .boolean := by decide +kernel
theorem rt_18 : ax_ret 18 = some .int := by decide +kernel
theorem rt_19 : ax_ret 19 = some .int := by decide +kernel
theorem rt_20 : ax_ret 20 = some .int := by decide +kernel
theorem rt_21 : ax_ret 21 = some .int := by decide +kernel
theorem rt_22 : ax_ret 22 = some .int := by decide +kernel
theorem rt_23 : ax_ret 23 = some .int := by decide +kernel
theorem rt_24 : ax_ret 24 = some .long := by decide +kernel
theorem rt_25 : ax_ret 25 = some .boolean := by decide +kernel
theorem rt_26 : ax_ret 26 = none := by decide +kernel
theorem rt_27 : ax_ret 27 = none := by decide +kernel
theorem rt_28 : ax_ret 28 = some (.object "VeiledTable$Stage") := by decide +kernel
theorem rt_29 : ax_ret 29 = some .boolean := by decide +kernel
theorem rt_30 : ax_ret 30 = some .int := by decide +kernel
theorem rt_31 : ax_ret 31 = some .int := by decide +kernel
theorem rt_32 : ax_ret 32 = some .int := by decide +kernel
theorem rt_33 : ax_ret 33 = some .int := by decide +kernel
theorem rt_34 : ax_ret 34 = some .int := by decide +kernel
theorem rt_35 : ax_ret 35 = some .long := by decide +kernel
theorem rt_37 : ax_ret 37 = some .long := by decide +kernel
theorem rt_39 : ax_ret 39 = some .int := by decide +kernel
theorem rt_40 : ax_ret 40 = none := by decide +kernel
theorem rt_41 : ax_ret 41 = some .boolean := by decide +kernel
theorem rt_42 : ax_ret 42 = none := by decide +kernel
theorem rt_43 : ax_ret 43 = none := by decide +kernel
theorem rt_44 : ax_ret 44 = some .int := by decide +kernel
theorem rt_45 : ax_ret 45 = some .int := by decide +kernel
theorem rt_46 : ax_ret 46 = some .boolean := by decide +kernel
theorem rt_47 : ax_ret 47 = some .long := by decide +kernel
theorem rt_48 : ax_ret 48 = some .int := by decide +kernel
theorem rt_49 : ax_ret 49 = some .int := by decide +kernel
theorem rt_50 : ax_ret 50 = some (.object "VeiledTable$Test") := by decide +kernel
theorem rt_51 : ax_ret 51 = some (.object "VeiledTable$Amount") := by decide +kernel
theorem rt_52 : ax_ret 52 = some .boolean := by decide +kernel
theorem rt_53 : ax_ret 53 = some .boolean := by decide +kernel
theorem rt_54 : ax_ret 54 = some .int := by decide +kernel
theorem rt_55 : ax_ret 55 = some .int := by decide +kernel
theorem rt_56 : ax_ret 56 = some .boolean := by decide +kernel
theorem rt_57 : ax_ret 57 = some .long := by decide +kernel
theorem rt_58 : ax_ret 58 = some .int := by decide +kernel
theorem rt_59 : ax_ret 59 = some .int := by decide +kernel
theorem rt_60 : ax_ret 60 = some .boolean := by decide +kernel
theorem rt_61 : ax_ret 61 = some .boolean := by decide +kernel
theorem rt_62 : ax_ret 62 = some .boolean := by decide +kernel
theorem rt_63 : ax_ret 63 = some .long := by decide +kernel
theorem rt_64 : ax_ret 64 = some .boolean := by decide +kernel
theorem rt_65 : ax_ret 65 = some .int := by decide +kernel
theorem rt_66 : ax_ret 66 = none := by decide +kernel
theorem rt_67 : ax_ret 67 = some .long := by decide +kernel
theorem rt_68 : ax_ret 68 = some .int := by decide +kernel
theorem rt_69 : ax_ret 69 = some .int := by decide +kernel
theorem rt_70 : ax_ret 70 = some .boolean := by decide +kernel
theorem rt_71 : ax_ret 71 = some .boolean := by decide +kernel
theorem rt_73 : ax_ret 73 = some .int := by decide +kernel
theorem rt_74 : ax_ret 74 = some .int := by decide +kernel
theorem rt_75 : ax_ret 75 = some .int := by decide +kernel
theorem rt_76 : ax_ret 76 = some .int := by decide +kernel
theorem rt_77 : ax_ret 77 = some .long := by decide +kernel
theorem rt_78 : ax_ret 78 = some (.array (.array .int)) := by decide +kernel
theorem rt_79 : ax_ret 79 = some .int := by decide +kernel
theorem rt_80 : ax_ret 80 = some .boolean := by decide +kernel
theorem rt_81 : ax_ret 81 = some .int := by decide +kernel
theorem rt_82 : ax_ret 82 = some (.array .int) := by decide +kernel
theorem rt_83 : ax_ret 83 = some .int := by decide +kernel
theorem rt_84 : ax_ret 84 = some (.object "VeiledTableLaw$Own") := by decide +kernel
theorem rt_86 : ax_ret 86 = some .int := by decide +kernel
theorem rt_87 : ax_ret 87 = none := by decide +kernel
theorem rt_88 : ax_ret 88 = none := by decide +kernel
theorem rt_89 : ax_ret 89 = some .int := by decide +kernel
theorem rt_90 : ax_ret 90 = some .int := by decide +kernel
theorem rt_91 : ax_ret 91 = some .int := by decide +kernel
theorem rt_92 : ax_ret 92 = some .boolean := by decide +kernel
theorem rt_93 : ax_ret 93 = some .boolean := by decide +kernel
theorem rt_94 : ax_ret 94 = some .boolean := by decide +kernel
theorem rt_95 : ax_ret 95 = some .int := by decide +kernel
theorem rt_96 : ax_ret 96 = some .boolean := by decide +kernel
theorem rt_97 : ax_ret 97 = none := by decide +kernel
theorem rt_98 : ax_ret 98 = none := by decide +kernel
theorem rt_99 : ax_ret 99 = none := by decide +kernel
theorem rt_100 : ax_ret 100 = some .int := by decide +kernel
theorem rt_101 : ax_ret 101 = none := by decide +kernel
theorem rt_102 : ax_ret 102 = some .boolean := by decide +kernel
theorem rt_103 : ax_ret 103 = some .int := by decide +kernel
theorem rt_104 : ax_ret 104 = none := by decide +kernel
theorem rt_105 : ax_ret 105 = none := by decide +kernel
theorem rt_106 : ax_ret 106 = some .boolean := by decide +kernel
theorem rt_107 : ax_ret 107 = some (.array (.array .int)) := by decide +kernel
theorem rt_108 : ax_ret 108 = some .boolean := by decide +kernel
theorem rt_109 : ax_ret 109 = some .boolean := by decide +kernel
theorem rt_110 : ax_ret 110 = some .int := by decide +kernel
theorem rt_111 : ax_ret 111 = some .boolean := by decide +kernel
theorem rt_112 : ax_ret 112 = some .boolean := by decide +kernel
theorem ld_3_132 : ax_ldc 3 132 = some (.long (lN 63)) := by decide +kernel
theorem ld_10_167 : ax_ldc 10 167 = some (.long (-lN 4611686018427387906)) := by decide +kernel
theorem ld_10_195 : ax_ldc 10 195 = some (.long (-lN 4611686018427387905)) := by decide +kernel
theorem ld_10_244 : ax_ldc 10 244 = some (.int (nI 1103515245)) := by decide +kernel
theorem ld_10_297 : ax_ldc 10 297 = some (.long (-lN 4611686018427387909)) := by decide +kernel
theorem ld_10_387 : ax_ldc 10 387 = some (.long (lN 9223372036854775807)) := by decide +kernel
theorem ld_10_389 : ax_ldc 10 389 = some (.long (-lN 9223372036854775808)) := by decide +kernel
theorem ld_18_7 : ax_ldc 18 7 = some (.int (nI 2147483647)) := by decide +kernel
theorem ld_18_81 : ax_ldc 18 81 = some (.int (nI 1103515245)) := by decide +kernel
theorem ld_18_160 : ax_ldc 18 160 = some (.long (-lN 4611686018427387905)) := by decide +kernel
theorem ld_18_162 : ax_ldc 18 162 = some (.double 4607182409792818153) := by decide +kernel
theorem ld_18_164 : ax_ldc 18 164 = some (.double 4607182423303617035) := by decide +kernel
theorem ld_18_169 : ax_ldc 18 169 = some (.long (-lN 4611686018427387909)) := by decide +kernel
theorem ld_18_174 : ax_ldc 18 174 = some (.double 4517329193108106637) := by decide +kernel
theorem sg_7_115 : ax_sta 7 115 = some (.ref 4) := by decide +kernel
theorem sg_7_118 : ax_sta 7 118 = some (.ref 5) := by decide +kernel
theorem sg_10_102 : ax_sta 10 102 = some (.ref 8) := by decide +kernel
theorem sg_12_3 : ax_sta 12 3 = some (.ref 0) := by decide +kernel
theorem sg_12_7 : ax_sta 12 7 = some (.ref 1) := by decide +kernel
theorem sg_12_10 : ax_sta 12 10 = some (.ref 2) := by decide +kernel
theorem sg_12_13 : ax_sta 12 13 = some (.ref 3) := by decide +kernel
theorem sg_12_22 : ax_sta 12 22 = some (.ref 6) := by decide +kernel
theorem sg_12_25 : ax_sta 12 25 = some (.ref 7) := by decide +kernel
theorem ca_0_3 : ax_cal 0 3 = some (4, 0, 0) := by decide +kernel
theorem ca_0_28 : ax_cal 0 28 = some (0, 55, 1) := by decide +kernel
theorem ca_1_52 : ax_cal 1 52 = some (0, 88, 1) := by decide +kernel
theorem ca_1_66 : ax_cal 1 66 = some (0, 28, 1) := by decide +kernel
theorem ca_1_70 : ax_cal 1 70 = some (0, 31, 3) := by decide +kernel
theorem ca_1_79 : ax_cal 1 79 = some (0, 50, 1) := by decide +kernel
theorem ca_1_83 : ax_cal 1 83 = some (0, 51, 1) := by decide +kernel
theorem ca_1_87 : ax_cal 1 87 = some (0, 52, 1) := by decide +kernel
theorem ca_1_91 : ax_cal 1 91 = some (0, 54, 1) := by decide +kernel
theorem ca_1_95 : ax_cal 1 95 = some (0, 49, 1) := by decide +kernel
theorem ca_2_22 : ax_cal 2 22 = some (1, 32, 3) := by decide +kernel
theorem ca_3_41 : ax_cal 3 41 = some (0, 27, 3) := by decide +kernel
theorem ca_3_51 : ax_cal 3 51 = some (0, 28, 1) := by decide +kernel
theorem ca_3_66 : ax_cal 3 66 = some (0, 29, 0) := by decide +kernel
theorem ca_3_75 : ax_cal 3 75 = some (0, 21, 3) := by decide +kernel
theorem ca_3_79 : ax_cal 3 79 = some (0, 30, 3) := by decide +kernel
theorem ca_3_88 : ax_cal 3 88 = some (0, 26, 3) := by decide +kernel
theorem ca_3_91 : ax_cal 3 91 = some (0, 14, 2) := by decide +kernel
theorem ca_3_95 : ax_cal 3 95 = some (0, 48, 1) := by decide +kernel
theorem ca_3_99 : ax_cal 3 99 = some (0, 66, 3) := by decide +kernel
theorem ca_3_103 : ax_cal 3 103 = some (0, 69, 0) := by decide +kernel
theorem ca_3_107 : ax_cal 3 107 = some (0, 71, 2) := by decide +kernel
theorem ca_3_111 : ax_cal 3 111 = some (0, 41, 2) := by decide +kernel
theorem ca_3_115 : ax_cal 3 115 = some (0, 67, 3) := by decide +kernel
theorem ca_3_119 : ax_cal 3 119 = some (0, 18, 2) := by decide +kernel
theorem ca_3_123 : ax_cal 3 123 = some (0, 68, 2) := by decide +kernel
theorem ca_3_128 : ax_cal 3 128 = some (0, 70, 1) := by decide +kernel
theorem ca_3_135 : ax_cal 3 135 = some (6, 72, 2) := by decide +kernel
theorem ca_4_36 : ax_cal 4 36 = some (0, 41, 2) := by decide +kernel
theorem ca_4_40 : ax_cal 4 40 = some (0, 42, 3) := by decide +kernel
theorem ca_4_47 : ax_cal 4 47 = some (0, 21, 3) := by decide +kernel
theorem ca_4_51 : ax_cal 4 51 = some (0, 43, 1) := by decide +kernel
theorem ca_6_1 : ax_cal 6 1 = some (4, 0, 0) := by decide +kernel
theorem ca_7_53 : ax_cal 7 53 = some (0, 62, 0) := by decide +kernel
theorem ca_7_59 : ax_cal 7 59 = some (0, 95, 0) := by decide +kernel
theorem ca_7_63 : ax_cal 7 63 = some (0, 96, 1) := by decide +kernel
theorem ca_7_67 : ax_cal 7 67 = some (0, 28, 1) := by decide +kernel
theorem ca_7_75 : ax_cal 7 75 = some (0, 61, 0) := by decide +kernel
theorem ca_7_78 : ax_cal 7 78 = some (0, 29, 0) := by decide +kernel
theorem ca_7_84 : ax_cal 7 84 = some (0, 93, 0) := by decide +kernel
theorem ca_7_87 : ax_cal 7 87 = some (0, 94, 1) := by decide +kernel
theorem ca_7_94 : ax_cal 7 94 = some (5, 15, 2) := by decide +kernel
theorem ca_7_100 : ax_cal 7 100 = some (0, 99, 2) := by decide +kernel
theorem ca_7_104 : ax_cal 7 104 = some (0, 101, 2) := by decide +kernel
theorem ca_7_108 : ax_cal 7 108 = some (0, 100, 2) := by decide +kernel
theorem ca_7_111 : ax_cal 7 111 = some (0, 14, 2) := by decide +kernel
theorem ca_7_121 : ax_cal 7 121 = some (0, 102, 0) := by decide +kernel
theorem ca_7_124 : ax_cal 7 124 = some (0, 18, 2) := by decide +kernel
theorem ca_7_127 : ax_cal 7 127 = some (0, 21, 3) := by decide +kernel
theorem ca_7_131 : ax_cal 7 131 = some (0, 60, 1) := by decide +kernel
theorem ca_9_3 : ax_cal 9 3 = some (4, 0, 0) := by decide +kernel
theorem ca_9_25 : ax_cal 9 25 = some (0, 53, 1) := by decide +kernel
theorem ca_10_87 : ax_cal 10 87 = some (0, 87, 1) := by decide +kernel
theorem ca_10_94 : ax_cal 10 94 = some (1, 92, 3) := by decide +kernel
theorem ca_10_98 : ax_cal 10 98 = some (0, 93, 0) := by decide +kernel
theorem ca_10_106 : ax_cal 10 106 = some (0, 94, 1) := by decide +kernel
theorem ca_10_110 : ax_cal 10 110 = some (2, 97, 3) := by decide +kernel
theorem ca_10_113 : ax_cal 10 113 = some (0, 98, 1) := by decide +kernel
theorem ca_10_143 : ax_cal 10 143 = some (0, 9, 2) := by decide +kernel
theorem ca_10_147 : ax_cal 10 147 = some (0, 10, 1) := by decide +kernel
theorem ca_10_154 : ax_cal 10 154 = some (0, 13, 1) := by decide +kernel
theorem ca_10_157 : ax_cal 10 157 = some (0, 14, 2) := by decide +kernel
theorem ca_10_164 : ax_cal 10 164 = some (1, 25, 1) := by decide +kernel
theorem ca_10_169 : ax_cal 10 169 = some (0, 59, 1) := by decide +kernel
theorem ca_10_173 : ax_cal 10 173 = some (1, 17, 1) := by decide +kernel
theorem ca_10_176 : ax_cal 10 176 = some (0, 18, 2) := by decide +kernel
theorem ca_10_180 : ax_cal 10 180 = some (0, 20, 3) := by decide +kernel
theorem ca_10_184 : ax_cal 10 184 = some (0, 23, 4) := by decide +kernel
theorem ca_10_188 : ax_cal 10 188 = some (0, 26, 3) := by decide +kernel
theorem ca_10_192 : ax_cal 10 192 = some (0, 33, 4) := by decide +kernel
theorem ca_10_197 : ax_cal 10 197 = some (0, 34, 6) := by decide +kernel
theorem ca_10_201 : ax_cal 10 201 = some (1, 35, 3) := by decide +kernel
theorem ca_10_205 : ax_cal 10 205 = some (0, 40, 2) := by decide +kernel
theorem ca_10_221 : ax_cal 10 221 = some (0, 30, 3) := by decide +kernel
theorem ca_10_228 : ax_cal 10 228 = some (0, 41, 2) := by decide +kernel
theorem ca_10_238 : ax_cal 10 238 = some (0, 46, 4) := by decide +kernel
theorem ca_10_245 : ax_cal 10 245 = some (5, 15, 2) := by decide +kernel
theorem ca_10_260 : ax_cal 10 260 = some (0, 50, 1) := by decide +kernel
theorem ca_10_264 : ax_cal 10 264 = some (2, 104, 4) := by decide +kernel
theorem ca_10_270 : ax_cal 10 270 = some (0, 51, 1) := by decide +kernel
theorem ca_10_274 : ax_cal 10 274 = some (2, 105, 5) := by decide +kernel
theorem ca_10_286 : ax_cal 10 286 = some (0, 48, 1) := by decide +kernel
theorem ca_10_293 : ax_cal 10 293 = some (1, 56, 2) := by decide +kernel
theorem ca_10_299 : ax_cal 10 299 = some (0, 58, 2) := by decide +kernel
theorem ca_10_303 : ax_cal 10 303 = some (1, 37, 2) := by decide +kernel
theorem ca_10_307 : ax_cal 10 307 = some (0, 64, 1) := by decide +kernel
theorem ca_10_310 : ax_cal 10 310 = some (0, 65, 3) := by decide +kernel
theorem ca_10_314 : ax_cal 10 314 = some (0, 74, 1) := by decide +kernel
theorem ca_10_317 : ax_cal 10 317 = some (0, 75, 1) := by decide +kernel
theorem ca_10_378 : ax_cal 10 378 = some (0, 31, 3) := by decide +kernel
theorem ca_10_381 : ax_cal 10 381 = some (7, 36, 1) := by decide +kernel
theorem ca_10_385 : ax_cal 10 385 = some (8, 38, 2) := by decide +kernel
theorem ca_11_39 : ax_cal 11 39 = some (0, 79, 6) := by decide +kernel
theorem ca_11_43 : ax_cal 11 43 = some (9, 0, 0) := by decide +kernel
theorem ca_11_47 : ax_cal 11 47 = some (10, 80, 2) := by decide +kernel
theorem ca_11_56 : ax_cal 11 56 = some (0, 82, 1) := by decide +kernel
theorem ca_11_63 : ax_cal 11 63 = some (0, 108, 2) := by decide +kernel
theorem ca_11_66 : ax_cal 11 66 = some (0, 81, 3) := by decide +kernel
theorem ca_11_74 : ax_cal 11 74 = some (0, 78, 1) := by decide +kernel
theorem ca_12_62 : ax_cal 12 62 = some (0, 62, 0) := by decide +kernel
theorem ca_18_23 : ax_cal 18 23 = some (1, 83, 2) := by decide +kernel
theorem ca_18_31 : ax_cal 18 31 = some (0, 86, 1) := by decide +kernel
theorem ca_18_41 : ax_cal 18 41 = some (0, 89, 2) := by decide +kernel
theorem ca_18_44 : ax_cal 18 44 = some (0, 90, 0) := by decide +kernel
theorem ca_18_48 : ax_cal 18 48 = some (0, 91, 3) := by decide +kernel
theorem ca_18_64 : ax_cal 18 64 = some (5, 15, 2) := by decide +kernel
theorem ca_18_67 : ax_cal 18 67 = some (0, 103, 7) := by decide +kernel
theorem ca_18_77 : ax_cal 18 77 = some (0, 107, 1) := by decide +kernel
theorem ca_18_82 : ax_cal 18 82 = some (0, 109, 4) := by decide +kernel
theorem ca_18_86 : ax_cal 18 86 = some (0, 110, 1) := by decide +kernel
theorem ca_18_96 : ax_cal 18 96 = some (0, 77, 1) := by decide +kernel
theorem ca_18_112 : ax_cal 18 112 = some (1, 106, 3) := by decide +kernel
theorem ca_18_116 : ax_cal 18 116 = some (0, 11, 1) := by decide +kernel
theorem ca_18_119 : ax_cal 18 119 = some (0, 8, 2) := by decide +kernel
theorem ca_18_121 : ax_cal 18 121 = some (1, 80, 2) := by decide +kernel
theorem ca_18_125 : ax_cal 18 125 = some (0, 12, 2) := by decide +kernel
theorem ca_18_128 : ax_cal 18 128 = some (0, 16, 3) := by decide +kernel
theorem ca_18_131 : ax_cal 18 131 = some (0, 19, 3) := by decide +kernel
theorem ca_18_134 : ax_cal 18 134 = some (0, 47, 2) := by decide +kernel
theorem ca_18_138 : ax_cal 18 138 = some (0, 78, 1) := by decide +kernel
theorem ca_18_140 : ax_cal 18 140 = some (0, 81, 3) := by decide +kernel
theorem ca_18_143 : ax_cal 18 143 = some (0, 22, 4) := by decide +kernel
theorem ca_18_147 : ax_cal 18 147 = some (1, 111, 3) := by decide +kernel
theorem ca_18_151 : ax_cal 18 151 = some (0, 39, 1) := by decide +kernel
theorem ca_18_153 : ax_cal 18 153 = some (0, 44, 3) := by decide +kernel
theorem ca_18_156 : ax_cal 18 156 = some (0, 24, 6) := by decide +kernel
theorem ca_18_166 : ax_cal 18 166 = some (0, 63, 2) := by decide +kernel
theorem ca_18_171 : ax_cal 18 171 = some (0, 57, 2) := by decide +kernel
theorem ca_18_176 : ax_cal 18 176 = some (0, 76, 0) := by decide +kernel
theorem ca_18_179 : ax_cal 18 179 = some (0, 73, 1) := by decide +kernel
theorem ca_18_182 : ax_cal 18 182 = some (0, 45, 4) := by decide +kernel
theorem nw_10_44 : ax_new 10 44 = some 6 := by decide +kernel
theorem nw_10_67 : ax_new 10 67 = some 0 := by decide +kernel
theorem nw_10_251 : ax_new 10 251 = some 9 := by decide +kernel
theorem nw_11_31 : ax_new 11 31 = some 17 := by decide +kernel
section R51
variable {d m pc : Nat} {ls st : List Value} {h : AH} {R : Option Value × AH}
theorem ty_8 (h : AH) : ax_ty h 8 = (42, 8) := rfl
theorem ty_64 (h : AH) : ax_ty h 64 = (10, 13) := rfl
theorem ty_65 (h : AH) : ax_ty h 65 = (1, 8) := rfl
theorem ty_66 (h : AH) : ax_ty h 66 = (7, 9) := rfl
theorem ty_67 (h : AH) : ax_ty h 67 = (20, 5) := rfl
theorem ty_68 (h : AH) : ax_ty h 68 = (36, 6) := rfl
theorem ty_69 (h : AH) : ax_ty h 69 = (20, 6) := rfl
theorem ty_70 (h : AH) : ax_ty h 70 = (20, 7) := rfl
theorem ty_71 (h : AH) : ax_ty h 71 = (24, 7) := rfl
theorem ty_79 (h : AH) : ax_ty h 79 = (24, 6) := rfl
theorem ty_86 (h : AH) : ax_ty h 86 = (20, 6) := rfl
theorem ty_87 (h : AH) : ax_ty h 87 = (2, 3) := rfl
theorem ty_88 (h : AH) : ax_ty h 88 = (20, 40) := rfl
theorem ty_89 (h : AH) : ax_ty h 89 = (20, 40) := rfl
theorem ty_90 (h : AH) : ax_ty h 90 = (39, 8) := rfl
theorem ty_91 (h : AH) : ax_ty h 91 = (30, 8) := rfl
theorem ty_92 (h : AH) : ax_ty h 92 = (20, 8) := rfl
theorem ty_93 (h : AH) : ax_ty h 93 = (20, 8) := rfl
theorem ty_123 (h : AH) : ax_ty h 123 = (4, 6) := rfl
theorem ty_124 (h : AH) : ax_ty h 124 = (20, 806) := rfl
theorem ty_125 (h : AH) : ax_ty h 125 = (20, 806) := rfl
theorem ty_126 (h : AH) : ax_ty h 126 = (20, 806) := rfl
theorem ty_127 (h : AH) : ax_ty h 127 = (20, 1620) := rfl
theorem ty_129 (h : AH) : ax_ty h 129 = (3, 9) := rfl
theorem ty_132 (h : AH) : ax_ty h 132 = (21, 1620) := rfl
theorem ty_133 (h : AH) : ax_ty h 133 = (20, 1620) := rfl
theorem ty_134 (h : AH) : ax_ty h 134 = (20, 63) := rfl
theorem ty_135 (h : AH) : ax_ty h 135 = (20, 9) := rfl
theorem ty_153 (h : AH) : ax_ty h 153 = (11, 11) := rfl
theorem ty_154 (h : AH) : ax_ty h 154 = (20, 5) := rfl
theorem ty_155 (h : AH) : ax_ty h 155 = (20, 6) := rfl
theorem ty_156 (h : AH) : ax_ty h 156 = (20, 6) := rfl
theorem ty_157 (h : AH) : ax_ty h 157 = (20, 6) := rfl
theorem ty_158 (h : AH) : ax_ty h 158 = (24, 8) := rfl
theorem ty_167 (h : AH) : ax_ty h 167 = (24, 40) := rfl
theorem gf_0_32_66 (hd : decode (ax_code m) pc = .ok (.getfield 32, 3)) (ho : ax_own m = 0) : XX true d m pc ls (.ref 66 :: st) h R ↔ XX true d m (pc + 3) ls (.int (hI h 66 3) :: st) h R := xr_getfield (q := (7, 3)) (t := 0) hd ho fl_0_32 (by decide) (by decide +kernel) rfl rfl rfl
theorem gf_0_37_66 (hd : decode (ax_code m) pc = .ok (.getfield 37, 3)) (ho : ax_own m = 0) : XX true d m pc ls (.ref 66 :: st) h R ↔ XX true d m (pc + 3) ls (.ref 86 :: st) h R := xr_getfield (q := (7, 8)) (t := 2) hd ho fl_0_37 (by decide) (by decide +kernel) rfl rfl rfl
theorem gf_0_41_66 (hd : decode (ax_code m) pc = .ok (.getfield 41, 3)) (ho : ax_own m = 0) : XX true d m pc ls (.ref 66 :: st) h R ↔ XX true d m (pc + 3) ls (.int (hI h 66 0) :: st) h R := xr_getfield (q := (7, 0)) (t := 0) hd ho fl_0_41 (by decide) (by decide +kernel) rfl rfl rfl
theorem gf_0_44_66 (hd : decode (ax_code m) pc = .ok (.getfield 44, 3)) (ho : ax_own m = 0) : XX true d m pc ls (.ref 66 :: st) h R ↔ XX true d m (pc + 3) ls (.ref 67 :: st) h R := xr_getfield (q := (7, 1)) (t := 2) hd ho fl_0_44 (by decide) (by decide +kernel) rfl rfl rfl
theorem gf_1_12_65 (hd : decode (ax_code m) pc = .ok (.getfield 12, 3)) (ho : ax_own m = 1) : XX true d m pc ls (.ref 65 :: st) h R ↔ XX true d m (pc + 3) ls (.ref 66 :: st) h R := xr_getfield (q := (1, 0)) (t := 2) hd ho fl_1_12 (by decide) (by decide +kernel) rfl rfl rfl
theorem gf_1_21_65 (hd : decode (ax_code m) pc = .ok (.getfield 21, 3)) (ho : ax_own m = 1) : XX true d m pc ls (.ref 65 :: st) h R ↔ XX true d m (pc + 3) ls (.ref 87 :: st) h R := xr_getfield (q := (1, 1)) (t := 2) hd ho fl_1_21 (by decide) (by decide +kernel) rfl rfl rfl
theorem gf_1_27_65 (hd : decode (ax_code m) pc = .ok (.getfield 27, 3)) (ho : ax_own m = 1) : XX true d m pc ls (.ref 65 :: st) h R ↔ XX true d m (pc + 3) ls (.ref 90 :: st) h R := xr_getfield (q := (1, 2)) (t := 2) hd ho fl_1_27 (by decide) (by decide +kernel) rfl rfl rfl
theorem gf_1_33_65 (hd : decode (ax_code m) pc = .ok (.getfield 33, 3)) (ho : ax_own m = 1) : XX true d m pc ls (.ref 65 :: st) h R ↔ XX true d m (pc + 3) ls (.ref 91 :: st) h R := xr_getfield (q := (1, 3)) (t := 2) hd ho fl_1_33 (by decide) (by decide +kernel) rfl rfl rfl
theorem gf_1_37_65 (hd : decode (ax_code m) pc = .ok (.getfield 37, 3)) (ho : ax_own m = 1) : XX true d m pc ls (.ref 65 :: st) h R ↔ XX true d m (pc + 3) ls (.ref 92 :: st) h R := xr_getfield (q := (1, 4)) (t := 2) hd ho fl_1_37 (by decide) (by decide +kernel) rfl rfl rfl
theorem gf_1_41_65 (hd : decode (ax_code m) pc = .ok (.getfield 41, 3)) (ho : ax_own m = 1) : XX true d m pc ls (.ref 65 :: st) h R ↔ XX true d m (pc + 3) ls (.ref 93 :: st) h R := xr_getfield (q := (1, 5)) (t := 2) hd ho fl_1_41 (by decide) (by decide +kernel) rfl rfl rfl
theorem gf_1_44_65 (hd : decode (ax_code m) pc = .ok (.getfield 44, 3)) (ho : ax_own m = 1) : XX true d m pc ls (.ref 65 :: st) h R ↔ XX true d m (pc + 3) ls (.int (hI h 65 6) :: st) h R := xr_getfield (q := (1, 6)) (t := 0) hd ho fl_1_44 (by decide) (by decide +kernel) rfl rfl rfl
theorem gf_2_9_87 (hd : decode (ax_code m) pc = .ok (.getfield 9, 3)) (ho : ax_own m = 2) : XX true d m pc ls (.ref 87 :: st) h R ↔ XX true d m (pc + 3) ls (.ref 88 :: st) h R := xr_getfield (q := (2, 0)) (t := 2) hd ho fl_2_9 (by decide) (by decide +kernel) rfl rfl rfl
theorem gf_2_15_87 (hd : decode (ax_code m) pc = .ok (.getfield 15, 3)) (ho : ax_own m = 2) : XX true d m pc ls (.ref 87 :: st) h R ↔ XX true d m (pc + 3) ls (.ref 89 :: st) h R := xr_getfield (q := (2, 1)) (t := 2) hd ho fl_2_15 (by decide) (by decide +kernel) rfl rfl rfl
theorem gf_2_18_87 (hd : decode (ax_code m) pc = .ok (.getfield 18, 3)) (ho : ax_own m = 2) : XX true d m pc ls (.ref 87 :: st) h R ↔ XX true d m (pc + 3) ls (.int (hI h 87 2) :: st) h R := xr_getfield (q := (2, 2)) (t := 0) hd ho fl_2_18 (by decide) (by decide +kernel) rfl rfl rfl
theorem gf_3_18_129 (hd : decode (ax_code m) pc = .ok (.getfield 18, 3)) (ho : ax_own m = 3) : XX true d m pc ls (.ref 129 :: st) h R ↔ XX true d m (pc + 3) ls (.int (hI h 129 2) :: st) h R := xr_getfield (q := (3, 2)) (t := 0) hd ho fl_3_18 (by decide) (by decide +kernel) rfl rfl rfl
theorem gf_3_22_129 (hd : decode (ax_code m) pc = .ok (.getfield 22, 3)) (ho : ax_own m = 3) : XX true d m pc ls (.ref 129 :: st) h R ↔ XX true d m (pc + 3) ls (.ref 132 :: st) h R := xr_getfield (q := (3, 3)) (t := 2) hd ho fl_3_22 (by decide) (by decide +kernel) rfl rfl rfl
theorem gf_3_26_129 (hd : decode (ax_code m) pc = .ok (.getfield 26, 3)) (ho : ax_own m = 3) : XX true d m pc ls (.ref 129 :: st) h R ↔ XX true d m (pc + 3) ls (.ref 133 :: st) h R := xr_getfield (q := (3, 4)) (t := 2) hd ho fl_3_26 (by decide) (by decide +kernel) rfl rfl rfl
theorem gf_3_29_129 (hd : decode (ax_code m) pc = .ok (.getfield 29, 3)) (ho : ax_own m = 3) : XX true d m pc ls (.ref 129 :: st) h R ↔ XX true d m (pc + 3) ls (.int (hI h 129 5) :: st) h R := xr_getfield (q := (3, 5)) (t := 0) hd ho fl_3_29 (by decide) (by decide +kernel) rfl rfl rfl
theorem gf_3_32_129 (hd : decode (ax_code m) pc = .ok (.getfield 32, 3)) (ho : ax_own m = 3) : XX true d m pc ls (.ref 129 :: st) h R ↔ XX true d m (pc + 3) ls (.int (hI h 129 6) :: st) h R := xr_getfield (q := (3, 6)) (t := 0) hd ho fl_3_32 (by decide) (by decide +kernel) rfl rfl rfl
theorem gf_3_35_129 (hd : decode (ax_code m) pc = .ok (.getfield 35, 3)) (ho : ax_own m = 3) : XX true d m pc ls (.ref 129 :: st) h R ↔ XX true d m (pc + 3) ls (.ref 134 :: st) h R := xr_getfield (q := (3, 7)) (t := 2) hd ho fl_3_35 (by decide) (by decide +kernel) rfl rfl rfl
theorem gf_3_38_129 (hd : decode (ax_code m) pc = .ok (.getfield 38, 3)) (ho : ax_own m = 3) : XX true d m pc ls (.ref 129 :: st) h R ↔ XX true d m (pc + 3) ls (.ref 135 :: st) h R := xr_getfield (q := (3, 8)) (t := 2) hd ho fl_3_38 (by decide) (by decide +kernel) rfl rfl rfl
theorem gf_3_45_65 (hd : decode (ax_code m) pc = .ok (.getfield 45, 3)) (ho : ax_own m = 3) : XX true d m pc ls (.ref 65 :: st) h R ↔ XX true d m (pc + 3) ls (.ref 66 :: st) h R := xr_getfield (q := (1, 0)) (t := 2) hd ho fl_3_45 (by decide) (by decide +kernel) rfl rfl rfl
theorem gf_3_57_66 (hd : decode (ax_code m) pc = .ok (.getfield 57, 3)) (ho : ax_own m = 3) : XX true d m pc ls (.ref 66 :: st) h R ↔ XX true d m (pc + 3) ls (.ref 69 :: st) h R := xr_getfield (q := (7, 4)) (t := 2) hd ho fl_3_57 (by decide) (by decide +kernel) rfl rfl rfl
theorem gf_3_82_66 (hd : decode (ax_code m) pc = .ok (.getfield 82, 3)) (ho : ax_own m = 3) : XX true d m pc ls (.ref 66 :: st) h R ↔ XX true d m (pc + 3) ls (.ref 86 :: st) h R := xr_getfield (q := (7, 8)) (t := 2) hd ho fl_3_82 (by decide) (by decide +kernel) rfl rfl rfl
theorem gf_3_85_66 (hd : decode (ax_code m) pc = .ok (.getfield 85, 3)) (ho : ax_own m = 3) : XX true d m pc ls (.ref 66 :: st) h R ↔ XX true d m (pc + 3) ls (.int (hI h 66 3) :: st) h R := xr_getfield (q := (7, 3)) (t := 0) hd ho fl_3_85 (by decide) (by decide +kernel) rfl rfl rfl
theorem gf_3_134_123 (hd : decode (ax_code m) pc = .ok (.getfield 134, 3)) (ho : ax_own m = 3) : XX true d m pc ls (.ref 123 :: st) h R ↔ XX true d m (pc + 3) ls (.int (hI h 123 3) :: st) h R := xr_getfield (q := (4, 3)) (t := 0) hd ho fl_3_134 (by decide) (by decide +kernel) rfl rfl rfl
theorem gf_3_140_123 (hd : decode (ax_code m) pc = .ok (.getfield 140, 3)) (ho : ax_own m = 3) : XX true d m pc ls (.ref 123 :: st) h R ↔ XX true d m (pc + 3) ls (.ref 124 :: st) h R := xr_getfield (q := (4, 0)) (t := 2) hd ho fl_3_140 (by decide) (by decide +kernel) rfl rfl rfl
theorem gf_4_9_123 (hd : decode (ax_code m) pc = .ok (.getfield 9, 3)) (ho : ax_own m = 4) : XX true d m pc ls (.ref 123 :: st) h R ↔ XX true d m (pc + 3) ls (.ref 124 :: st) h R := xr_getfield (q := (4, 0)) (t := 2) hd ho fl_4_9 (by decide) (by decide +kernel) rfl rfl rfl
theorem gf_4_15_123 (hd : decode (ax_code m) pc = .ok (.getfield 15, 3)) (ho : ax_own m = 4) : XX true d m pc ls (.ref 123 :: st) h R ↔ XX true d m (pc + 3) ls (.ref 125 :: st) h R := xr_getfield (q := (4, 1)) (t := 2) hd ho fl_4_15 (by decide) (by decide +kernel) rfl rfl rfl
theorem gf_4_18_123 (hd : decode (ax_code m) pc = .ok (.getfield 18, 3)) (ho : ax_own m = 4) : XX true d m pc ls (.ref 123 :: st) h R ↔ XX true d m (pc + 3) ls (.ref 126 :: st) h R := xr_getfield (q := (4, 2)) (t := 2) hd ho fl_4_18 (by decide) (by decide +kernel) rfl rfl rfl
theorem gf_4_21_123 (hd : decode (ax_code m) pc = .ok (.getfield 21, 3)) (ho : ax_own m = 4) : XX true d m pc ls (.ref 123 :: st) h R ↔ XX true d m (pc + 3) ls (.int (hI h 123 3) :: st) h R := xr_getfield (q := (4, 3)) (t := 0) hd ho fl_4_21 (by decide) (by decide +kernel) rfl rfl rfl
theorem gf_4_25_123 (hd : decode (ax_code m) pc = .ok (.getfield 25, 3)) (ho : ax_own m = 4) : XX true d m pc ls (.ref 123 :: st) h R ↔ XX true d m (pc + 3) ls (.ref 127 :: st) h R := xr_getfield (q := (4, 4)) (t := 2) hd ho fl_4_25 (by decide) (by decide +kernel) rfl rfl rfl
theorem gf_4_31_66 (hd : decode (ax_code m) pc = .ok (.getfield 31, 3)) (ho : ax_own m = 4) : XX true d m pc ls (.ref 66 :: st) h R ↔ XX true d m (pc + 3) ls (.int (hI h 66 3) :: st) h R := xr_getfield (q := (7, 3)) (t := 0) hd ho fl_4_31 (by decide) (by decide +kernel) rfl rfl rfl
theorem gf_4_44_66 (hd : decode (ax_code m) pc = .ok (.getfield 44, 3)) (ho : ax_own m = 4) : XX true d m pc ls (.ref 66 :: st) h R ↔ XX true d m (pc + 3) ls (.ref 70 :: st) h R := xr_getfield (q := (7, 5)) (t := 2) hd ho fl_4_44 (by decide) (by decide +kernel) rfl rfl rfl
theorem gf_7_9_66 (hd : decode (ax_code m) pc = .ok (.getfield 9, 3)) (ho : ax_own m = 7) : XX true d m pc ls (.ref 66 :: st) h R ↔ XX true d m (pc + 3) ls (.int (hI h 66 0) :: st) h R := xr_getfield (q := (7, 0)) (t := 0) hd ho fl_7_9 (by decide) (by decide +kernel) rfl rfl rfl
theorem gf_7_15_66 (hd : decode (ax_code m) pc = .ok (.getfield 15, 3)) (ho : ax_own m = 7) : XX true d m pc ls (.ref 66 :: st) h R ↔ XX true d m (pc + 3) ls (.ref 67 :: st) h R := xr_getfield (q := (7, 1)) (t := 2) hd ho fl_7_15 (by decide) (by decide +kernel) rfl rfl rfl
theorem gf_7_21_66 (hd : decode (ax_code m) pc = .ok (.getfield 21, 3)) (ho : ax_own m = 7) : XX true d m pc ls (.ref 66 :: st) h R ↔ XX true d m (pc + 3) ls (.ref 68 :: st) h R := xr_getfield (q := (7, 2)) (t := 2) hd ho fl_7_21 (by decide) (by decide +kernel) rfl rfl rfl
theorem gf_7_25_66 (hd : decode (ax_code m) pc = .ok (.getfield 25, 3)) (ho : ax_own m = 7) : XX true d m pc ls (.ref 66 :: st) h R ↔ XX true d m (pc + 3) ls (.int (hI h 66 3) :: st) h R := xr_getfield (q := (7, 3)) (t := 0) hd ho fl_7_25 (by decide) (by decide +kernel) rfl rfl rfl
theorem gf_7_28_66 (hd : decode (ax_code m) pc = .ok (.getfield 28, 3)) (ho : ax_own m = 7) : XX true d m pc ls (.ref 66 :: st) h R ↔ XX true d m (pc + 3) ls (.ref 69 :: st) h R := xr_getfield (q := (7, 4)) (t := 2) hd ho fl_7_28 (by decide) (by decide +kernel) rfl rfl rfl
theorem gf_7_31_66 (hd : decode (ax_code m) pc = .ok (.getfield 31, 3)) (ho : ax_own m = 7) : XX true d m pc ls (.ref 66 :: st) h R ↔ XX true d m (pc + 3) ls (.ref 70 :: st) h R := xr_getfield (q := (7, 5)) (t := 2) hd ho fl_7_31 (by decide) (by decide +kernel) rfl rfl rfl
theorem gf_7_36_66 (hd : decode (ax_code m) pc = .ok (.getfield 36, 3)) (ho : ax_own m = 7) : XX true d m pc ls (.ref 66 :: st) h R ↔ XX true d m (pc + 3) ls (.ref 71 :: st) h R := xr_getfield (q := (7, 6)) (t := 2) hd ho fl_7_36 (by decide) (by decide +kernel) rfl rfl rfl
theorem gf_7_39_66 (hd : decode (ax_code m) pc = .ok (.getfield 39, 3)) (ho : ax_own m = 7) : XX true d m pc ls (.ref 66 :: st) h R ↔ XX true d m (pc + 3) ls (.ref 79 :: st) h R := xr_getfield (q := (7, 7)) (t := 2) hd ho fl_7_39 (by decide) (by decide +kernel) rfl rfl rfl
theorem gf_7_42_66 (hd : decode (ax_code m) pc = .ok (.getfield 42, 3)) (ho : ax_own m = 7) : XX true d m pc ls (.ref 66 :: st) h R ↔ XX true d m (pc + 3) ls (.ref 86 :: st) h R := xr_getfield (q := (7, 8)) (t := 2) hd ho fl_7_42 (by decide) (by decide +kernel) rfl rfl rfl
theorem gf_9_29_66 (hd : decode (ax_code m) pc = .ok (.getfield 29, 3)) (ho : ax_own m = 9) : XX true d m pc ls (.ref 66 :: st) h R ↔ XX true d m (pc + 3) ls (.int (hI h 66 3) :: st) h R := xr_getfield (q := (7, 3)) (t := 0) hd ho fl_9_29 (by decide) (by decide +kernel) rfl rfl rfl
theorem gf_9_34_66 (hd : decode (ax_code m) pc = .ok (.getfield 34, 3)) (ho : ax_own m = 9) : XX true d m pc ls (.ref 66 :: st) h R ↔ XX true d m (pc + 3) ls (.ref 86 :: st) h R := xr_getfield (q := (7, 8)) (t := 2) hd ho fl_9_34 (by decide) (by decide +kernel) rfl rfl rfl
theorem gf_10_10_64 (hd : decode (ax_code m) pc = .ok (.getfield 10, 3)) (ho : ax_own m = 10) : XX true d m pc ls (.ref 64 :: st) h R ↔ XX true d m (pc + 3) ls (.ref 65 :: st) h R := xr_getfield (q := (10, 0)) (t := 2) hd ho fl_10_10 (by decide) (by decide +kernel) rfl rfl rfl
theorem gf_10_26_64 (hd : decode (ax_code m) pc = .ok (.getfield 26, 3)) (ho : ax_own m = 10) : XX true d m pc ls (.ref 64 :: st) h R ↔ XX true d m (pc + 3) ls (.ref 123 :: st) h R := xr_getfield (q := (10, 3)) (t := 2) hd ho fl_10_26 (by decide) (by decide +kernel) rfl rfl rfl
theorem gf_10_33_64 (hd : decode (ax_code m) pc = .ok (.getfield 33, 3)) (ho : ax_own m = 10) : XX true d m pc ls (.ref 64 :: st) h R ↔ XX true d m (pc + 3) ls (.ref 129 :: st) h R := xr_getfield (q := (10, 4)) (t := 2) hd ho fl_10_33 (by decide) (by decide +kernel) rfl rfl rfl
theorem gf_10_77_65 (hd : decode (ax_code m) pc = .ok (.getfield 77, 3)) (ho : ax_own m = 10) : XX true d m pc ls (.ref 65 :: st) h R ↔ XX true d m (pc + 3) ls (.ref 66 :: st) h R := xr_getfield (q := (1, 0)) (t := 2) hd ho fl_10_77 (by decide) (by decide +kernel) rfl rfl rfl
theorem gf_10_81_66 (hd : decode (ax_code m) pc = .ok (.getfield 81, 3)) (ho : ax_own m = 10) : XX true d m pc ls (.ref 66 :: st) h R ↔ XX true d m (pc + 3) ls (.int (hI h 66 0) :: st) h R := xr_getfield (q := (7, 0)) (t := 0) hd ho fl_10_81 (by decide) (by decide +kernel) rfl rfl rfl
theorem gf_10_91_66 (hd : decode (ax_code m) pc = .ok (.getfield 91, 3)) (ho : ax_own m = 10) : XX true d m pc ls (.ref 66 :: st) h R ↔ XX true d m (pc + 3) ls (.ref 67 :: st) h R := xr_getfield (q := (7, 1)) (t := 2) hd ho fl_10_91 (by decide) (by decide +kernel) rfl rfl rfl
theorem gf_10_117_66 (hd : decode (ax_code m) pc = .ok (.getfield 117, 3)) (ho : ax_own m = 10) : XX true d m pc ls (.ref 66 :: st) h R ↔ XX true d m (pc + 3) ls (.int (hI h 66 3) :: st) h R := xr_getfield (q := (7, 3)) (t := 0) hd ho fl_10_117 (by decide) (by decide +kernel) rfl rfl rfl
theorem gf_10_139_66 (hd : decode (ax_code m) pc = .ok (.getfield 139, 3)) (ho : ax_own m = 10) : XX true d m pc ls (.ref 66 :: st) h R ↔ XX true d m (pc + 3) ls (.ref 71 :: st) h R := xr_getfield (q := (7, 6)) (t := 2) hd ho fl_10_139 (by decide) (by decide +kernel) rfl rfl rfl
theorem gf_10_151_66 (hd : decode (ax_code m) pc = .ok (.getfield 151, 3)) (ho : ax_own m = 10) : XX true d m pc ls (.ref 66 :: st) h R ↔ XX true d m (pc + 3) ls (.ref 70 :: st) h R := xr_getfield (q := (7, 5)) (t := 2) hd ho fl_10_151 (by decide) (by decide +kernel) rfl rfl rfl
theorem gf_10_161_66 (hd : decode (ax_code m) pc = .ok (.getfield 161, 3)) (ho : ax_own m = 10) : XX true d m pc ls (.ref 66 :: st) h R ↔ XX true d m (pc + 3) ls (.ref 86 :: st) h R := xr_getfield (q := (7, 8)) (t := 2) hd ho fl_10_161 (by decide) (by decide +kernel) rfl rfl rfl
theorem gf_10_209_123 (hd : decode (ax_code m) pc = .ok (.getfield 209, 3)) (ho : ax_own m = 10) : XX true d m pc ls (.ref 123 :: st) h R ↔ XX true d m (pc + 3) ls (.int (hI h 123 3) :: st) h R := xr_getfield (q := (4, 3)) (t := 0) hd ho fl_10_209 (by decide) (by decide +kernel) rfl rfl rfl
theorem gf_10_212_123 (hd : decode (ax_code m) pc = .ok (.getfield 212, 3)) (ho : ax_own m = 10) : XX true d m pc ls (.ref 123 :: st) h R ↔ XX true d m (pc + 3) ls (.ref 124 :: st) h R := xr_getfield (q := (4, 0)) (t := 2) hd ho fl_10_212 (by decide) (by decide +kernel) rfl rfl rfl
theorem gf_10_215_123 (hd : decode (ax_code m) pc = .ok (.getfield 215, 3)) (ho : ax_own m = 10) : XX true d m pc ls (.ref 123 :: st) h R ↔ XX true d m (pc + 3) ls (.ref 125 :: st) h R := xr_getfield (q := (4, 1)) (t := 2) hd ho fl_10_215 (by decide) (by decide +kernel) rfl rfl rfl
theorem gf_10_218_123 (hd : decode (ax_code m) pc = .ok (.getfield 218, 3)) (ho : ax_own m = 10) : XX true d m pc ls (.ref 123 :: st) h R ↔ XX true d m (pc + 3) ls (.ref 126 :: st) h R := xr_getfield (q := (4, 2)) (t := 2) hd ho fl_10_218 (by decide) (by decide +kernel) rfl rfl rfl
theorem gf_10_231_66 (hd : decode (ax_code m) pc = .ok (.getfield 231, 3)) (ho : ax_own m = 10) : XX true d m pc ls (.ref 66 :: st) h R ↔ XX true d m (pc + 3) ls (.ref 69 :: st) h R := xr_getfield (q := (7, 4)) (t := 2) hd ho fl_10_231 (by decide) (by decide +kernel) rfl rfl rfl
theorem gf_10_234_65 (hd : decode (ax_code m) pc = .ok (.getfield 234, 3)) (ho : ax_own m = 10) : XX true d m pc ls (.ref 65 :: st) h R ↔ XX true d m (pc + 3) ls (.ref 87 :: st) h R := xr_getfield (q := (1, 1)) (t := 2) hd ho fl_10_234 (by decide) (by decide +kernel) rfl rfl rfl
theorem gf_10_250_87 (hd : decode (ax_code m) pc = .ok (.getfield 250, 3)) (ho : ax_own m = 10) : XX true d m pc ls (.ref 87 :: st) h R ↔ XX true d m (pc + 3) ls (.int (hI h 87 2) :: st) h R := xr_getfield (q := (2, 2)) (t := 0) hd ho fl_10_250 (by decide) (by decide +kernel) rfl rfl rfl
theorem gf_10_253_65 (hd : decode (ax_code m) pc = .ok (.getfield 253, 3)) (ho : ax_own m = 10) : XX true d m pc ls (.ref 65 :: st) h R ↔ XX true d m (pc + 3) ls (.int (hI h 65 6) :: st) h R := xr_getfield (q := (1, 6)) (t := 0) hd ho fl_10_253 (by decide) (by decide +kernel) rfl rfl rfl
theorem gf_10_256_65 (hd : decode (ax_code m) pc = .ok (.getfield 256, 3)) (ho : ax_own m = 10) : XX true d m pc ls (.ref 65 :: st) h R ↔ XX true d m (pc + 3) ls (.ref 90 :: st) h R := xr_getfield (q := (1, 2)) (t := 2) hd ho fl_10_256 (by decide) (by decide +kernel) rfl rfl rfl
theorem gf_10_267_65 (hd : decode (ax_code m) pc = .ok (.getfield 267, 3)) (ho : ax_own m = 10) : XX true d m pc ls (.ref 65 :: st) h R ↔ XX true d m (pc + 3) ls (.ref 91 :: st) h R := xr_getfield (q := (1, 3)) (t := 2) hd ho fl_10_267 (by decide) (by decide +kernel) rfl rfl rfl
theorem gf_10_277_65 (hd : decode (ax_code m) pc = .ok (.getfield 277, 3)) (ho : ax_own m = 10) : XX true d m pc ls (.ref 65 :: st) h R ↔ XX true d m (pc + 3) ls (.ref 92 :: st) h R := xr_getfield (q := (1, 4)) (t := 2) hd ho fl_10_277 (by decide) (by decide +kernel) rfl rfl rfl
theorem gf_10_280_65 (hd : decode (ax_code m) pc = .ok (.getfield 280, 3)) (ho : ax_own m = 10) : XX true d m pc ls (.ref 65 :: st) h R ↔ XX true d m (pc + 3) ls (.ref 93 :: st) h R := xr_getfield (q := (1, 5)) (t := 2) hd ho fl_10_280 (by decide) (by decide +kernel) rfl rfl rfl
theorem gf_10_289_65 (hd : decode (ax_code m) pc = .ok (.getfield 289, 3)) (ho : ax_own m = 10) : XX true d m pc ls (.ref 65 :: st) h R ↔ XX true d m (pc + 3) ls (.long (hL h 65 7) :: st) h R := xr_getfield (q := (1, 7)) (t := 1) hd ho fl_10_289 (by decide) (by decide +kernel) rfl rfl rfl
theorem gf_11_7_153 (hd : decode (ax_code m) pc = .ok (.getfield 7, 3)) (ho : ax_own m = 11) : XX true d m pc ls (.ref 153 :: st) h R ↔ XX true d m (pc + 3) ls (.int (hI h 153 0) :: st) h R := xr_getfield (q := (11, 0)) (t := 0) hd ho fl_11_7 (by decide) (by decide +kernel) rfl rfl rfl
theorem gf_11_17_153 (hd : decode (ax_code m) pc = .ok (.getfield 17, 3)) (ho : ax_own m = 11) : XX true d m pc ls (.ref 153 :: st) h R ↔ XX true d m (pc + 3) ls (.ref 155 :: st) h R := xr_getfield (q := (11, 4)) (t := 2) hd ho fl_11_17 (by decide) (by decide +kernel) rfl rfl rfl
theorem gf_11_20_153 (hd : decode (ax_code m) pc = .ok (.getfield 20, 3)) (ho : ax_own m = 11) : XX true d m pc ls (.ref 153 :: st) h R ↔ XX true d m (pc + 3) ls (.ref 156 :: st) h R := xr_getfield (q := (11, 5)) (t := 2) hd ho fl_11_20 (by decide) (by decide +kernel) rfl rfl rfl
theorem gf_11_23_153 (hd : decode (ax_code m) pc = .ok (.getfield 23, 3)) (ho : ax_own m = 11) : XX true d m pc ls (.ref 153 :: st) h R ↔ XX true d m (pc + 3) ls (.ref 157 :: st) h R := xr_getfield (q := (11, 6)) (t := 2) hd ho fl_11_23 (by decide) (by decide +kernel) rfl rfl rfl
theorem gf_11_32_153 (hd : decode (ax_code m) pc = .ok (.getfield 32, 3)) (ho : ax_own m = 11) : XX true d m pc ls (.ref 153 :: st) h R ↔ XX true d m (pc + 3) ls (.ref 167 :: st) h R := xr_getfield (q := (11, 8)) (t := 2) hd ho fl_11_32 (by decide) (by decide +kernel) rfl rfl rfl
theorem gf_11_53_153 (hd : decode (ax_code m) pc = .ok (.getfield 53, 3)) (ho : ax_own m = 11) : XX true d m pc ls (.ref 153 :: st) h R ↔ XX true d m (pc + 3) ls (.int (hI h 153 1) :: st) h R := xr_getfield (q := (11, 1)) (t := 0) hd ho fl_11_53 (by decide) (by decide +kernel) rfl rfl rfl
theorem gf_11_60_153 (hd : decode (ax_code m) pc = .ok (.getfield 60, 3)) (ho : ax_own m = 11) : XX true d m pc ls (.ref 153 :: st) h R ↔ XX true d m (pc + 3) ls (.int (hI h 153 9) :: st) h R := xr_getfield (q := (11, 9)) (t := 0) hd ho fl_11_60 (by decide) (by decide +kernel) rfl rfl rfl
theorem gf_18_27_153 (hd : decode (ax_code m) pc = .ok (.getfield 27, 3)) (ho : ax_own m = 18) : XX true d m pc ls (.ref 153 :: st) h R ↔ XX true d m (pc + 3) ls (.int (hI h 153 0) :: st) h R := xr_getfield (q := (11, 0)) (t := 0) hd ho fl_18_27 (by decide) (by decide +kernel) rfl rfl rfl
theorem gf_18_37_153 (hd : decode (ax_code m) pc = .ok (.getfield 37, 3)) (ho : ax_own m = 18) : XX true d m pc ls (.ref 153 :: st) h R ↔ XX true d m (pc + 3) ls (.ref 154 :: st) h R := xr_getfield (q := (11, 3)) (t := 2) hd ho fl_18_37 (by decide) (by decide +kernel) rfl rfl rfl
theorem gf_18_52_153 (hd : decode (ax_code m) pc = .ok (.getfield 52, 3)) (ho : ax_own m = 18) : XX true d m pc ls (.ref 153 :: st) h R ↔ XX true d m (pc + 3) ls (.int (hI h 153 1) :: st) h R := xr_getfield (q := (11, 1)) (t := 0) hd ho fl_18_52 (by decide) (by decide +kernel) rfl rfl rfl
theorem gf_18_55_153 (hd : decode (ax_code m) pc = .ok (.getfield 55, 3)) (ho : ax_own m = 18) : XX true d m pc ls (.ref 153 :: st) h R ↔ XX true d m (pc + 3) ls (.ref 155 :: st) h R := xr_getfield (q := (11, 4)) (t := 2) hd ho fl_18_55 (by decide) (by decide +kernel) rfl rfl rfl
theorem gf_18_58_153 (hd : decode (ax_code m) pc = .ok (.getfield 58, 3)) (ho : ax_own m = 18) : XX true d m pc ls (.ref 153 :: st) h R ↔ XX true d m (pc + 3) ls (.ref 156 :: st) h R := xr_getfield (q := (11, 5)) (t := 2) hd ho fl_18_58 (by decide) (by decide +kernel) rfl rfl rfl
theorem gf_18_61_153 (hd : decode (ax_code m) pc = .ok (.getfield 61, 3)) (ho : ax_own m = 18) : XX true d m pc ls (.ref 153 :: st) h R ↔ XX true d m (pc + 3) ls (.ref 157 :: st) h R := xr_getfield (q := (11, 6)) (t := 2) hd ho fl_18_61 (by decide) (by decide +kernel) rfl rfl rfl
theorem gf_18_71_153 (hd : decode (ax_code m) pc = .ok (.getfield 71, 3)) (ho : ax_own m = 18) : XX true d m pc ls (.ref 153 :: st) h R ↔ XX true d m (pc + 3) ls (.ref 158 :: st) h R := xr_getfield (q := (11, 7)) (t := 2) hd ho fl_18_71 (by decide) (by decide +kernel) rfl rfl rfl
theorem gf_18_74_153 (hd : decode (ax_code m) pc = .ok (.getfield 74, 3)) (ho : ax_own m = 18) : XX true d m pc ls (.ref 153 :: st) h R ↔ XX true d m (pc + 3) ls (.int (hI h 153 2) :: st) h R := xr_getfield (q := (11, 2)) (t := 0) hd ho fl_18_74 (by decide) (by decide +kernel) rfl rfl rfl
theorem pf_1_44_65 {v : Int32} (hd : decode (ax_code m) pc = .ok (.putfield 44, 3)) (ho : ax_own m = 1) : XX true d m pc ls (.int v :: .ref 65 :: st) h R ↔ XX true d m (pc + 3) ls st (ax_wr h 65 6 (.int v)) R := xr_putfield (q := (1, 6)) hd ho fl_1_44 rfl (by decide) rfl rfl (fun q => absurd q (by decide +kernel)) rfl (fun q => absurd q (by decide +kernel))
theorem pf_1_48_65 {v : Int64} (hd : decode (ax_code m) pc = .ok (.putfield 48, 3)) (ho : ax_own m = 1) : XX true d m pc ls (.long v :: .ref 65 :: st) h R ↔ XX true d m (pc + 3) ls st (ax_wr h 65 7 (.long v)) R := xr_putfield (q := (1, 7)) hd ho fl_1_48 rfl (by decide) rfl rfl (fun q => absurd q (by decide +kernel)) rfl (fun q => absurd q (by decide +kernel))
theorem pf_1_56_87 {v : Int32} (hd : decode (ax_code m) pc = .ok (.putfield 56, 3)) (ho : ax_own m = 1) : XX true d m pc ls (.int v :: .ref 87 :: st) h R ↔ XX true d m (pc + 3) ls st (ax_wr h 87 2 (.int v)) R := xr_putfield (q := (2, 2)) hd ho fl_1_56 rfl (by decide) rfl rfl (fun q => absurd q (by decide +kernel)) rfl (fun q => absurd q (by decide +kernel))
theorem pf_2_18_87 {v : Int32} (hd : decode (ax_code m) pc = .ok (.putfield 18, 3)) (ho : ax_own m = 2) : XX true d m pc ls (.int v :: .ref 87 :: st) h R ↔ XX true d m (pc + 3) ls st (ax_wr h 87 2 (.int v)) R := xr_putfield (q := (2, 2)) hd ho fl_2_18 rfl (by decide) rfl rfl (fun q => absurd q (by decide +kernel)) rfl (fun q => absurd q (by decide +kernel))
theorem pf_3_18_129 {v : Int32} (hd : decode (ax_code m) pc = .ok (.putfield 18, 3)) (ho : ax_own m = 3) : XX true d m pc ls (.int v :: .ref 129 :: st) h R ↔ XX true d m (pc + 3) ls st (ax_wr h 129 2 (.int v)) R := xr_putfield (q := (3, 2)) hd ho fl_3_18 rfl (by decide) rfl rfl (fun q => absurd q (by decide +kernel)) rfl (fun q => absurd q (by decide +kernel))
theorem pf_3_29_129 {v : Int32} (hd : decode (ax_code m) pc = .ok (.putfield 29, 3)) (ho : ax_own m = 3) : XX true d m pc ls (.int v :: .ref 129 :: st) h R ↔ XX true d m (pc + 3) ls st (ax_wr h 129 5 (.int v)) R := xr_putfield (q := (3, 5)) hd ho fl_3_29 rfl (by decide) rfl rfl (fun q => absurd q (by decide +kernel)) rfl (fun q => absurd q (by decide +kernel))
theorem pf_3_32_129 {v : Int32} (hd : decode (ax_code m) pc = .ok (.putfield 32, 3)) (ho : ax_own m = 3) : XX true d m pc ls (.int v :: .ref 129 :: st) h R ↔ XX true d m (pc + 3) ls st (ax_wr h 129 6 (.int v)) R := xr_putfield (q := (3, 6)) hd ho fl_3_32 rfl (by decide) rfl rfl (fun q => absurd q (by decide +kernel)) rfl (fun q => absurd q (by decide +kernel))
theorem pf_4_21_123 {v : Int32} (hd : decode (ax_code m) pc = .ok (.putfield 21, 3)) (ho : ax_own m = 4) : XX true d m pc ls (.int v :: .ref 123 :: st) h R ↔ XX true d m (pc + 3) ls st (ax_wr h 123 3 (.int v)) R := xr_putfield (q := (4, 3)) hd ho fl_4_21 rfl (by decide) rfl rfl (fun q => absurd q (by decide +kernel)) rfl (fun q => absurd q (by decide +kernel))
theorem pf_7_9_66 {v : Int32} (hd : decode (ax_code m) pc = .ok (.putfield 9, 3)) (ho : ax_own m = 7) : XX true d m pc ls (.int v :: .ref 66 :: st) h R ↔ XX true d m (pc + 3) ls st (ax_wr h 66 0 (.int v)) R := xr_putfield (q := (7, 0)) hd ho fl_7_9 rfl (by decide) rfl rfl (fun q => absurd q (by decide +kernel)) rfl (fun q => absurd q (by decide +kernel))
theorem pf_7_25_66 {v : Int32} (hd : decode (ax_code m) pc = .ok (.putfield 25, 3)) (ho : ax_own m = 7) : XX true d m pc ls (.int v :: .ref 66 :: st) h R ↔ XX true d m (pc + 3) ls st (ax_wr h 66 3 (.int v)) R := xr_putfield (q := (7, 3)) hd ho fl_7_25 rfl (by decide) rfl rfl (fun q => absurd q (by decide +kernel)) rfl (fun q => absurd q (by decide +kernel))
theorem pf_10_253_65 {v : Int32} (hd : decode (ax_code m) pc = .ok (.putfield 253, 3)) (ho : ax_own m = 10) : XX true d m pc ls (.int v :: .ref 65 :: st) h R ↔ XX true d m (pc + 3) ls st (ax_wr h 65 6 (.int v)) R := xr_putfield (q := (1, 6)) hd ho fl_10_253 rfl (by decide) rfl rfl (fun q => absurd q (by decide +kernel)) rfl (fun q => absurd q (by decide +kernel))
theorem pf_11_60_153 {v : Int32} (hd : decode (ax_code m) pc = .ok (.putfield 60, 3)) (ho : ax_own m = 11) : XX true d m pc ls (.int v :: .ref 153 :: st) h R ↔ XX true d m (pc + 3) ls st (ax_wr h 153 9 (.int v)) R := xr_putfield (q := (11, 9)) hd ho fl_11_60 rfl (by decide) rfl rfl (fun q => absurd q (by decide +kernel)) rfl (fun q => absurd q (by decide +kernel))
theorem pf_18_27_153 {v : Int32} (hd : decode (ax_code m) pc = .ok (.putfield 27, 3)) (ho : ax_own m = 18) : XX true d m pc ls (.int v :: .ref 153 :: st) h R ↔ XX true d m (pc + 3) ls st (ax_wr h 153 0 (.int v)) R := xr_putfield (q := (11, 0)) hd ho fl_18_27 rfl (by decide) rfl rfl (fun q => absurd q (by decide +kernel)) rfl (fun q => absurd q (by decide +kernel))
theorem pf_18_52_153 {v : Int32} (hd : decode (ax_code m) pc = .ok (.putfield 52, 3)) (ho : ax_own m = 18) : XX true d m pc ls (.int v :: .ref 153 :: st) h R ↔ XX true d m (pc + 3) ls st (ax_wr h 153 1 (.int v)) R := xr_putfield (q := (11, 1)) hd ho fl_18_52 rfl (by decide) rfl rfl (fun q => absurd q (by decide +kernel)) rfl (fun q => absurd q (by decide +kernel))
theorem pf_18_74_153 {v : Int32} (hd : decode (ax_code m) pc = .ok (.putfield 74, 3)) (ho : ax_own m = 18) : XX true d m pc ls (.int v :: .ref 153 :: st) h R ↔ XX true d m (pc + 3) ls st (ax_wr h 153 2 (.int v)) R := xr_putfield (q := (11, 2)) hd ho fl_18_74 rfl (by decide) rfl rfl (fun q => absurd q (by decide +kernel)) rfl (fun q => absurd q (by decide +kernel))
end R51
theorem dc_8_0 : decode (ax_code 8) 0 = .ok (.aload_n 0, 1) := by decide +kernel
theorem dc_8_1 : decode (ax_code 8) 1 = .ok (.iload_n 1, 1) := by decide +kernel
theorem dc_8_2 : decode (ax_code 8) 2 = .ok (.iload_n 2, 1) := by decide +kernel
theorem dc_8_3 : decode (ax_code 8) 3 = .ok (.invokevirtual 143, 3) := by decide +kernel
theorem dc_8_6 : decode (ax_code 8) 6 = .ok (.ifCond .ne 6, 3) := by decide +kernel
theorem dc_8_9 : decode (ax_code 8) 9 = .ok (.bipush (-2), 2) := by decide +kernel
theorem dc_8_11 : decode (ax_code 8) 11 = .ok (.ireturn, 1) := by decide +kernel
theorem dc_8_12 : decode (ax_code 8) 12 = .ok (.aload_n 0, 1) := by decide +kernel
theorem dc_8_13 : decode (ax_code 8) 13 = .ok (.getfield 10, 3) := by decide +kernel
theorem dc_8_16 : decode (ax_code 8) 16 = .ok (.getfield 77, 3) := by decide +kernel
theorem dc_8_19 : decode (ax_code 8) 19 = .ok (.getfield 139, 3) := by decide +kernel
theorem dc_8_22 : decode (ax_code 8) 22 = .ok (.iload_n 2, 1) := by decide +kernel
theorem dc_8_23 : decode (ax_code 8) 23 = .ok (.aaload, 1) := by decide +kernel
theorem dc_8_24 : decode (ax_code 8) 24 = .ok (.iload_n 1, 1) := by decide +kernel
theorem dc_8_25 : decode (ax_code 8) 25 = .ok (.iaload, 1) := by decide +kernel
theorem dc_8_26 : decode (ax_code 8) 26 = .ok (.ireturn, 1) := by decide +kernel
theorem dc_9_0 : decode (ax_code 9) 0 = .ok (.aload_n 0, 1) := by decide +kernel
theorem dc_9_1 : decode (ax_code 9) 1 = .ok (.iload_n 2, 1) := by decide +kernel
theorem dc_9_2 : decode (ax_code 9) 2 = .ok (.invokevirtual 147, 3) := by decide +kernel
theorem dc_9_5 : decode (ax_code 9) 5 = .ok (.ifCond .eq 16, 3) := by decide +kernel
theorem dc_9_8 : decode (ax_code 9) 8 = .ok (.iload_n 1, 1) := by decide +kernel
theorem dc_9_9 : decode (ax_code 9) 9 = .ok (.ifCond .lt 12, 3) := by decide +kernel
theorem dc_9_12 : decode (ax_code 9) 12 = .ok (.iload_n 1, 1) := by decide +kernel
theorem dc_9_13 : decode (ax_code 9) 13 = .ok (.iload_n 2, 1) := by decide +kernel
theorem dc_9_14 : decode (ax_code 9) 14 = .ok (.if_icmp .ge 7, 3) := by decide +kernel
theorem dc_9_17 : decode (ax_code 9) 17 = .ok (.iconst 1, 1) := by decide +kernel
theorem dc_9_18 : decode (ax_code 9) 18 = .ok (.goto 4, 3) := by decide +kernel
theorem dc_9_21 : decode (ax_code 9) 21 = .ok (.iconst 0, 1) := by decide +kernel
theorem dc_9_22 : decode (ax_code 9) 22 = .ok (.ireturn, 1) := by decide +kernel
theorem dc_10_0 : decode (ax_code 10) 0 = .ok (.iload_n 1, 1) := by decide +kernel
theorem dc_10_1 : decode (ax_code 10) 1 = .ok (.ifCond .lt 21, 3) := by decide +kernel
theorem dc_10_4 : decode (ax_code 10) 4 = .ok (.iload_n 1, 1) := by decide +kernel
theorem dc_10_5 : decode (ax_code 10) 5 = .ok (.aload_n 0, 1) := by decide +kernel
theorem dc_10_6 : decode (ax_code 10) 6 = .ok (.getfield 10, 3) := by decide +kernel
theorem dc_10_9 : decode (ax_code 10) 9 = .ok (.getfield 77, 3) := by decide +kernel
theorem dc_10_12 : decode (ax_code 10) 12 = .ok (.getfield 117, 3) := by decide +kernel
theorem dc_10_15 : decode (ax_code 10) 15 = .ok (.if_icmp .gt 7, 3) := by decide +kernel
theorem dc_10_18 : decode (ax_code 10) 18 = .ok (.iconst 1, 1) := by decide +kernel
theorem dc_10_19 : decode (ax_code 10) 19 = .ok (.goto 4, 3) := by decide +kernel
theorem dc_10_22 : decode (ax_code 10) 22 = .ok (.iconst 0, 1) := by decide +kernel
theorem dc_10_23 : decode (ax_code 10) 23 = .ok (.ireturn, 1) := by decide +kernel
theorem dc_11_0 : decode (ax_code 11) 0 = .ok (.aload_n 0, 1) := by decide +kernel
theorem dc_11_1 : decode (ax_code 11) 1 = .ok (.iload_n 1, 1) := by decide +kernel
theorem dc_11_2 : decode (ax_code 11) 2 = .ok (.invokevirtual 147, 3) := by decide +kernel
theorem dc_11_5 : decode (ax_code 11) 5 = .ok (.ifCond .ne 6, 3) := by decide +kernel
theorem dc_11_8 : decode (ax_code 11) 8 = .ok (.bipush (-2), 2) := by decide +kernel
theorem dc_11_10 : decode (ax_code 11) 10 = .ok (.ireturn, 1) := by decide +kernel
theorem dc_11_11 : decode (ax_code 11) 11 = .ok (.aload_n 0, 1) := by decide +kernel
theorem dc_11_12 : decode (ax_code 11) 12 = .ok (.getfield 10, 3) := by decide +kernel
theorem dc_11_15 : decode (ax_code 11) 15 = .ok (.getfield 77, 3) := by decide +kernel
theorem dc_11_18 : decode (ax_code 11) 18 = .ok (.getfield 151, 3) := by decide +kernel
theorem dc_11_21 : decode (ax_code 11) 21 = .ok (.iload_n 1, 1) := by decide +kernel
theorem dc_11_22 : decode (ax_code 11) 22 = .ok (.iaload, 1) := by decide +kernel
theorem dc_11_23 : decode (ax_code 11) 23 = .ok (.ireturn, 1) := by decide +kernel
theorem dc_12_0 : decode (ax_code 12) 0 = .ok (.aload_n 0, 1) := by decide +kernel
theorem dc_12_1 : decode (ax_code 12) 1 = .ok (.iload_n 1, 1) := by decide +kernel
theorem dc_12_2 : decode (ax_code 12) 2 = .ok (.invokevirtual 154, 3) := by decide +kernel
theorem dc_12_5 : decode (ax_code 12) 5 = .ok (.ifCond .eq 21, 3) := by decide +kernel
theorem dc_12_8 : decode (ax_code 12) 8 = .ok (.aload_n 0, 1) := by decide +kernel
theorem dc_12_9 : decode (ax_code 12) 9 = .ok (.iload_n 2, 1) := by decide +kernel
theorem dc_12_10 : decode (ax_code 12) 10 = .ok (.aload_n 0, 1) := by decide +kernel
theorem dc_12_11 : decode (ax_code 12) 11 = .ok (.getfield 10, 3) := by decide +kernel
theorem dc_12_14 : decode (ax_code 12) 14 = .ok (.getfield 77, 3) := by decide +kernel
theorem dc_12_17 : decode (ax_code 12) 17 = .ok (.getfield 117, 3) := by decide +kernel
theorem dc_12_20 : decode (ax_code 12) 20 = .ok (.invokevirtual 143, 3) := by decide +kernel
theorem dc_12_23 : decode (ax_code 12) 23 = .ok (.ifCond .ne 6, 3) := by decide +kernel
theorem dc_12_26 : decode (ax_code 12) 26 = .ok (.bipush (-2), 2) := by decide +kernel
theorem dc_12_28 : decode (ax_code 12) 28 = .ok (.ireturn, 1) := by decide +kernel
theorem dc_12_29 : decode (ax_code 12) 29 = .ok (.aload_n 0, 1) := by decide +kernel
theorem dc_12_30 : decode (ax_code 12) 30 = .ok (.getfield 10, 3) := by decide +kernel
theorem dc_12_33 : decode (ax_code 12) 33 = .ok (.getfield 77, 3) := by decide +kernel
theorem dc_12_36 : decode (ax_code 12) 36 = .ok (.iload_n 1, 1) := by decide +kernel
theorem dc_12_37 : decode (ax_code 12) 37 = .ok (.aload_n 0, 1) := by decide +kernel
theorem dc_12_38 : decode (ax_code 12) 38 = .ok (.getfield 10, 3) := by decide +kernel
theorem dc_12_41 : decode (ax_code 12) 41 = .ok (.getfield 77, 3) := by decide +kernel
theorem dc_12_44 : decode (ax_code 12) 44 = .ok (.getfield 117, 3) := by decide +kernel
theorem dc_12_47 : decode (ax_code 12) 47 = .ok (.invokevirtual 157, 3) := by decide +kernel
theorem dc_12_50 : decode (ax_code 12) 50 = .ok (.aload_n 0, 1) := by decide +kernel
theorem dc_12_51 : decode (ax_code 12) 51 = .ok (.getfield 10, 3) := by decide +kernel
theorem dc_12_54 : decode (ax_code 12) 54 = .ok (.getfield 77, 3) := by decide +kernel
theorem dc_12_57 : decode (ax_code 12) 57 = .ok (.getfield 161, 3) := by decide +kernel
theorem dc_12_60 : decode (ax_code 12) 60 = .ok (.iload_n 2, 1) := by decide +kernel
theorem dc_12_61 : decode (ax_code 12) 61 = .ok (.iaload, 1) := by decide +kernel
theorem dc_12_62 : decode (ax_code 12) 62 = .ok (.ireturn, 1) := by decide +kernel
theorem dc_13_0 : decode (ax_code 13) 0 = .ok (.iload_n 1, 1) := by decide +kernel
theorem dc_13_1 : decode (ax_code 13) 1 = .ok (.ifCond .lt 32, 3) := by decide +kernel
theorem dc_13_4 : decode (ax_code 13) 4 = .ok (.iload_n 1, 1) := by decide +kernel
theorem dc_13_5 : decode (ax_code 13) 5 = .ok (.aload_n 0, 1) := by decide +kernel
theorem dc_13_6 : decode (ax_code 13) 6 = .ok (.getfield 10, 3) := by decide +kernel
theorem dc_13_9 : decode (ax_code 13) 9 = .ok (.getfield 77, 3) := by decide +kernel
theorem dc_13_12 : decode (ax_code 13) 12 = .ok (.getfield 151, 3) := by decide +kernel
theorem dc_13_15 : decode (ax_code 13) 15 = .ok (.aload_n 0, 1) := by decide +kernel
theorem dc_13_16 : decode (ax_code 13) 16 = .ok (.getfield 10, 3) := by decide +kernel
theorem dc_13_19 : decode (ax_code 13) 19 = .ok (.getfield 77, 3) := by decide +kernel
theorem dc_13_22 : decode (ax_code 13) 22 = .ok (.getfield 117, 3) := by decide +kernel
theorem dc_13_25 : decode (ax_code 13) 25 = .ok (.iaload, 1) := by decide +kernel
theorem dc_13_26 : decode (ax_code 13) 26 = .ok (.if_icmp .ge 7, 3) := by decide +kernel
theorem dc_13_29 : decode (ax_code 13) 29 = .ok (.iconst 1, 1) := by decide +kernel
theorem dc_13_30 : decode (ax_code 13) 30 = .ok (.goto 4, 3) := by decide +kernel
theorem dc_13_33 : decode (ax_code 13) 33 = .ok (.iconst 0, 1) := by decide +kernel
theorem dc_13_34 : decode (ax_code 13) 34 = .ok (.ireturn, 1) := by decide +kernel
theorem dc_14_0 : decode (ax_code 14) 0 = .ok (.iload_n 1, 1) := by decide +kernel
theorem dc_14_1 : decode (ax_code 14) 1 = .ok (.istore_n 3, 1) := by decide +kernel
theorem dc_14_2 : decode (ax_code 14) 2 = .ok (.iload_n 2, 1) := by decide +kernel
theorem dc_14_3 : decode (ax_code 14) 3 = .ok (.iconst 1, 1) := by decide +kernel
theorem dc_14_4 : decode (ax_code 14) 4 = .ok (.isub, 1) := by decide +kernel
theorem dc_14_5 : decode (ax_code 14) 5 = .ok (.istore 4, 2) := by decide +kernel
theorem dc_14_7 : decode (ax_code 14) 7 = .ok (.iload 4, 2) := by decide +kernel
theorem dc_14_9 : decode (ax_code 14) 9 = .ok (.ifCond .lt 54, 3) := by decide +kernel
theorem dc_14_12 : decode (ax_code 14) 12 = .ok (.aload_n 0, 1) := by decide +kernel
theorem dc_14_13 : decode (ax_code 14) 13 = .ok (.getfield 42, 3) := by decide +kernel
theorem dc_14_16 : decode (ax_code 14) 16 = .ok (.iload 4, 2) := by decide +kernel
theorem dc_14_18 : decode (ax_code 14) 18 = .ok (.iload_n 3, 1) := by decide +kernel
theorem dc_14_19 : decode (ax_code 14) 19 = .ok (.ifCond .lt 22, 3) := by decide +kernel
theorem dc_14_22 : decode (ax_code 14) 22 = .ok (.iload_n 3, 1) := by decide +kernel
theorem dc_14_23 : decode (ax_code 14) 23 = .ok (.sipush 1620, 3) := by decide +kernel
theorem dc_14_26 : decode (ax_code 14) 26 = .ok (.if_icmp .ge 15, 3) := by decide +kernel
theorem dc_14_29 : decode (ax_code 14) 29 = .ok (.aload_n 0, 1) := by decide +kernel
theorem dc_14_30 : decode (ax_code 14) 30 = .ok (.getfield 39, 3) := by decide +kernel
theorem dc_14_33 : decode (ax_code 14) 33 = .ok (.iload 4, 2) := by decide +kernel
theorem dc_14_35 : decode (ax_code 14) 35 = .ok (.aaload, 1) := by decide +kernel
theorem dc_14_36 : decode (ax_code 14) 36 = .ok (.iload_n 3, 1) := by decide +kernel
theorem dc_14_37 : decode (ax_code 14) 37 = .ok (.iaload, 1) := by decide +kernel
theorem dc_14_38 : decode (ax_code 14) 38 = .ok (.goto 4, 3) := by decide +kernel
theorem dc_14_41 : decode (ax_code 14) 41 = .ok (.iconst 0, 1) := by decide +kernel
theorem dc_14_42 : decode (ax_code 14) 42 = .ok (.iastore, 1) := by decide +kernel
theorem dc_14_43 : decode (ax_code 14) 43 = .ok (.iload_n 3, 1) := by decide +kernel
theorem dc_14_44 : decode (ax_code 14) 44 = .ok (.iconst 1, 1) := by decide +kernel
theorem dc_14_45 : decode (ax_code 14) 45 = .ok (.aload_n 0, 1) := by decide +kernel
theorem dc_14_46 : decode (ax_code 14) 46 = .ok (.getfield 28, 3) := by decide +kernel
theorem dc_14_49 : decode (ax_code 14) 49 = .ok (.iload 4, 2) := by decide +kernel
theorem dc_14_51 : decode (ax_code 14) 51 = .ok (.iaload, 1) := by decide +kernel
theorem dc_14_52 : decode (ax_code 14) 52 = .ok (.invokestatic 94, 3) := by decide +kernel
theorem dc_14_55 : decode (ax_code 14) 55 = .ok (.idiv, 1) := by decide +kernel
theorem dc_14_56 : decode (ax_code 14) 56 = .ok (.istore_n 3, 1) := by decide +kernel
theorem dc_14_57 : decode (ax_code 14) 57 = .ok (.iinc 4 (-1), 3) := by decide +kernel
theorem dc_14_60 : decode (ax_code 14) 60 = .ok (.goto (-53), 3) := by decide +kernel
theorem dc_14_63 : decode (ax_code 14) 63 = .ok (.return_, 1) := by decide +kernel
theorem dc_16_0 : decode (ax_code 16) 0 = .ok (.iload_n 1, 1) := by decide +kernel
theorem dc_16_1 : decode (ax_code 16) 1 = .ok (.invokestatic 173, 3) := by decide +kernel
theorem dc_16_4 : decode (ax_code 16) 4 = .ok (.ifCond .eq 19, 3) := by decide +kernel
theorem dc_16_7 : decode (ax_code 16) 7 = .ok (.aload_n 0, 1) := by decide +kernel
theorem dc_16_8 : decode (ax_code 16) 8 = .ok (.iload_n 2, 1) := by decide +kernel
theorem dc_16_9 : decode (ax_code 16) 9 = .ok (.invokevirtual 154, 3) := by decide +kernel
theorem dc_16_12 : decode (ax_code 16) 12 = .ok (.ifCond .eq 11, 3) := by decide +kernel
theorem dc_16_15 : decode (ax_code 16) 15 = .ok (.aload_n 0, 1) := by decide +kernel
theorem dc_16_16 : decode (ax_code 16) 16 = .ok (.iload_n 3, 1) := by decide +kernel
theorem dc_16_17 : decode (ax_code 16) 17 = .ok (.invokevirtual 147, 3) := by decide +kernel
theorem dc_16_20 : decode (ax_code 16) 20 = .ok (.ifCond .ne 6, 3) := by decide +kernel
theorem dc_16_23 : decode (ax_code 16) 23 = .ok (.bipush (-2), 2) := by decide +kernel
theorem dc_16_25 : decode (ax_code 16) 25 = .ok (.ireturn, 1) := by decide +kernel
theorem dc_16_26 : decode (ax_code 16) 26 = .ok (.aload_n 0, 1) := by decide +kernel
theorem dc_16_27 : decode (ax_code 16) 27 = .ok (.getfield 10, 3) := by decide +kernel
theorem dc_16_30 : decode (ax_code 16) 30 = .ok (.getfield 77, 3) := by decide +kernel
theorem dc_16_33 : decode (ax_code 16) 33 = .ok (.iload_n 2, 1) := by decide +kernel
theorem dc_16_34 : decode (ax_code 16) 34 = .ok (.aload_n 0, 1) := by decide +kernel
theorem dc_16_35 : decode (ax_code 16) 35 = .ok (.getfield 10, 3) := by decide +kernel
theorem dc_16_38 : decode (ax_code 16) 38 = .ok (.getfield 77, 3) := by decide +kernel
theorem dc_16_41 : decode (ax_code 16) 41 = .ok (.getfield 117, 3) := by decide +kernel
theorem dc_16_44 : decode (ax_code 16) 44 = .ok (.invokevirtual 157, 3) := by decide +kernel
theorem dc_16_47 : decode (ax_code 16) 47 = .ok (.aload_n 0, 1) := by decide +kernel
theorem dc_16_48 : decode (ax_code 16) 48 = .ok (.getfield 10, 3) := by decide +kernel
theorem dc_16_51 : decode (ax_code 16) 51 = .ok (.getfield 77, 3) := by decide +kernel
theorem dc_16_54 : decode (ax_code 16) 54 = .ok (.iload_n 1, 1) := by decide +kernel
theorem dc_16_55 : decode (ax_code 16) 55 = .ok (.iload_n 3, 1) := by decide +kernel
theorem dc_16_56 : decode (ax_code 16) 56 = .ok (.invokevirtual 176, 3) := by decide +kernel
theorem dc_16_59 : decode (ax_code 16) 59 = .ok (.ireturn, 1) := by decide +kernel
theorem dc_17_0 : decode (ax_code 17) 0 = .ok (.iload_n 0, 1) := by decide +kernel
theorem dc_17_1 : decode (ax_code 17) 1 = .ok (.ifCond .lt 12, 3) := by decide +kernel
theorem dc_17_4 : decode (ax_code 17) 4 = .ok (.iload_n 0, 1) := by decide +kernel
theorem dc_17_5 : decode (ax_code 17) 5 = .ok (.iconst 3, 1) := by decide +kernel
theorem dc_17_6 : decode (ax_code 17) 6 = .ok (.if_icmp .ge 7, 3) := by decide +kernel
theorem dc_17_9 : decode (ax_code 17) 9 = .ok (.iconst 1, 1) := by decide +kernel
theorem dc_17_10 : decode (ax_code 17) 10 = .ok (.goto 4, 3) := by decide +kernel
theorem dc_17_13 : decode (ax_code 17) 13 = .ok (.iconst 0, 1) := by decide +kernel
theorem dc_17_14 : decode (ax_code 17) 14 = .ok (.ireturn, 1) := by decide +kernel
theorem dc_18_0 : decode (ax_code 18) 0 = .ok (.iconst 1, 1) := by decide +kernel
theorem dc_18_1 : decode (ax_code 18) 1 = .ok (.istore_n 3, 1) := by decide +kernel
theorem dc_18_2 : decode (ax_code 18) 2 = .ok (.iconst 0, 1) := by decide +kernel
theorem dc_18_3 : decode (ax_code 18) 3 = .ok (.istore 4, 2) := by decide +kernel
theorem dc_18_5 : decode (ax_code 18) 5 = .ok (.iload 4, 2) := by decide +kernel
theorem dc_18_7 : decode (ax_code 18) 7 = .ok (.iload_n 2, 1) := by decide +kernel
theorem dc_18_8 : decode (ax_code 18) 8 = .ok (.if_icmp .ge 56, 3) := by decide +kernel
theorem dc_18_11 : decode (ax_code 18) 11 = .ok (.aload_n 0, 1) := by decide +kernel
theorem dc_18_12 : decode (ax_code 18) 12 = .ok (.getfield 36, 3) := by decide +kernel
theorem dc_18_15 : decode (ax_code 18) 15 = .ok (.iload_n 2, 1) := by decide +kernel
theorem dc_18_16 : decode (ax_code 18) 16 = .ok (.aaload, 1) := by decide +kernel
theorem dc_18_17 : decode (ax_code 18) 17 = .ok (.iload 4, 2) := by decide +kernel
theorem dc_18_19 : decode (ax_code 18) 19 = .ok (.iaload, 1) := by decide +kernel
theorem dc_18_20 : decode (ax_code 18) 20 = .ok (.iload_n 1, 1) := by decide +kernel
theorem dc_18_21 : decode (ax_code 18) 21 = .ok (.ishr, 1) := by decide +kernel
theorem dc_18_22 : decode (ax_code 18) 22 = .ok (.iconst 1, 1) := by decide +kernel
theorem dc_18_23 : decode (ax_code 18) 23 = .ok (.iand, 1) := by decide +kernel
theorem dc_18_24 : decode (ax_code 18) 24 = .ok (.ifCond .eq 7, 3) := by decide +kernel
theorem dc_18_27 : decode (ax_code 18) 27 = .ok (.iconst 1, 1) := by decide +kernel
theorem dc_18_28 : decode (ax_code 18) 28 = .ok (.goto 4, 3) := by decide +kernel
theorem dc_18_31 : decode (ax_code 18) 31 = .ok (.iconst 0, 1) := by decide +kernel
theorem dc_18_32 : decode (ax_code 18) 32 = .ok (.istore 5, 2) := by decide +kernel
theorem dc_18_34 : decode (ax_code 18) 34 = .ok (.bipush 8, 2) := by decide +kernel
theorem dc_18_36 : decode (ax_code 18) 36 = .ok (.iload_n 3, 1) := by decide +kernel
theorem dc_18_37 : decode (ax_code 18) 37 = .ok (.imul, 1) := by decide +kernel
theorem dc_18_38 : decode (ax_code 18) 38 = .ok (.iload 5, 2) := by decide +kernel
theorem dc_18_40 : decode (ax_code 18) 40 = .ok (.ifCond .eq 15, 3) := by decide +kernel
theorem dc_18_43 : decode (ax_code 18) 43 = .ok (.aload_n 0, 1) := by decide +kernel
theorem dc_18_44 : decode (ax_code 18) 44 = .ok (.getfield 42, 3) := by decide +kernel
theorem dc_18_47 : decode (ax_code 18) 47 = .ok (.iload 4, 2) := by decide +kernel
theorem dc_18_49 : decode (ax_code 18) 49 = .ok (.iaload, 1) := by decide +kernel
theorem dc_18_50 : decode (ax_code 18) 50 = .ok (.iconst 1, 1) := by decide +kernel
theorem dc_18_51 : decode (ax_code 18) 51 = .ok (.iadd, 1) := by decide +kernel
theorem dc_18_52 : decode (ax_code 18) 52 = .ok (.goto 4, 3) := by decide +kernel
theorem dc_18_55 : decode (ax_code 18) 55 = .ok (.iconst 0, 1) := by decide +kernel
theorem dc_18_56 : decode (ax_code 18) 56 = .ok (.iadd, 1) := by decide +kernel
theorem dc_18_57 : decode (ax_code 18) 57 = .ok (.istore_n 3, 1) := by decide +kernel
theorem dc_18_58 : decode (ax_code 18) 58 = .ok (.iinc 4 1, 3) := by decide +kernel
theorem dc_18_61 : decode (ax_code 18) 61 = .ok (.goto (-56), 3) := by decide +kernel
theorem dc_18_64 : decode (ax_code 18) 64 = .ok (.iload_n 3, 1) := by decide +kernel
theorem dc_18_65 : decode (ax_code 18) 65 = .ok (.ireturn, 1) := by decide +kernel
theorem dc_19_0 : decode (ax_code 19) 0 = .ok (.iload_n 1, 1) := by decide +kernel
theorem dc_19_1 : decode (ax_code 19) 1 = .ok (.invokestatic 173, 3) := by decide +kernel
theorem dc_19_4 : decode (ax_code 19) 4 = .ok (.ifCond .eq 11, 3) := by decide +kernel
theorem dc_19_7 : decode (ax_code 19) 7 = .ok (.aload_n 0, 1) := by decide +kernel
theorem dc_19_8 : decode (ax_code 19) 8 = .ok (.iload_n 2, 1) := by decide +kernel
theorem dc_19_9 : decode (ax_code 19) 9 = .ok (.invokevirtual 147, 3) := by decide +kernel
theorem dc_19_12 : decode (ax_code 19) 12 = .ok (.ifCond .ne 6, 3) := by decide +kernel
theorem dc_19_15 : decode (ax_code 19) 15 = .ok (.bipush (-2), 2) := by decide +kernel
theorem dc_19_17 : decode (ax_code 19) 17 = .ok (.ireturn, 1) := by decide +kernel
theorem dc_19_18 : decode (ax_code 19) 18 = .ok (.aload_n 0, 1) := by decide +kernel
theorem dc_19_19 : decode (ax_code 19) 19 = .ok (.getfield 10, 3) := by decide +kernel
theorem dc_19_22 : decode (ax_code 19) 22 = .ok (.getfield 77, 3) := by decide +kernel
theorem dc_19_25 : decode (ax_code 19) 25 = .ok (.iload_n 1, 1) := by decide +kernel
theorem dc_19_26 : decode (ax_code 19) 26 = .ok (.iload_n 2, 1) := by decide +kernel
theorem dc_19_27 : decode (ax_code 19) 27 = .ok (.iload_n 3, 1) := by decide +kernel
theorem dc_19_28 : decode (ax_code 19) 28 = .ok (.invokevirtual 180, 3) := by decide +kernel
theorem dc_19_31 : decode (ax_code 19) 31 = .ok (.ireturn, 1) := by decide +kernel
theorem dc_20_0 : decode (ax_code 20) 0 = .ok (.iconst 0, 1) := by decide +kernel
theorem dc_20_1 : decode (ax_code 20) 1 = .ok (.istore 4, 2) := by decide +kernel
theorem dc_20_3 : decode (ax_code 20) 3 = .ok (.iconst 0, 1) := by decide +kernel
theorem dc_20_4 : decode (ax_code 20) 4 = .ok (.istore 5, 2) := by decide +kernel
theorem dc_20_6 : decode (ax_code 20) 6 = .ok (.iload 5, 2) := by decide +kernel
theorem dc_20_8 : decode (ax_code 20) 8 = .ok (.aload_n 0, 1) := by decide +kernel
theorem dc_20_9 : decode (ax_code 20) 9 = .ok (.getfield 31, 3) := by decide +kernel
theorem dc_20_12 : decode (ax_code 20) 12 = .ok (.iload_n 2, 1) := by decide +kernel
theorem dc_20_13 : decode (ax_code 20) 13 = .ok (.iaload, 1) := by decide +kernel
theorem dc_20_14 : decode (ax_code 20) 14 = .ok (.if_icmp .ge 24, 3) := by decide +kernel
theorem dc_20_17 : decode (ax_code 20) 17 = .ok (.aload_n 0, 1) := by decide +kernel
theorem dc_20_18 : decode (ax_code 20) 18 = .ok (.iload_n 1, 1) := by decide +kernel
theorem dc_20_19 : decode (ax_code 20) 19 = .ok (.iload 5, 2) := by decide +kernel
theorem dc_20_21 : decode (ax_code 20) 21 = .ok (.iload_n 2, 1) := by decide +kernel
theorem dc_20_22 : decode (ax_code 20) 22 = .ok (.invokevirtual 127, 3) := by decide +kernel
theorem dc_20_25 : decode (ax_code 20) 25 = .ok (.iload_n 3, 1) := by decide +kernel
theorem dc_20_26 : decode (ax_code 20) 26 = .ok (.if_icmp .ne 6, 3) := by decide +kernel
theorem dc_20_29 : decode (ax_code 20) 29 = .ok (.iinc 4 1, 3) := by decide +kernel
theorem dc_20_32 : decode (ax_code 20) 32 = .ok (.iinc 5 1, 3) := by decide +kernel
theorem dc_20_35 : decode (ax_code 20) 35 = .ok (.goto (-29), 3) := by decide +kernel
theorem dc_20_38 : decode (ax_code 20) 38 = .ok (.iload 4, 2) := by decide +kernel
theorem dc_20_40 : decode (ax_code 20) 40 = .ok (.ireturn, 1) := by decide +kernel
theorem dc_21_0 : decode (ax_code 21) 0 = .ok (.aload_n 0, 1) := by decide +kernel
theorem dc_21_1 : decode (ax_code 21) 1 = .ok (.iload_n 2, 1) := by decide +kernel
theorem dc_21_2 : decode (ax_code 21) 2 = .ok (.iload_n 3, 1) := by decide +kernel
theorem dc_21_3 : decode (ax_code 21) 3 = .ok (.invokevirtual 111, 3) := by decide +kernel
theorem dc_21_6 : decode (ax_code 21) 6 = .ok (.aload_n 0, 1) := by decide +kernel
theorem dc_21_7 : decode (ax_code 21) 7 = .ok (.iload_n 1, 1) := by decide +kernel
theorem dc_21_8 : decode (ax_code 21) 8 = .ok (.iload_n 3, 1) := by decide +kernel
theorem dc_21_9 : decode (ax_code 21) 9 = .ok (.invokevirtual 124, 3) := by decide +kernel
theorem dc_21_12 : decode (ax_code 21) 12 = .ok (.ireturn, 1) := by decide +kernel
theorem dc_22_0 : decode (ax_code 22) 0 = .ok (.iload_n 1, 1) := by decide +kernel
theorem dc_22_1 : decode (ax_code 22) 1 = .ok (.invokestatic 173, 3) := by decide +kernel
theorem dc_22_4 : decode (ax_code 22) 4 = .ok (.ifCond .eq 11, 3) := by decide +kernel
theorem dc_22_7 : decode (ax_code 22) 7 = .ok (.aload_n 0, 1) := by decide +kernel
theorem dc_22_8 : decode (ax_code 22) 8 = .ok (.iload_n 2, 1) := by decide +kernel
theorem dc_22_9 : decode (ax_code 22) 9 = .ok (.invokevirtual 147, 3) := by decide +kernel
theorem dc_22_12 : decode (ax_code 22) 12 = .ok (.ifCond .ne 6, 3) := by decide +kernel
theorem dc_22_15 : decode (ax_code 22) 15 = .ok (.bipush (-2), 2) := by decide +kernel
theorem dc_22_17 : decode (ax_code 22) 17 = .ok (.ireturn, 1) := by decide +kernel
theorem dc_22_18 : decode (ax_code 22) 18 = .ok (.aload_n 0, 1) := by decide +kernel
theorem dc_22_19 : decode (ax_code 22) 19 = .ok (.getfield 10, 3) := by decide +kernel
theorem dc_22_22 : decode (ax_code 22) 22 = .ok (.getfield 77, 3) := by decide +kernel
theorem dc_22_25 : decode (ax_code 22) 25 = .ok (.iload_n 1, 1) := by decide +kernel
theorem dc_22_26 : decode (ax_code 22) 26 = .ok (.iload_n 2, 1) := by decide +kernel
theorem dc_22_27 : decode (ax_code 22) 27 = .ok (.iload_n 3, 1) := by decide +kernel
theorem dc_22_28 : decode (ax_code 22) 28 = .ok (.iload 4, 2) := by decide +kernel
theorem dc_22_30 : decode (ax_code 22) 30 = .ok (.invokevirtual 184, 3) := by decide +kernel
theorem dc_22_33 : decode (ax_code 22) 33 = .ok (.istore 5, 2) := by decide +kernel
theorem dc_22_35 : decode (ax_code 22) 35 = .ok (.iload 5, 2) := by decide +kernel
theorem dc_22_37 : decode (ax_code 22) 37 = .ok (.ifCond .ge 8, 3) := by decide +kernel
theorem dc_22_40 : decode (ax_code 22) 40 = .ok (.bipush (-12), 2) := by decide +kernel
theorem dc_22_42 : decode (ax_code 22) 42 = .ok (.goto 5, 3) := by decide +kernel
theorem dc_22_45 : decode (ax_code 22) 45 = .ok (.iload 5, 2) := by decide +kernel
theorem dc_22_47 : decode (ax_code 22) 47 = .ok (.ireturn, 1) := by decide +kernel
theorem dc_23_0 : decode (ax_code 23) 0 = .ok (.iconst 0, 1) := by decide +kernel
theorem dc_23_1 : decode (ax_code 23) 1 = .ok (.istore 5, 2) := by decide +kernel
theorem dc_23_3 : decode (ax_code 23) 3 = .ok (.iconst 0, 1) := by decide +kernel
theorem dc_23_4 : decode (ax_code 23) 4 = .ok (.istore 6, 2) := by decide +kernel
theorem dc_23_6 : decode (ax_code 23) 6 = .ok (.iload 6, 2) := by decide +kernel
theorem dc_23_8 : decode (ax_code 23) 8 = .ok (.aload_n 0, 1) := by decide +kernel
theorem dc_23_9 : decode (ax_code 23) 9 = .ok (.getfield 31, 3) := by decide +kernel
theorem dc_23_12 : decode (ax_code 23) 12 = .ok (.iload_n 2, 1) := by decide +kernel
theorem dc_23_13 : decode (ax_code 23) 13 = .ok (.iaload, 1) := by decide +kernel
theorem dc_23_14 : decode (ax_code 23) 14 = .ok (.if_icmp .ge 37, 3) := by decide +kernel
theorem dc_23_17 : decode (ax_code 23) 17 = .ok (.aload_n 0, 1) := by decide +kernel
theorem dc_23_18 : decode (ax_code 23) 18 = .ok (.iload_n 1, 1) := by decide +kernel
theorem dc_23_19 : decode (ax_code 23) 19 = .ok (.iload 6, 2) := by decide +kernel
theorem dc_23_21 : decode (ax_code 23) 21 = .ok (.iload_n 2, 1) := by decide +kernel
theorem dc_23_22 : decode (ax_code 23) 22 = .ok (.invokevirtual 127, 3) := by decide +kernel
theorem dc_23_25 : decode (ax_code 23) 25 = .ok (.iload_n 3, 1) := by decide +kernel
theorem dc_23_26 : decode (ax_code 23) 26 = .ok (.if_icmp .eq 6, 3) := by decide +kernel
theorem dc_23_29 : decode (ax_code 23) 29 = .ok (.goto 16, 3) := by decide +kernel
theorem dc_23_32 : decode (ax_code 23) 32 = .ok (.iload 5, 2) := by decide +kernel
theorem dc_23_34 : decode (ax_code 23) 34 = .ok (.iload 4, 2) := by decide +kernel
theorem dc_23_36 : decode (ax_code 23) 36 = .ok (.if_icmp .ne 6, 3) := by decide +kernel
theorem dc_23_39 : decode (ax_code 23) 39 = .ok (.iload 6, 2) := by decide +kernel
theorem dc_23_41 : decode (ax_code 23) 41 = .ok (.ireturn, 1) := by decide +kernel
theorem dc_23_42 : decode (ax_code 23) 42 = .ok (.iinc 5 1, 3) := by decide +kernel
theorem dc_23_45 : decode (ax_code 23) 45 = .ok (.iinc 6 1, 3) := by decide +kernel
theorem dc_23_48 : decode (ax_code 23) 48 = .ok (.goto (-42), 3) := by decide +kernel
theorem dc_23_51 : decode (ax_code 23) 51 = .ok (.iconst (-1), 1) := by decide +kernel
theorem dc_23_52 : decode (ax_code 23) 52 = .ok (.ireturn, 1) := by decide +kernel
theorem dc_24_0 : decode (ax_code 24) 0 = .ok (.iload_n 1, 1) := by decide +kernel
theorem dc_24_1 : decode (ax_code 24) 1 = .ok (.invokestatic 173, 3) := by decide +kernel
theorem dc_24_4 : decode (ax_code 24) 4 = .ok (.ifCond .eq 21, 3) := by decide +kernel
theorem dc_24_7 : decode (ax_code 24) 7 = .ok (.aload_n 0, 1) := by decide +kernel
theorem dc_24_8 : decode (ax_code 24) 8 = .ok (.iload 4, 2) := by decide +kernel
theorem dc_24_10 : decode (ax_code 24) 10 = .ok (.iload_n 2, 1) := by decide +kernel
theorem dc_24_11 : decode (ax_code 24) 11 = .ok (.invokevirtual 143, 3) := by decide +kernel
theorem dc_24_14 : decode (ax_code 24) 14 = .ok (.ifCond .eq 11, 3) := by decide +kernel
theorem dc_24_17 : decode (ax_code 24) 17 = .ok (.iload 6, 2) := by decide +kernel
theorem dc_24_19 : decode (ax_code 24) 19 = .ok (.invokestatic 164, 3) := by decide +kernel
theorem dc_24_22 : decode (ax_code 24) 22 = .ok (.ifCond .ne 7, 3) := by decide +kernel
theorem dc_24_25 : decode (ax_code 24) 25 = .ok (.ldc2_w 167, 3) := by decide +kernel
theorem dc_24_28 : decode (ax_code 24) 28 = .ok (.lreturn, 1) := by decide +kernel
theorem dc_24_29 : decode (ax_code 24) 29 = .ok (.aload_n 0, 1) := by decide +kernel
theorem dc_24_30 : decode (ax_code 24) 30 = .ok (.getfield 33, 3) := by decide +kernel
theorem dc_24_33 : decode (ax_code 24) 33 = .ok (.aload_n 0, 1) := by decide +kernel
theorem dc_24_34 : decode (ax_code 24) 34 = .ok (.getfield 10, 3) := by decide +kernel
theorem dc_24_37 : decode (ax_code 24) 37 = .ok (.iload_n 2, 1) := by decide +kernel
theorem dc_24_38 : decode (ax_code 24) 38 = .ok (.iconst (-1), 1) := by decide +kernel
theorem dc_24_39 : decode (ax_code 24) 39 = .ok (.invokevirtual 188, 3) := by decide +kernel
theorem dc_24_42 : decode (ax_code 24) 42 = .ok (.aload_n 0, 1) := by decide +kernel
theorem dc_24_43 : decode (ax_code 24) 43 = .ok (.getfield 33, 3) := by decide +kernel
theorem dc_24_46 : decode (ax_code 24) 46 = .ok (.aload_n 0, 1) := by decide +kernel
theorem dc_24_47 : decode (ax_code 24) 47 = .ok (.getfield 10, 3) := by decide +kernel
theorem dc_24_50 : decode (ax_code 24) 50 = .ok (.getfield 77, 3) := by decide +kernel
theorem dc_24_53 : decode (ax_code 24) 53 = .ok (.iload_n 1, 1) := by decide +kernel
theorem dc_24_54 : decode (ax_code 24) 54 = .ok (.iload_n 2, 1) := by decide +kernel
theorem dc_24_55 : decode (ax_code 24) 55 = .ok (.iload_n 3, 1) := by decide +kernel
theorem dc_24_56 : decode (ax_code 24) 56 = .ok (.invokevirtual 192, 3) := by decide +kernel
theorem dc_24_59 : decode (ax_code 24) 59 = .ok (.istore 7, 2) := by decide +kernel
theorem dc_24_61 : decode (ax_code 24) 61 = .ok (.iload 7, 2) := by decide +kernel
theorem dc_24_63 : decode (ax_code 24) 63 = .ok (.ifCond .ne 7, 3) := by decide +kernel
theorem dc_24_66 : decode (ax_code 24) 66 = .ok (.ldc2_w 195, 3) := by decide +kernel
theorem dc_24_69 : decode (ax_code 24) 69 = .ok (.lreturn, 1) := by decide +kernel
theorem dc_24_70 : decode (ax_code 24) 70 = .ok (.aload_n 0, 1) := by decide +kernel
theorem dc_24_71 : decode (ax_code 24) 71 = .ok (.getfield 33, 3) := by decide +kernel
theorem dc_24_74 : decode (ax_code 24) 74 = .ok (.aload_n 0, 1) := by decide +kernel
theorem dc_24_75 : decode (ax_code 24) 75 = .ok (.getfield 10, 3) := by decide +kernel
theorem dc_24_78 : decode (ax_code 24) 78 = .ok (.getfield 77, 3) := by decide +kernel
theorem dc_24_81 : decode (ax_code 24) 81 = .ok (.iload_n 1, 1) := by decide +kernel
theorem dc_24_82 : decode (ax_code 24) 82 = .ok (.iload_n 2, 1) := by decide +kernel
theorem dc_24_83 : decode (ax_code 24) 83 = .ok (.iload_n 3, 1) := by decide +kernel
theorem dc_24_84 : decode (ax_code 24) 84 = .ok (.iload 4, 2) := by decide +kernel
theorem dc_24_86 : decode (ax_code 24) 86 = .ok (.iload 5, 2) := by decide +kernel
theorem dc_24_88 : decode (ax_code 24) 88 = .ok (.invokevirtual 197, 3) := by decide +kernel
theorem dc_24_91 : decode (ax_code 24) 91 = .ok (.i2l, 1) := by decide +kernel
theorem dc_24_92 : decode (ax_code 24) 92 = .ok (.iload 7, 2) := by decide +kernel
theorem dc_24_94 : decode (ax_code 24) 94 = .ok (.i2l, 1) := by decide +kernel
theorem dc_24_95 : decode (ax_code 24) 95 = .ok (.iload 6, 2) := by decide +kernel
theorem dc_24_97 : decode (ax_code 24) 97 = .ok (.invokestatic 201, 3) := by decide +kernel
theorem dc_24_100 : decode (ax_code 24) 100 = .ok (.lreturn, 1) := by decide +kernel
theorem dc_25_0 : decode (ax_code 25) 0 = .ok (.iload_n 0, 1) := by decide +kernel
theorem dc_25_1 : decode (ax_code 25) 1 = .ok (.ifCond .eq 8, 3) := by decide +kernel
theorem dc_25_4 : decode (ax_code 25) 4 = .ok (.iload_n 0, 1) := by decide +kernel
theorem dc_25_5 : decode (ax_code 25) 5 = .ok (.iconst 1, 1) := by decide +kernel
theorem dc_25_6 : decode (ax_code 25) 6 = .ok (.if_icmp .ne 7, 3) := by decide +kernel
theorem dc_25_9 : decode (ax_code 25) 9 = .ok (.iconst 1, 1) := by decide +kernel
theorem dc_25_10 : decode (ax_code 25) 10 = .ok (.goto 4, 3) := by decide +kernel
theorem dc_25_13 : decode (ax_code 25) 13 = .ok (.iconst 0, 1) := by decide +kernel
theorem dc_25_14 : decode (ax_code 25) 14 = .ok (.ireturn, 1) := by decide +kernel
theorem dc_26_0 : decode (ax_code 26) 0 = .ok (.aload_n 0, 1) := by decide +kernel
theorem dc_26_1 : decode (ax_code 26) 1 = .ok (.getfield 9, 3) := by decide +kernel
theorem dc_26_4 : decode (ax_code 26) 4 = .ok (.iconst 0, 1) := by decide +kernel
theorem dc_26_5 : decode (ax_code 26) 5 = .ok (.iconst 0, 1) := by decide +kernel
theorem dc_26_6 : decode (ax_code 26) 6 = .ok (.iastore, 1) := by decide +kernel
theorem dc_26_7 : decode (ax_code 26) 7 = .ok (.aload_n 0, 1) := by decide +kernel
theorem dc_26_8 : decode (ax_code 26) 8 = .ok (.iconst 1, 1) := by decide +kernel
theorem dc_26_9 : decode (ax_code 26) 9 = .ok (.putfield 18, 3) := by decide +kernel
theorem dc_26_12 : decode (ax_code 26) 12 = .ok (.iconst 0, 1) := by decide +kernel
theorem dc_26_13 : decode (ax_code 26) 13 = .ok (.istore 4, 2) := by decide +kernel
theorem dc_26_15 : decode (ax_code 26) 15 = .ok (.iload 4, 2) := by decide +kernel
theorem dc_26_17 : decode (ax_code 26) 17 = .ok (.iload_n 2, 1) := by decide +kernel
theorem dc_26_18 : decode (ax_code 26) 18 = .ok (.if_icmp .ge 17, 3) := by decide +kernel
theorem dc_26_21 : decode (ax_code 26) 21 = .ok (.aload_n 0, 1) := by decide +kernel
theorem dc_26_22 : decode (ax_code 26) 22 = .ok (.aload_n 1, 1) := by decide +kernel
theorem dc_26_23 : decode (ax_code 26) 23 = .ok (.iload 4, 2) := by decide +kernel
theorem dc_26_25 : decode (ax_code 26) 25 = .ok (.iload_n 3, 1) := by decide +kernel
theorem dc_26_26 : decode (ax_code 26) 26 = .ok (.invokevirtual 41, 3) := by decide +kernel
theorem dc_26_29 : decode (ax_code 26) 29 = .ok (.iinc 4 1, 3) := by decide +kernel
theorem dc_26_32 : decode (ax_code 26) 32 = .ok (.goto (-17), 3) := by decide +kernel
theorem dc_26_35 : decode (ax_code 26) 35 = .ok (.return_, 1) := by decide +kernel
theorem dc_27_0 : decode (ax_code 27) 0 = .ok (.aload_n 1, 1) := by decide +kernel
theorem dc_27_1 : decode (ax_code 27) 1 = .ok (.getfield 45, 3) := by decide +kernel
theorem dc_27_4 : decode (ax_code 27) 4 = .ok (.iload_n 2, 1) := by decide +kernel
theorem dc_27_5 : decode (ax_code 27) 5 = .ok (.invokevirtual 51, 3) := by decide +kernel
theorem dc_27_8 : decode (ax_code 27) 8 = .ok (.astore 4, 2) := by decide +kernel
theorem dc_27_10 : decode (ax_code 27) 10 = .ok (.aload 4, 2) := by decide +kernel
theorem dc_27_12 : decode (ax_code 27) 12 = .ok (.ifnonnull 4, 3) := by decide +kernel
theorem dc_27_15 : decode (ax_code 27) 15 = .ok (.return_, 1) := by decide +kernel
theorem dc_27_16 : decode (ax_code 27) 16 = .ok (.aload_n 1, 1) := by decide +kernel
theorem dc_27_17 : decode (ax_code 27) 17 = .ok (.getfield 45, 3) := by decide +kernel
theorem dc_27_20 : decode (ax_code 27) 20 = .ok (.getfield 57, 3) := by decide +kernel
theorem dc_27_23 : decode (ax_code 27) 23 = .ok (.iload_n 2, 1) := by decide +kernel
theorem dc_27_24 : decode (ax_code 27) 24 = .ok (.iaload, 1) := by decide +kernel
theorem dc_27_25 : decode (ax_code 27) 25 = .ok (.istore 5, 2) := by decide +kernel
theorem dc_27_27 : decode (ax_code 27) 27 = .ok (.aload 4, 2) := by decide +kernel
theorem dc_27_29 : decode (ax_code 27) 29 = .ok (.getfield 60, 3) := by decide +kernel
theorem dc_27_32 : decode (ax_code 27) 32 = .ok (.invokevirtual 66, 3) := by decide +kernel
theorem dc_27_35 : decode (ax_code 27) 35 = .ok (.ifCond .eq 16, 3) := by decide +kernel
theorem dc_27_38 : decode (ax_code 27) 38 = .ok (.aload 4, 2) := by decide +kernel
theorem dc_27_40 : decode (ax_code 27) 40 = .ok (.getfield 72, 3) := by decide +kernel
theorem dc_27_43 : decode (ax_code 27) 43 = .ok (.iload_n 3, 1) := by decide +kernel
theorem dc_27_44 : decode (ax_code 27) 44 = .ok (.if_icmp .eq 7, 3) := by decide +kernel
theorem dc_27_47 : decode (ax_code 27) 47 = .ok (.iconst 1, 1) := by decide +kernel
theorem dc_27_48 : decode (ax_code 27) 48 = .ok (.goto 4, 3) := by decide +kernel
theorem dc_27_51 : decode (ax_code 27) 51 = .ok (.iconst 0, 1) := by decide +kernel
theorem dc_27_52 : decode (ax_code 27) 52 = .ok (.istore 6, 2) := by decide +kernel
theorem dc_27_54 : decode (ax_code 27) 54 = .ok (.iconst 0, 1) := by decide +kernel
theorem dc_27_55 : decode (ax_code 27) 55 = .ok (.istore 7, 2) := by decide +kernel
theorem dc_27_57 : decode (ax_code 27) 57 = .ok (.iconst 0, 1) := by decide +kernel
theorem dc_27_58 : decode (ax_code 27) 58 = .ok (.istore 8, 2) := by decide +kernel
theorem dc_27_60 : decode (ax_code 27) 60 = .ok (.iload 8, 2) := by decide +kernel
theorem dc_27_62 : decode (ax_code 27) 62 = .ok (.aload_n 0, 1) := by decide +kernel
theorem dc_27_63 : decode (ax_code 27) 63 = .ok (.getfield 18, 3) := by decide +kernel
theorem dc_27_66 : decode (ax_code 27) 66 = .ok (.if_icmp .ge 110, 3) := by decide +kernel
theorem dc_27_69 : decode (ax_code 27) 69 = .ok (.iload 6, 2) := by decide +kernel
theorem dc_27_71 : decode (ax_code 27) 71 = .ok (.ifCond .eq 36, 3) := by decide +kernel
theorem dc_27_74 : decode (ax_code 27) 74 = .ok (.aload_n 1, 1) := by decide +kernel
theorem dc_27_75 : decode (ax_code 27) 75 = .ok (.aload 4, 2) := by decide +kernel
theorem dc_27_77 : decode (ax_code 27) 77 = .ok (.getfield 72, 3) := by decide +kernel
theorem dc_27_80 : decode (ax_code 27) 80 = .ok (.iload_n 2, 1) := by decide +kernel
theorem dc_27_81 : decode (ax_code 27) 81 = .ok (.aload_n 1, 1) := by decide +kernel
theorem dc_27_82 : decode (ax_code 27) 82 = .ok (.getfield 45, 3) := by decide +kernel
theorem dc_27_85 : decode (ax_code 27) 85 = .ok (.aload 4, 2) := by decide +kernel
theorem dc_27_87 : decode (ax_code 27) 87 = .ok (.getfield 72, 3) := by decide +kernel
theorem dc_27_90 : decode (ax_code 27) 90 = .ok (.aload_n 0, 1) := by decide +kernel
theorem dc_27_91 : decode (ax_code 27) 91 = .ok (.getfield 9, 3) := by decide +kernel
theorem dc_27_94 : decode (ax_code 27) 94 = .ok (.iload 8, 2) := by decide +kernel
theorem dc_27_96 : decode (ax_code 27) 96 = .ok (.iaload, 1) := by decide +kernel
theorem dc_27_97 : decode (ax_code 27) 97 = .ok (.iload_n 2, 1) := by decide +kernel
theorem dc_27_98 : decode (ax_code 27) 98 = .ok (.invokevirtual 75, 3) := by decide +kernel
theorem dc_27_101 : decode (ax_code 27) 101 = .ok (.invokevirtual 79, 3) := by decide +kernel
theorem dc_27_104 : decode (ax_code 27) 104 = .ok (.goto 4, 3) := by decide +kernel
theorem dc_27_107 : decode (ax_code 27) 107 = .ok (.iconst (-1), 1) := by decide +kernel
theorem dc_27_108 : decode (ax_code 27) 108 = .ok (.istore 9, 2) := by decide +kernel
theorem dc_27_110 : decode (ax_code 27) 110 = .ok (.iconst 0, 1) := by decide +kernel
theorem dc_27_111 : decode (ax_code 27) 111 = .ok (.istore 10, 2) := by decide +kernel
theorem dc_27_113 : decode (ax_code 27) 113 = .ok (.iload 10, 2) := by decide +kernel
theorem dc_27_115 : decode (ax_code 27) 115 = .ok (.iload 5, 2) := by decide +kernel
theorem dc_27_117 : decode (ax_code 27) 117 = .ok (.if_icmp .ge 53, 3) := by decide +kernel
theorem dc_27_120 : decode (ax_code 27) 120 = .ok (.iload 9, 2) := by decide +kernel
theorem dc_27_122 : decode (ax_code 27) 122 = .ok (.iconst (-1), 1) := by decide +kernel
theorem dc_27_123 : decode (ax_code 27) 123 = .ok (.if_icmp .eq 10, 3) := by decide +kernel
theorem dc_27_126 : decode (ax_code 27) 126 = .ok (.iload 9, 2) := by decide +kernel
theorem dc_27_128 : decode (ax_code 27) 128 = .ok (.iload 10, 2) := by decide +kernel
theorem dc_27_130 : decode (ax_code 27) 130 = .ok (.if_icmp .ne 34, 3) := by decide +kernel
theorem dc_27_133 : decode (ax_code 27) 133 = .ok (.iload 7, 2) := by decide +kernel
theorem dc_27_135 : decode (ax_code 27) 135 = .ok (.sipush 1620, 3) := by decide +kernel
theorem dc_27_138 : decode (ax_code 27) 138 = .ok (.if_icmp .ge 26, 3) := by decide +kernel
theorem dc_27_141 : decode (ax_code 27) 141 = .ok (.aload_n 0, 1) := by decide +kernel
theorem dc_27_142 : decode (ax_code 27) 142 = .ok (.getfield 15, 3) := by decide +kernel
theorem dc_27_145 : decode (ax_code 27) 145 = .ok (.iload 7, 2) := by decide +kernel
theorem dc_27_147 : decode (ax_code 27) 147 = .ok (.iinc 7 1, 3) := by decide +kernel
theorem dc_27_150 : decode (ax_code 27) 150 = .ok (.aload_n 0, 1) := by decide +kernel
theorem dc_27_151 : decode (ax_code 27) 151 = .ok (.getfield 9, 3) := by decide +kernel
theorem dc_27_154 : decode (ax_code 27) 154 = .ok (.iload 8, 2) := by decide +kernel
theorem dc_27_156 : decode (ax_code 27) 156 = .ok (.iaload, 1) := by decide +kernel
theorem dc_27_157 : decode (ax_code 27) 157 = .ok (.iload 5, 2) := by decide +kernel
theorem dc_27_159 : decode (ax_code 27) 159 = .ok (.imul, 1) := by decide +kernel
theorem dc_27_160 : decode (ax_code 27) 160 = .ok (.iload 10, 2) := by decide +kernel
theorem dc_27_162 : decode (ax_code 27) 162 = .ok (.iadd, 1) := by decide +kernel
theorem dc_27_163 : decode (ax_code 27) 163 = .ok (.iastore, 1) := by decide +kernel
theorem dc_27_164 : decode (ax_code 27) 164 = .ok (.iinc 10 1, 3) := by decide +kernel
theorem dc_27_167 : decode (ax_code 27) 167 = .ok (.goto (-54), 3) := by decide +kernel
theorem dc_27_170 : decode (ax_code 27) 170 = .ok (.iinc 8 1, 3) := by decide +kernel
theorem dc_27_173 : decode (ax_code 27) 173 = .ok (.goto (-113), 3) := by decide +kernel
theorem dc_27_176 : decode (ax_code 27) 176 = .ok (.aload_n 0, 1) := by decide +kernel
theorem dc_27_177 : decode (ax_code 27) 177 = .ok (.getfield 9, 3) := by decide +kernel
theorem dc_27_180 : decode (ax_code 27) 180 = .ok (.astore 8, 2) := by decide +kernel
theorem dc_27_182 : decode (ax_code 27) 182 = .ok (.aload_n 0, 1) := by decide +kernel
theorem dc_27_183 : decode (ax_code 27) 183 = .ok (.aload_n 0, 1) := by decide +kernel
theorem dc_27_184 : decode (ax_code 27) 184 = .ok (.getfield 15, 3) := by decide +kernel
theorem dc_27_187 : decode (ax_code 27) 187 = .ok (.putfield 9, 3) := by decide +kernel
theorem dc_27_190 : decode (ax_code 27) 190 = .ok (.aload_n 0, 1) := by decide +kernel
theorem dc_27_191 : decode (ax_code 27) 191 = .ok (.aload 8, 2) := by decide +kernel
theorem dc_27_193 : decode (ax_code 27) 193 = .ok (.putfield 15, 3) := by decide +kernel
theorem dc_27_196 : decode (ax_code 27) 196 = .ok (.aload_n 0, 1) := by decide +kernel
theorem dc_27_197 : decode (ax_code 27) 197 = .ok (.iload 7, 2) := by decide +kernel
theorem dc_27_199 : decode (ax_code 27) 199 = .ok (.putfield 18, 3) := by decide +kernel
theorem dc_27_202 : decode (ax_code 27) 202 = .ok (.return_, 1) := by decide +kernel
theorem dc_28_0 : decode (ax_code 28) 0 = .ok (.iload_n 1, 1) := by decide +kernel
theorem dc_28_1 : decode (ax_code 28) 1 = .ok (.ifCond .lt 20, 3) := by decide +kernel
theorem dc_28_4 : decode (ax_code 28) 4 = .ok (.iload_n 1, 1) := by decide +kernel
theorem dc_28_5 : decode (ax_code 28) 5 = .ok (.aload_n 0, 1) := by decide +kernel
theorem dc_28_6 : decode (ax_code 28) 6 = .ok (.getfield 25, 3) := by decide +kernel
theorem dc_28_9 : decode (ax_code 28) 9 = .ok (.if_icmp .ge 12, 3) := by decide +kernel
theorem dc_28_12 : decode (ax_code 28) 12 = .ok (.aload_n 0, 1) := by decide +kernel
theorem dc_28_13 : decode (ax_code 28) 13 = .ok (.getfield 21, 3) := by decide +kernel
theorem dc_28_16 : decode (ax_code 28) 16 = .ok (.iload_n 1, 1) := by decide +kernel
theorem dc_28_17 : decode (ax_code 28) 17 = .ok (.aaload, 1) := by decide +kernel
theorem dc_28_18 : decode (ax_code 28) 18 = .ok (.goto 4, 3) := by decide +kernel
theorem dc_28_21 : decode (ax_code 28) 21 = .ok (.aconst_null, 1) := by decide +kernel
theorem dc_28_22 : decode (ax_code 28) 22 = .ok (.areturn, 1) := by decide +kernel
theorem dc_29_0 : decode (ax_code 29) 0 = .ok (.aload_n 0, 1) := by decide +kernel
theorem dc_29_1 : decode (ax_code 29) 1 = .ok (.getstatic 10, 3) := by decide +kernel
theorem dc_29_4 : decode (ax_code 29) 4 = .ok (.if_acmp .eq 10, 3) := by decide +kernel
theorem dc_29_7 : decode (ax_code 29) 7 = .ok (.aload_n 0, 1) := by decide +kernel
theorem dc_29_8 : decode (ax_code 29) 8 = .ok (.getstatic 13, 3) := by decide +kernel
theorem dc_29_11 : decode (ax_code 29) 11 = .ok (.if_acmp .ne 7, 3) := by decide +kernel
theorem dc_29_14 : decode (ax_code 29) 14 = .ok (.iconst 1, 1) := by decide +kernel
theorem dc_29_15 : decode (ax_code 29) 15 = .ok (.goto 4, 3) := by decide +kernel
theorem dc_29_18 : decode (ax_code 29) 18 = .ok (.iconst 0, 1) := by decide +kernel
theorem dc_29_19 : decode (ax_code 29) 19 = .ok (.ireturn, 1) := by decide +kernel
theorem dc_30_0 : decode (ax_code 30) 0 = .ok (.aload_n 0, 1) := by decide +kernel
theorem dc_30_1 : decode (ax_code 30) 1 = .ok (.getfield 12, 3) := by decide +kernel
theorem dc_30_4 : decode (ax_code 30) 4 = .ok (.iload_n 2, 1) := by decide +kernel
theorem dc_30_5 : decode (ax_code 30) 5 = .ok (.invokevirtual 66, 3) := by decide +kernel
theorem dc_30_8 : decode (ax_code 30) 8 = .ok (.astore 4, 2) := by decide +kernel
theorem dc_30_10 : decode (ax_code 30) 10 = .ok (.aload_n 0, 1) := by decide +kernel
theorem dc_30_11 : decode (ax_code 30) 11 = .ok (.getfield 21, 3) := by decide +kernel
theorem dc_30_14 : decode (ax_code 30) 14 = .ok (.iload_n 1, 1) := by decide +kernel
theorem dc_30_15 : decode (ax_code 30) 15 = .ok (.iload_n 2, 1) := by decide +kernel
theorem dc_30_16 : decode (ax_code 30) 16 = .ok (.iload_n 3, 1) := by decide +kernel
theorem dc_30_17 : decode (ax_code 30) 17 = .ok (.invokevirtual 70, 3) := by decide +kernel
theorem dc_30_20 : decode (ax_code 30) 20 = .ok (.istore 5, 2) := by decide +kernel
theorem dc_30_22 : decode (ax_code 30) 22 = .ok (.aload 4, 2) := by decide +kernel
theorem dc_30_24 : decode (ax_code 30) 24 = .ok (.ifnull 23, 3) := by decide +kernel
theorem dc_30_27 : decode (ax_code 30) 27 = .ok (.iload 5, 2) := by decide +kernel
theorem dc_30_29 : decode (ax_code 30) 29 = .ok (.ifCond .lt 18, 3) := by decide +kernel
theorem dc_30_32 : decode (ax_code 30) 32 = .ok (.iload 5, 2) := by decide +kernel
theorem dc_30_34 : decode (ax_code 30) 34 = .ok (.aload 4, 2) := by decide +kernel
theorem dc_30_36 : decode (ax_code 30) 36 = .ok (.getfield 74, 3) := by decide +kernel
theorem dc_30_39 : decode (ax_code 30) 39 = .ok (.if_icmp .ge 8, 3) := by decide +kernel
theorem dc_30_42 : decode (ax_code 30) 42 = .ok (.iload 5, 2) := by decide +kernel
theorem dc_30_44 : decode (ax_code 30) 44 = .ok (.goto 4, 3) := by decide +kernel
theorem dc_30_47 : decode (ax_code 30) 47 = .ok (.iconst 0, 1) := by decide +kernel
theorem dc_30_48 : decode (ax_code 30) 48 = .ok (.ireturn, 1) := by decide +kernel
theorem dc_31_0 : decode (ax_code 31) 0 = .ok (.iload_n 1, 1) := by decide +kernel
theorem dc_31_1 : decode (ax_code 31) 1 = .ok (.iload_n 2, 1) := by decide +kernel
theorem dc_31_2 : decode (ax_code 31) 2 = .ok (.iload_n 3, 1) := by decide +kernel
theorem dc_31_3 : decode (ax_code 31) 3 = .ok (.invokestatic 22, 3) := by decide +kernel
theorem dc_31_6 : decode (ax_code 31) 6 = .ok (.istore 4, 2) := by decide +kernel
theorem dc_31_8 : decode (ax_code 31) 8 = .ok (.iconst 0, 1) := by decide +kernel
theorem dc_31_9 : decode (ax_code 31) 9 = .ok (.istore 5, 2) := by decide +kernel
theorem dc_31_11 : decode (ax_code 31) 11 = .ok (.iload 5, 2) := by decide +kernel
theorem dc_31_13 : decode (ax_code 31) 13 = .ok (.aload_n 0, 1) := by decide +kernel
theorem dc_31_14 : decode (ax_code 31) 14 = .ok (.getfield 18, 3) := by decide +kernel
theorem dc_31_17 : decode (ax_code 31) 17 = .ok (.if_icmp .ge 29, 3) := by decide +kernel
theorem dc_31_20 : decode (ax_code 31) 20 = .ok (.aload_n 0, 1) := by decide +kernel
theorem dc_31_21 : decode (ax_code 31) 21 = .ok (.getfield 9, 3) := by decide +kernel
theorem dc_31_24 : decode (ax_code 31) 24 = .ok (.iload 5, 2) := by decide +kernel
theorem dc_31_26 : decode (ax_code 31) 26 = .ok (.iaload, 1) := by decide +kernel
theorem dc_31_27 : decode (ax_code 31) 27 = .ok (.iload 4, 2) := by decide +kernel
theorem dc_31_29 : decode (ax_code 31) 29 = .ok (.if_icmp .ne 11, 3) := by decide +kernel
theorem dc_31_32 : decode (ax_code 31) 32 = .ok (.aload_n 0, 1) := by decide +kernel
theorem dc_31_33 : decode (ax_code 31) 33 = .ok (.getfield 15, 3) := by decide +kernel
theorem dc_31_36 : decode (ax_code 31) 36 = .ok (.iload 5, 2) := by decide +kernel
theorem dc_31_38 : decode (ax_code 31) 38 = .ok (.iaload, 1) := by decide +kernel
theorem dc_31_39 : decode (ax_code 31) 39 = .ok (.ireturn, 1) := by decide +kernel
theorem dc_31_40 : decode (ax_code 31) 40 = .ok (.iinc 5 1, 3) := by decide +kernel
theorem dc_31_43 : decode (ax_code 31) 43 = .ok (.goto (-32), 3) := by decide +kernel
theorem dc_31_46 : decode (ax_code 31) 46 = .ok (.iconst (-1), 1) := by decide +kernel
theorem dc_31_47 : decode (ax_code 31) 47 = .ok (.ireturn, 1) := by decide +kernel
theorem dc_32_0 : decode (ax_code 32) 0 = .ok (.iload_n 2, 1) := by decide +kernel
theorem dc_32_1 : decode (ax_code 32) 1 = .ok (.iconst 3, 1) := by decide +kernel
theorem dc_32_2 : decode (ax_code 32) 2 = .ok (.ishl, 1) := by decide +kernel
theorem dc_32_3 : decode (ax_code 32) 3 = .ok (.iload_n 1, 1) := by decide +kernel
theorem dc_32_4 : decode (ax_code 32) 4 = .ok (.ior, 1) := by decide +kernel
theorem dc_32_5 : decode (ax_code 32) 5 = .ok (.iconst 2, 1) := by decide +kernel
theorem dc_32_6 : decode (ax_code 32) 6 = .ok (.ishl, 1) := by decide +kernel
theorem dc_32_7 : decode (ax_code 32) 7 = .ok (.iload_n 0, 1) := by decide +kernel
theorem dc_32_8 : decode (ax_code 32) 8 = .ok (.ior, 1) := by decide +kernel
theorem dc_32_9 : decode (ax_code 32) 9 = .ok (.ireturn, 1) := by decide +kernel
theorem dc_33_0 : decode (ax_code 33) 0 = .ok (.iconst 0, 1) := by decide +kernel
theorem dc_33_1 : decode (ax_code 33) 1 = .ok (.istore 5, 2) := by decide +kernel
theorem dc_33_3 : decode (ax_code 33) 3 = .ok (.iconst 0, 1) := by decide +kernel
theorem dc_33_4 : decode (ax_code 33) 4 = .ok (.istore 6, 2) := by decide +kernel
theorem dc_33_6 : decode (ax_code 33) 6 = .ok (.iload 6, 2) := by decide +kernel
theorem dc_33_8 : decode (ax_code 33) 8 = .ok (.aload_n 0, 1) := by decide +kernel
theorem dc_33_9 : decode (ax_code 33) 9 = .ok (.getfield 18, 3) := by decide +kernel
theorem dc_33_12 : decode (ax_code 33) 12 = .ok (.if_icmp .ge 30, 3) := by decide +kernel
theorem dc_33_15 : decode (ax_code 33) 15 = .ok (.aload_n 1, 1) := by decide +kernel
theorem dc_33_16 : decode (ax_code 33) 16 = .ok (.iload_n 2, 1) := by decide +kernel
theorem dc_33_17 : decode (ax_code 33) 17 = .ok (.aload_n 0, 1) := by decide +kernel
theorem dc_33_18 : decode (ax_code 33) 18 = .ok (.getfield 9, 3) := by decide +kernel
theorem dc_33_21 : decode (ax_code 33) 21 = .ok (.iload 6, 2) := by decide +kernel
theorem dc_33_23 : decode (ax_code 33) 23 = .ok (.iaload, 1) := by decide +kernel
theorem dc_33_24 : decode (ax_code 33) 24 = .ok (.iload_n 3, 1) := by decide +kernel
theorem dc_33_25 : decode (ax_code 33) 25 = .ok (.invokevirtual 75, 3) := by decide +kernel
theorem dc_33_28 : decode (ax_code 33) 28 = .ok (.iload 4, 2) := by decide +kernel
theorem dc_33_30 : decode (ax_code 33) 30 = .ok (.if_icmp .ne 6, 3) := by decide +kernel
theorem dc_33_33 : decode (ax_code 33) 33 = .ok (.iinc 5 1, 3) := by decide +kernel
theorem dc_33_36 : decode (ax_code 33) 36 = .ok (.iinc 6 1, 3) := by decide +kernel
theorem dc_33_39 : decode (ax_code 33) 39 = .ok (.goto (-33), 3) := by decide +kernel
theorem dc_33_42 : decode (ax_code 33) 42 = .ok (.iload 5, 2) := by decide +kernel
theorem dc_33_44 : decode (ax_code 33) 44 = .ok (.ireturn, 1) := by decide +kernel
theorem dc_34_0 : decode (ax_code 34) 0 = .ok (.iconst 0, 1) := by decide +kernel
theorem dc_34_1 : decode (ax_code 34) 1 = .ok (.istore 7, 2) := by decide +kernel
theorem dc_34_3 : decode (ax_code 34) 3 = .ok (.iconst 0, 1) := by decide +kernel
theorem dc_34_4 : decode (ax_code 34) 4 = .ok (.istore 8, 2) := by decide +kernel
theorem dc_34_6 : decode (ax_code 34) 6 = .ok (.iload 8, 2) := by decide +kernel
theorem dc_34_8 : decode (ax_code 34) 8 = .ok (.aload_n 0, 1) := by decide +kernel
theorem dc_34_9 : decode (ax_code 34) 9 = .ok (.getfield 18, 3) := by decide +kernel
theorem dc_34_12 : decode (ax_code 34) 12 = .ok (.if_icmp .ge 42, 3) := by decide +kernel
theorem dc_34_15 : decode (ax_code 34) 15 = .ok (.aload_n 1, 1) := by decide +kernel
theorem dc_34_16 : decode (ax_code 34) 16 = .ok (.iload_n 2, 1) := by decide +kernel
theorem dc_34_17 : decode (ax_code 34) 17 = .ok (.aload_n 0, 1) := by decide +kernel
theorem dc_34_18 : decode (ax_code 34) 18 = .ok (.getfield 9, 3) := by decide +kernel
theorem dc_34_21 : decode (ax_code 34) 21 = .ok (.iload 8, 2) := by decide +kernel
theorem dc_34_23 : decode (ax_code 34) 23 = .ok (.iaload, 1) := by decide +kernel
theorem dc_34_24 : decode (ax_code 34) 24 = .ok (.iload_n 3, 1) := by decide +kernel
theorem dc_34_25 : decode (ax_code 34) 25 = .ok (.invokevirtual 75, 3) := by decide +kernel
theorem dc_34_28 : decode (ax_code 34) 28 = .ok (.iload 4, 2) := by decide +kernel
theorem dc_34_30 : decode (ax_code 34) 30 = .ok (.if_icmp .ne 18, 3) := by decide +kernel
theorem dc_34_33 : decode (ax_code 34) 33 = .ok (.aload_n 1, 1) := by decide +kernel
theorem dc_34_34 : decode (ax_code 34) 34 = .ok (.getfield 82, 3) := by decide +kernel
theorem dc_34_37 : decode (ax_code 34) 37 = .ok (.iload 5, 2) := by decide +kernel
theorem dc_34_39 : decode (ax_code 34) 39 = .ok (.iaload, 1) := by decide +kernel
theorem dc_34_40 : decode (ax_code 34) 40 = .ok (.iload 6, 2) := by decide +kernel
theorem dc_34_42 : decode (ax_code 34) 42 = .ok (.if_icmp .ne 6, 3) := by decide +kernel
theorem dc_34_45 : decode (ax_code 34) 45 = .ok (.iinc 7 1, 3) := by decide +kernel
theorem dc_34_48 : decode (ax_code 34) 48 = .ok (.iinc 8 1, 3) := by decide +kernel
theorem dc_34_51 : decode (ax_code 34) 51 = .ok (.goto (-45), 3) := by decide +kernel
theorem dc_34_54 : decode (ax_code 34) 54 = .ok (.iload 7, 2) := by decide +kernel
theorem dc_34_56 : decode (ax_code 34) 56 = .ok (.ireturn, 1) := by decide +kernel
theorem dc_35_0 : decode (ax_code 35) 0 = .ok (.lload_n 0, 1) := by decide +kernel
theorem dc_35_1 : decode (ax_code 35) 1 = .ok (.invokestatic 381, 3) := by decide +kernel
theorem dc_35_4 : decode (ax_code 35) 4 = .ok (.lload_n 2, 1) := by decide +kernel
theorem dc_35_5 : decode (ax_code 35) 5 = .ok (.invokestatic 303, 3) := by decide +kernel
theorem dc_35_8 : decode (ax_code 35) 8 = .ok (.lstore 5, 2) := by decide +kernel
theorem dc_35_10 : decode (ax_code 35) 10 = .ok (.iload 4, 2) := by decide +kernel
theorem dc_35_12 : decode (ax_code 35) 12 = .ok (.ifCond .ne 10, 3) := by decide +kernel
theorem dc_35_15 : decode (ax_code 35) 15 = .ok (.lload_n 0, 1) := by decide +kernel
theorem dc_35_16 : decode (ax_code 35) 16 = .ok (.lload 5, 2) := by decide +kernel
theorem dc_35_18 : decode (ax_code 35) 18 = .ok (.ldiv, 1) := by decide +kernel
theorem dc_35_19 : decode (ax_code 35) 19 = .ok (.goto 7, 3) := by decide +kernel
theorem dc_35_22 : decode (ax_code 35) 22 = .ok (.lload_n 2, 1) := by decide +kernel
theorem dc_35_23 : decode (ax_code 35) 23 = .ok (.lload 5, 2) := by decide +kernel
theorem dc_35_25 : decode (ax_code 35) 25 = .ok (.ldiv, 1) := by decide +kernel
theorem dc_35_26 : decode (ax_code 35) 26 = .ok (.lreturn, 1) := by decide +kernel
theorem dc_37_0 : decode (ax_code 37) 0 = .ok (.lload_n 0, 1) := by decide +kernel
theorem dc_37_1 : decode (ax_code 37) 1 = .ok (.lstore 4, 2) := by decide +kernel
theorem dc_37_3 : decode (ax_code 37) 3 = .ok (.lload_n 2, 1) := by decide +kernel
theorem dc_37_4 : decode (ax_code 37) 4 = .ok (.lstore 6, 2) := by decide +kernel
theorem dc_37_6 : decode (ax_code 37) 6 = .ok (.iconst 0, 1) := by decide +kernel
theorem dc_37_7 : decode (ax_code 37) 7 = .ok (.istore 8, 2) := by decide +kernel
theorem dc_37_9 : decode (ax_code 37) 9 = .ok (.iload 8, 2) := by decide +kernel
theorem dc_37_11 : decode (ax_code 37) 11 = .ok (.sipush 200, 3) := by decide +kernel
theorem dc_37_14 : decode (ax_code 37) 14 = .ok (.if_icmp .ge 31, 3) := by decide +kernel
theorem dc_37_17 : decode (ax_code 37) 17 = .ok (.lload 6, 2) := by decide +kernel
theorem dc_37_19 : decode (ax_code 37) 19 = .ok (.lconst 0, 1) := by decide +kernel
theorem dc_37_20 : decode (ax_code 37) 20 = .ok (.lcmp, 1) := by decide +kernel
theorem dc_37_21 : decode (ax_code 37) 21 = .ok (.ifCond .eq 24, 3) := by decide +kernel
theorem dc_37_24 : decode (ax_code 37) 24 = .ok (.lload 4, 2) := by decide +kernel
theorem dc_37_26 : decode (ax_code 37) 26 = .ok (.lload 6, 2) := by decide +kernel
theorem dc_37_28 : decode (ax_code 37) 28 = .ok (.lrem, 1) := by decide +kernel
theorem dc_37_29 : decode (ax_code 37) 29 = .ok (.lstore 9, 2) := by decide +kernel
theorem dc_37_31 : decode (ax_code 37) 31 = .ok (.lload 6, 2) := by decide +kernel
theorem dc_37_33 : decode (ax_code 37) 33 = .ok (.lstore 4, 2) := by decide +kernel
theorem dc_37_35 : decode (ax_code 37) 35 = .ok (.lload 9, 2) := by decide +kernel
theorem dc_37_37 : decode (ax_code 37) 37 = .ok (.lstore 6, 2) := by decide +kernel
theorem dc_37_39 : decode (ax_code 37) 39 = .ok (.iinc 8 1, 3) := by decide +kernel
theorem dc_37_42 : decode (ax_code 37) 42 = .ok (.goto (-33), 3) := by decide +kernel
theorem dc_37_45 : decode (ax_code 37) 45 = .ok (.lconst 1, 1) := by decide +kernel
theorem dc_37_46 : decode (ax_code 37) 46 = .ok (.lload 4, 2) := by decide +kernel
theorem dc_37_48 : decode (ax_code 37) 48 = .ok (.invokestatic 385, 3) := by decide +kernel
theorem dc_37_51 : decode (ax_code 37) 51 = .ok (.lreturn, 1) := by decide +kernel
theorem dc_39_0 : decode (ax_code 39) 0 = .ok (.iload_n 1, 1) := by decide +kernel
theorem dc_39_1 : decode (ax_code 39) 1 = .ok (.invokestatic 173, 3) := by decide +kernel
theorem dc_39_4 : decode (ax_code 39) 4 = .ok (.ifCond .ne 6, 3) := by decide +kernel
theorem dc_39_7 : decode (ax_code 39) 7 = .ok (.bipush (-2), 2) := by decide +kernel
theorem dc_39_9 : decode (ax_code 39) 9 = .ok (.ireturn, 1) := by decide +kernel
theorem dc_39_10 : decode (ax_code 39) 10 = .ok (.aload_n 0, 1) := by decide +kernel
theorem dc_39_11 : decode (ax_code 39) 11 = .ok (.getfield 26, 3) := by decide +kernel
theorem dc_39_14 : decode (ax_code 39) 14 = .ok (.aload_n 0, 1) := by decide +kernel
theorem dc_39_15 : decode (ax_code 39) 15 = .ok (.getfield 10, 3) := by decide +kernel
theorem dc_39_18 : decode (ax_code 39) 18 = .ok (.getfield 77, 3) := by decide +kernel
theorem dc_39_21 : decode (ax_code 39) 21 = .ok (.iload_n 1, 1) := by decide +kernel
theorem dc_39_22 : decode (ax_code 39) 22 = .ok (.invokevirtual 205, 3) := by decide +kernel
theorem dc_39_25 : decode (ax_code 39) 25 = .ok (.aload_n 0, 1) := by decide +kernel
theorem dc_39_26 : decode (ax_code 39) 26 = .ok (.getfield 26, 3) := by decide +kernel
theorem dc_39_29 : decode (ax_code 39) 29 = .ok (.getfield 209, 3) := by decide +kernel
theorem dc_39_32 : decode (ax_code 39) 32 = .ok (.ireturn, 1) := by decide +kernel
theorem dc_40_0 : decode (ax_code 40) 0 = .ok (.aload_n 0, 1) := by decide +kernel
theorem dc_40_1 : decode (ax_code 40) 1 = .ok (.iconst 0, 1) := by decide +kernel
theorem dc_40_2 : decode (ax_code 40) 2 = .ok (.putfield 21, 3) := by decide +kernel
theorem dc_40_5 : decode (ax_code 40) 5 = .ok (.iconst 0, 1) := by decide +kernel
theorem dc_40_6 : decode (ax_code 40) 6 = .ok (.istore_n 3, 1) := by decide +kernel
theorem dc_40_7 : decode (ax_code 40) 7 = .ok (.iload_n 3, 1) := by decide +kernel
theorem dc_40_8 : decode (ax_code 40) 8 = .ok (.aload_n 1, 1) := by decide +kernel
theorem dc_40_9 : decode (ax_code 40) 9 = .ok (.getfield 31, 3) := by decide +kernel
theorem dc_40_12 : decode (ax_code 40) 12 = .ok (.if_icmp .ge 25, 3) := by decide +kernel
theorem dc_40_15 : decode (ax_code 40) 15 = .ok (.aload_n 1, 1) := by decide +kernel
theorem dc_40_16 : decode (ax_code 40) 16 = .ok (.iload_n 2, 1) := by decide +kernel
theorem dc_40_17 : decode (ax_code 40) 17 = .ok (.iload_n 3, 1) := by decide +kernel
theorem dc_40_18 : decode (ax_code 40) 18 = .ok (.invokevirtual 36, 3) := by decide +kernel
theorem dc_40_21 : decode (ax_code 40) 21 = .ok (.ifCond .eq 10, 3) := by decide +kernel
theorem dc_40_24 : decode (ax_code 40) 24 = .ok (.aload_n 0, 1) := by decide +kernel
theorem dc_40_25 : decode (ax_code 40) 25 = .ok (.aload_n 1, 1) := by decide +kernel
theorem dc_40_26 : decode (ax_code 40) 26 = .ok (.iload_n 2, 1) := by decide +kernel
theorem dc_40_27 : decode (ax_code 40) 27 = .ok (.iload_n 3, 1) := by decide +kernel
theorem dc_40_28 : decode (ax_code 40) 28 = .ok (.invokevirtual 40, 3) := by decide +kernel
theorem dc_40_31 : decode (ax_code 40) 31 = .ok (.iinc 3 1, 3) := by decide +kernel
theorem dc_40_34 : decode (ax_code 40) 34 = .ok (.goto (-27), 3) := by decide +kernel
theorem dc_40_37 : decode (ax_code 40) 37 = .ok (.return_, 1) := by decide +kernel
theorem dc_41_0 : decode (ax_code 41) 0 = .ok (.aload_n 0, 1) := by decide +kernel
theorem dc_41_1 : decode (ax_code 41) 1 = .ok (.iload_n 2, 1) := by decide +kernel
theorem dc_41_2 : decode (ax_code 41) 2 = .ok (.invokevirtual 67, 3) := by decide +kernel
theorem dc_41_5 : decode (ax_code 41) 5 = .ok (.astore_n 3, 1) := by decide +kernel
theorem dc_41_6 : decode (ax_code 41) 6 = .ok (.aload_n 3, 1) := by decide +kernel
theorem dc_41_7 : decode (ax_code 41) 7 = .ok (.ifnull 25, 3) := by decide +kernel
theorem dc_41_10 : decode (ax_code 41) 10 = .ok (.aload_n 3, 1) := by decide +kernel
theorem dc_41_11 : decode (ax_code 41) 11 = .ok (.getfield 71, 3) := by decide +kernel
theorem dc_41_14 : decode (ax_code 41) 14 = .ok (.invokevirtual 78, 3) := by decide +kernel
theorem dc_41_17 : decode (ax_code 41) 17 = .ok (.ifCond .eq 15, 3) := by decide +kernel
theorem dc_41_20 : decode (ax_code 41) 20 = .ok (.aload_n 3, 1) := by decide +kernel
theorem dc_41_21 : decode (ax_code 41) 21 = .ok (.getfield 81, 3) := by decide +kernel
theorem dc_41_24 : decode (ax_code 41) 24 = .ok (.iload_n 1, 1) := by decide +kernel
theorem dc_41_25 : decode (ax_code 41) 25 = .ok (.if_icmp .ne 7, 3) := by decide +kernel
theorem dc_41_28 : decode (ax_code 41) 28 = .ok (.iconst 1, 1) := by decide +kernel
theorem dc_41_29 : decode (ax_code 41) 29 = .ok (.goto 4, 3) := by decide +kernel
theorem dc_41_32 : decode (ax_code 41) 32 = .ok (.iconst 0, 1) := by decide +kernel
theorem dc_41_33 : decode (ax_code 41) 33 = .ok (.ireturn, 1) := by decide +kernel
theorem dc_42_0 : decode (ax_code 42) 0 = .ok (.aload_n 1, 1) := by decide +kernel
theorem dc_42_1 : decode (ax_code 42) 1 = .ok (.getfield 44, 3) := by decide +kernel
theorem dc_42_4 : decode (ax_code 42) 4 = .ok (.iload_n 3, 1) := by decide +kernel
theorem dc_42_5 : decode (ax_code 42) 5 = .ok (.iaload, 1) := by decide +kernel
theorem dc_42_6 : decode (ax_code 42) 6 = .ok (.istore 4, 2) := by decide +kernel
theorem dc_42_8 : decode (ax_code 42) 8 = .ok (.iconst 0, 1) := by decide +kernel
theorem dc_42_9 : decode (ax_code 42) 9 = .ok (.istore 5, 2) := by decide +kernel
theorem dc_42_11 : decode (ax_code 42) 11 = .ok (.iload 5, 2) := by decide +kernel
theorem dc_42_13 : decode (ax_code 42) 13 = .ok (.iload 4, 2) := by decide +kernel
theorem dc_42_15 : decode (ax_code 42) 15 = .ok (.if_icmp .ge 24, 3) := by decide +kernel
theorem dc_42_18 : decode (ax_code 42) 18 = .ok (.aload_n 0, 1) := by decide +kernel
theorem dc_42_19 : decode (ax_code 42) 19 = .ok (.getfield 25, 3) := by decide +kernel
theorem dc_42_22 : decode (ax_code 42) 22 = .ok (.iload 5, 2) := by decide +kernel
theorem dc_42_24 : decode (ax_code 42) 24 = .ok (.aload_n 1, 1) := by decide +kernel
theorem dc_42_25 : decode (ax_code 42) 25 = .ok (.iload_n 2, 1) := by decide +kernel
theorem dc_42_26 : decode (ax_code 42) 26 = .ok (.iload 5, 2) := by decide +kernel
theorem dc_42_28 : decode (ax_code 42) 28 = .ok (.iload_n 3, 1) := by decide +kernel
theorem dc_42_29 : decode (ax_code 42) 29 = .ok (.invokevirtual 47, 3) := by decide +kernel
theorem dc_42_32 : decode (ax_code 42) 32 = .ok (.iastore, 1) := by decide +kernel
theorem dc_42_33 : decode (ax_code 42) 33 = .ok (.iinc 5 1, 3) := by decide +kernel
theorem dc_42_36 : decode (ax_code 42) 36 = .ok (.goto (-25), 3) := by decide +kernel
theorem dc_42_39 : decode (ax_code 42) 39 = .ok (.aload_n 0, 1) := by decide +kernel
theorem dc_42_40 : decode (ax_code 42) 40 = .ok (.iload 4, 2) := by decide +kernel
theorem dc_42_42 : decode (ax_code 42) 42 = .ok (.invokevirtual 51, 3) := by decide +kernel
theorem dc_42_45 : decode (ax_code 42) 45 = .ok (.iconst 0, 1) := by decide +kernel
theorem dc_42_46 : decode (ax_code 42) 46 = .ok (.istore 5, 2) := by decide +kernel
theorem dc_42_48 : decode (ax_code 42) 48 = .ok (.iload 5, 2) := by decide +kernel
theorem dc_42_50 : decode (ax_code 42) 50 = .ok (.iload 4, 2) := by decide +kernel
theorem dc_42_52 : decode (ax_code 42) 52 = .ok (.if_icmp .ge 107, 3) := by decide +kernel
theorem dc_42_55 : decode (ax_code 42) 55 = .ok (.iload 5, 2) := by decide +kernel
theorem dc_42_57 : decode (ax_code 42) 57 = .ok (.ifCond .le 40, 3) := by decide +kernel
theorem dc_42_60 : decode (ax_code 42) 60 = .ok (.aload_n 0, 1) := by decide +kernel
theorem dc_42_61 : decode (ax_code 42) 61 = .ok (.getfield 25, 3) := by decide +kernel
theorem dc_42_64 : decode (ax_code 42) 64 = .ok (.iload 5, 2) := by decide +kernel
theorem dc_42_66 : decode (ax_code 42) 66 = .ok (.iaload, 1) := by decide +kernel
theorem dc_42_67 : decode (ax_code 42) 67 = .ok (.aload_n 0, 1) := by decide +kernel
theorem dc_42_68 : decode (ax_code 42) 68 = .ok (.getfield 25, 3) := by decide +kernel
theorem dc_42_71 : decode (ax_code 42) 71 = .ok (.iload 5, 2) := by decide +kernel
theorem dc_42_73 : decode (ax_code 42) 73 = .ok (.iconst 1, 1) := by decide +kernel
theorem dc_42_74 : decode (ax_code 42) 74 = .ok (.isub, 1) := by decide +kernel
theorem dc_42_75 : decode (ax_code 42) 75 = .ok (.iaload, 1) := by decide +kernel
theorem dc_42_76 : decode (ax_code 42) 76 = .ok (.if_icmp .ne 21, 3) := by decide +kernel
theorem dc_42_79 : decode (ax_code 42) 79 = .ok (.aload_n 0, 1) := by decide +kernel
theorem dc_42_80 : decode (ax_code 42) 80 = .ok (.getfield 18, 3) := by decide +kernel
theorem dc_42_83 : decode (ax_code 42) 83 = .ok (.aload_n 0, 1) := by decide +kernel
theorem dc_42_84 : decode (ax_code 42) 84 = .ok (.getfield 21, 3) := by decide +kernel
theorem dc_42_87 : decode (ax_code 42) 87 = .ok (.iconst 1, 1) := by decide +kernel
theorem dc_42_88 : decode (ax_code 42) 88 = .ok (.isub, 1) := by decide +kernel
theorem dc_42_89 : decode (ax_code 42) 89 = .ok (.dup2, 1) := by decide +kernel
theorem dc_42_90 : decode (ax_code 42) 90 = .ok (.iaload, 1) := by decide +kernel
theorem dc_42_91 : decode (ax_code 42) 91 = .ok (.iconst 1, 1) := by decide +kernel
theorem dc_42_92 : decode (ax_code 42) 92 = .ok (.iadd, 1) := by decide +kernel
theorem dc_42_93 : decode (ax_code 42) 93 = .ok (.iastore, 1) := by decide +kernel
theorem dc_42_94 : decode (ax_code 42) 94 = .ok (.goto 59, 3) := by decide +kernel
theorem dc_42_97 : decode (ax_code 42) 97 = .ok (.aload_n 0, 1) := by decide +kernel
theorem dc_42_98 : decode (ax_code 42) 98 = .ok (.getfield 21, 3) := by decide +kernel
theorem dc_42_101 : decode (ax_code 42) 101 = .ok (.sipush 806, 3) := by decide +kernel
theorem dc_42_104 : decode (ax_code 42) 104 = .ok (.if_icmp .ge 49, 3) := by decide +kernel
theorem dc_42_107 : decode (ax_code 42) 107 = .ok (.aload_n 0, 1) := by decide +kernel
theorem dc_42_108 : decode (ax_code 42) 108 = .ok (.getfield 9, 3) := by decide +kernel
theorem dc_42_111 : decode (ax_code 42) 111 = .ok (.aload_n 0, 1) := by decide +kernel
theorem dc_42_112 : decode (ax_code 42) 112 = .ok (.getfield 21, 3) := by decide +kernel
theorem dc_42_115 : decode (ax_code 42) 115 = .ok (.iload_n 3, 1) := by decide +kernel
theorem dc_42_116 : decode (ax_code 42) 116 = .ok (.iastore, 1) := by decide +kernel
theorem dc_42_117 : decode (ax_code 42) 117 = .ok (.aload_n 0, 1) := by decide +kernel
theorem dc_42_118 : decode (ax_code 42) 118 = .ok (.getfield 15, 3) := by decide +kernel
theorem dc_42_121 : decode (ax_code 42) 121 = .ok (.aload_n 0, 1) := by decide +kernel
theorem dc_42_122 : decode (ax_code 42) 122 = .ok (.getfield 21, 3) := by decide +kernel
theorem dc_42_125 : decode (ax_code 42) 125 = .ok (.aload_n 0, 1) := by decide +kernel
theorem dc_42_126 : decode (ax_code 42) 126 = .ok (.getfield 25, 3) := by decide +kernel
theorem dc_42_129 : decode (ax_code 42) 129 = .ok (.iload 5, 2) := by decide +kernel
theorem dc_42_131 : decode (ax_code 42) 131 = .ok (.iaload, 1) := by decide +kernel
theorem dc_42_132 : decode (ax_code 42) 132 = .ok (.iastore, 1) := by decide +kernel
theorem dc_42_133 : decode (ax_code 42) 133 = .ok (.aload_n 0, 1) := by decide +kernel
theorem dc_42_134 : decode (ax_code 42) 134 = .ok (.getfield 18, 3) := by decide +kernel
theorem dc_42_137 : decode (ax_code 42) 137 = .ok (.aload_n 0, 1) := by decide +kernel
theorem dc_42_138 : decode (ax_code 42) 138 = .ok (.getfield 21, 3) := by decide +kernel
theorem dc_42_141 : decode (ax_code 42) 141 = .ok (.iconst 1, 1) := by decide +kernel
theorem dc_42_142 : decode (ax_code 42) 142 = .ok (.iastore, 1) := by decide +kernel
theorem dc_42_143 : decode (ax_code 42) 143 = .ok (.aload_n 0, 1) := by decide +kernel
theorem dc_42_144 : decode (ax_code 42) 144 = .ok (.dup, 1) := by decide +kernel
theorem dc_42_145 : decode (ax_code 42) 145 = .ok (.getfield 21, 3) := by decide +kernel
theorem dc_42_148 : decode (ax_code 42) 148 = .ok (.iconst 1, 1) := by decide +kernel
theorem dc_42_149 : decode (ax_code 42) 149 = .ok (.iadd, 1) := by decide +kernel
theorem dc_42_150 : decode (ax_code 42) 150 = .ok (.putfield 21, 3) := by decide +kernel
theorem dc_42_153 : decode (ax_code 42) 153 = .ok (.iinc 5 1, 3) := by decide +kernel
theorem dc_42_156 : decode (ax_code 42) 156 = .ok (.goto (-108), 3) := by decide +kernel
theorem dc_42_159 : decode (ax_code 42) 159 = .ok (.return_, 1) := by decide +kernel
theorem dc_43_0 : decode (ax_code 43) 0 = .ok (.iload_n 1, 1) := by decide +kernel
theorem dc_43_1 : decode (ax_code 43) 1 = .ok (.iconst 2, 1) := by decide +kernel
theorem dc_43_2 : decode (ax_code 43) 2 = .ok (.idiv, 1) := by decide +kernel
theorem dc_43_3 : decode (ax_code 43) 3 = .ok (.istore_n 2, 1) := by decide +kernel
theorem dc_43_4 : decode (ax_code 43) 4 = .ok (.iload_n 2, 1) := by decide +kernel
theorem dc_43_5 : decode (ax_code 43) 5 = .ok (.ifCond .le 88, 3) := by decide +kernel
theorem dc_43_8 : decode (ax_code 43) 8 = .ok (.iload_n 2, 1) := by decide +kernel
theorem dc_43_9 : decode (ax_code 43) 9 = .ok (.istore_n 3, 1) := by decide +kernel
theorem dc_43_10 : decode (ax_code 43) 10 = .ok (.iload_n 3, 1) := by decide +kernel
theorem dc_43_11 : decode (ax_code 43) 11 = .ok (.iload_n 1, 1) := by decide +kernel
theorem dc_43_12 : decode (ax_code 43) 12 = .ok (.if_icmp .ge 74, 3) := by decide +kernel
theorem dc_43_15 : decode (ax_code 43) 15 = .ok (.aload_n 0, 1) := by decide +kernel
theorem dc_43_16 : decode (ax_code 43) 16 = .ok (.getfield 25, 3) := by decide +kernel
theorem dc_43_19 : decode (ax_code 43) 19 = .ok (.iload_n 3, 1) := by decide +kernel
theorem dc_43_20 : decode (ax_code 43) 20 = .ok (.iaload, 1) := by decide +kernel
theorem dc_43_21 : decode (ax_code 43) 21 = .ok (.istore 4, 2) := by decide +kernel
theorem dc_43_23 : decode (ax_code 43) 23 = .ok (.iload_n 3, 1) := by decide +kernel
theorem dc_43_24 : decode (ax_code 43) 24 = .ok (.istore 5, 2) := by decide +kernel
theorem dc_43_26 : decode (ax_code 43) 26 = .ok (.iload 5, 2) := by decide +kernel
theorem dc_43_28 : decode (ax_code 43) 28 = .ok (.iload_n 2, 1) := by decide +kernel
theorem dc_43_29 : decode (ax_code 43) 29 = .ok (.if_icmp .lt 42, 3) := by decide +kernel
theorem dc_43_32 : decode (ax_code 43) 32 = .ok (.aload_n 0, 1) := by decide +kernel
theorem dc_43_33 : decode (ax_code 43) 33 = .ok (.getfield 25, 3) := by decide +kernel
theorem dc_43_36 : decode (ax_code 43) 36 = .ok (.iload 5, 2) := by decide +kernel
theorem dc_43_38 : decode (ax_code 43) 38 = .ok (.iload_n 2, 1) := by decide +kernel
theorem dc_43_39 : decode (ax_code 43) 39 = .ok (.isub, 1) := by decide +kernel
theorem dc_43_40 : decode (ax_code 43) 40 = .ok (.iaload, 1) := by decide +kernel
theorem dc_43_41 : decode (ax_code 43) 41 = .ok (.iload 4, 2) := by decide +kernel
theorem dc_43_43 : decode (ax_code 43) 43 = .ok (.if_icmp .le 28, 3) := by decide +kernel
theorem dc_43_46 : decode (ax_code 43) 46 = .ok (.aload_n 0, 1) := by decide +kernel
theorem dc_43_47 : decode (ax_code 43) 47 = .ok (.getfield 25, 3) := by decide +kernel
theorem dc_43_50 : decode (ax_code 43) 50 = .ok (.iload 5, 2) := by decide +kernel
theorem dc_43_52 : decode (ax_code 43) 52 = .ok (.aload_n 0, 1) := by decide +kernel
theorem dc_43_53 : decode (ax_code 43) 53 = .ok (.getfield 25, 3) := by decide +kernel
theorem dc_43_56 : decode (ax_code 43) 56 = .ok (.iload 5, 2) := by decide +kernel
theorem dc_43_58 : decode (ax_code 43) 58 = .ok (.iload_n 2, 1) := by decide +kernel
theorem dc_43_59 : decode (ax_code 43) 59 = .ok (.isub, 1) := by decide +kernel
theorem dc_43_60 : decode (ax_code 43) 60 = .ok (.iaload, 1) := by decide +kernel
theorem dc_43_61 : decode (ax_code 43) 61 = .ok (.iastore, 1) := by decide +kernel
theorem dc_43_62 : decode (ax_code 43) 62 = .ok (.iload 5, 2) := by decide +kernel
theorem dc_43_64 : decode (ax_code 43) 64 = .ok (.iload_n 2, 1) := by decide +kernel
theorem dc_43_65 : decode (ax_code 43) 65 = .ok (.isub, 1) := by decide +kernel
theorem dc_43_66 : decode (ax_code 43) 66 = .ok (.istore 5, 2) := by decide +kernel
theorem dc_43_68 : decode (ax_code 43) 68 = .ok (.goto (-42), 3) := by decide +kernel
theorem dc_43_71 : decode (ax_code 43) 71 = .ok (.aload_n 0, 1) := by decide +kernel
theorem dc_43_72 : decode (ax_code 43) 72 = .ok (.getfield 25, 3) := by decide +kernel
theorem dc_43_75 : decode (ax_code 43) 75 = .ok (.iload 5, 2) := by decide +kernel
theorem dc_43_77 : decode (ax_code 43) 77 = .ok (.iload 4, 2) := by decide +kernel
theorem dc_43_79 : decode (ax_code 43) 79 = .ok (.iastore, 1) := by decide +kernel
theorem dc_43_80 : decode (ax_code 43) 80 = .ok (.iinc 3 1, 3) := by decide +kernel
theorem dc_43_83 : decode (ax_code 43) 83 = .ok (.goto (-73), 3) := by decide +kernel
theorem dc_43_86 : decode (ax_code 43) 86 = .ok (.iload_n 2, 1) := by decide +kernel
theorem dc_43_87 : decode (ax_code 43) 87 = .ok (.iconst 2, 1) := by decide +kernel
theorem dc_43_88 : decode (ax_code 43) 88 = .ok (.idiv, 1) := by decide +kernel
theorem dc_43_89 : decode (ax_code 43) 89 = .ok (.istore_n 2, 1) := by decide +kernel
theorem dc_43_90 : decode (ax_code 43) 90 = .ok (.goto (-86), 3) := by decide +kernel
theorem dc_43_93 : decode (ax_code 43) 93 = .ok (.return_, 1) := by decide +kernel
theorem dc_44_0 : decode (ax_code 44) 0 = .ok (.iload_n 1, 1) := by decide +kernel
theorem dc_44_1 : decode (ax_code 44) 1 = .ok (.invokestatic 173, 3) := by decide +kernel
theorem dc_44_4 : decode (ax_code 44) 4 = .ok (.ifCond .eq 12, 3) := by decide +kernel
theorem dc_44_7 : decode (ax_code 44) 7 = .ok (.iload_n 3, 1) := by decide +kernel
theorem dc_44_8 : decode (ax_code 44) 8 = .ok (.ifCond .lt 8, 3) := by decide +kernel
theorem dc_44_11 : decode (ax_code 44) 11 = .ok (.iload_n 3, 1) := by decide +kernel
theorem dc_44_12 : decode (ax_code 44) 12 = .ok (.iconst 3, 1) := by decide +kernel
theorem dc_44_13 : decode (ax_code 44) 13 = .ok (.if_icmp .le 6, 3) := by decide +kernel
theorem dc_44_16 : decode (ax_code 44) 16 = .ok (.bipush (-2), 2) := by decide +kernel
theorem dc_44_18 : decode (ax_code 44) 18 = .ok (.ireturn, 1) := by decide +kernel
theorem dc_44_19 : decode (ax_code 44) 19 = .ok (.aload_n 0, 1) := by decide +kernel
theorem dc_44_20 : decode (ax_code 44) 20 = .ok (.getfield 26, 3) := by decide +kernel
theorem dc_44_23 : decode (ax_code 44) 23 = .ok (.aload_n 0, 1) := by decide +kernel
theorem dc_44_24 : decode (ax_code 44) 24 = .ok (.getfield 10, 3) := by decide +kernel
theorem dc_44_27 : decode (ax_code 44) 27 = .ok (.getfield 77, 3) := by decide +kernel
theorem dc_44_30 : decode (ax_code 44) 30 = .ok (.iload_n 1, 1) := by decide +kernel
theorem dc_44_31 : decode (ax_code 44) 31 = .ok (.invokevirtual 205, 3) := by decide +kernel
theorem dc_44_34 : decode (ax_code 44) 34 = .ok (.iload_n 2, 1) := by decide +kernel
theorem dc_44_35 : decode (ax_code 44) 35 = .ok (.ifCond .lt 14, 3) := by decide +kernel
theorem dc_44_38 : decode (ax_code 44) 38 = .ok (.iload_n 2, 1) := by decide +kernel
theorem dc_44_39 : decode (ax_code 44) 39 = .ok (.aload_n 0, 1) := by decide +kernel
theorem dc_44_40 : decode (ax_code 44) 40 = .ok (.getfield 26, 3) := by decide +kernel
theorem dc_44_43 : decode (ax_code 44) 43 = .ok (.getfield 209, 3) := by decide +kernel
theorem dc_44_46 : decode (ax_code 44) 46 = .ok (.if_icmp .lt 6, 3) := by decide +kernel
theorem dc_44_49 : decode (ax_code 44) 49 = .ok (.bipush (-12), 2) := by decide +kernel
theorem dc_44_51 : decode (ax_code 44) 51 = .ok (.ireturn, 1) := by decide +kernel
theorem dc_44_52 : decode (ax_code 44) 52 = .ok (.iload_n 3, 1) := by decide +kernel
theorem dc_44_53 : decode (ax_code 44) 53 = .ok (.tableswitch 57 0 2 #[27, 37, 47], 27) := by decide +kernel
theorem dc_44_80 : decode (ax_code 44) 80 = .ok (.aload_n 0, 1) := by decide +kernel
theorem dc_44_81 : decode (ax_code 44) 81 = .ok (.getfield 26, 3) := by decide +kernel
theorem dc_44_84 : decode (ax_code 44) 84 = .ok (.getfield 212, 3) := by decide +kernel
theorem dc_44_87 : decode (ax_code 44) 87 = .ok (.iload_n 2, 1) := by decide +kernel
theorem dc_44_88 : decode (ax_code 44) 88 = .ok (.iaload, 1) := by decide +kernel
theorem dc_44_89 : decode (ax_code 44) 89 = .ok (.ireturn, 1) := by decide +kernel
theorem dc_44_90 : decode (ax_code 44) 90 = .ok (.aload_n 0, 1) := by decide +kernel
theorem dc_44_91 : decode (ax_code 44) 91 = .ok (.getfield 26, 3) := by decide +kernel
theorem dc_44_94 : decode (ax_code 44) 94 = .ok (.getfield 215, 3) := by decide +kernel
theorem dc_44_97 : decode (ax_code 44) 97 = .ok (.iload_n 2, 1) := by decide +kernel
theorem dc_44_98 : decode (ax_code 44) 98 = .ok (.iaload, 1) := by decide +kernel
theorem dc_44_99 : decode (ax_code 44) 99 = .ok (.ireturn, 1) := by decide +kernel
theorem dc_44_100 : decode (ax_code 44) 100 = .ok (.aload_n 0, 1) := by decide +kernel
theorem dc_44_101 : decode (ax_code 44) 101 = .ok (.getfield 26, 3) := by decide +kernel
theorem dc_44_104 : decode (ax_code 44) 104 = .ok (.getfield 218, 3) := by decide +kernel
theorem dc_44_107 : decode (ax_code 44) 107 = .ok (.iload_n 2, 1) := by decide +kernel
theorem dc_44_108 : decode (ax_code 44) 108 = .ok (.iaload, 1) := by decide +kernel
theorem dc_44_109 : decode (ax_code 44) 109 = .ok (.ireturn, 1) := by decide +kernel
theorem dc_44_110 : decode (ax_code 44) 110 = .ok (.aload_n 0, 1) := by decide +kernel
theorem dc_44_111 : decode (ax_code 44) 111 = .ok (.getfield 10, 3) := by decide +kernel
theorem dc_44_114 : decode (ax_code 44) 114 = .ok (.iload_n 1, 1) := by decide +kernel
theorem dc_44_115 : decode (ax_code 44) 115 = .ok (.aload_n 0, 1) := by decide +kernel
theorem dc_44_116 : decode (ax_code 44) 116 = .ok (.getfield 26, 3) := by decide +kernel
theorem dc_44_119 : decode (ax_code 44) 119 = .ok (.getfield 212, 3) := by decide +kernel
theorem dc_44_122 : decode (ax_code 44) 122 = .ok (.iload_n 2, 1) := by decide +kernel
theorem dc_44_123 : decode (ax_code 44) 123 = .ok (.iaload, 1) := by decide +kernel
theorem dc_44_124 : decode (ax_code 44) 124 = .ok (.aload_n 0, 1) := by decide +kernel
theorem dc_44_125 : decode (ax_code 44) 125 = .ok (.getfield 26, 3) := by decide +kernel
theorem dc_44_128 : decode (ax_code 44) 128 = .ok (.getfield 215, 3) := by decide +kernel
theorem dc_44_131 : decode (ax_code 44) 131 = .ok (.iload_n 2, 1) := by decide +kernel
theorem dc_44_132 : decode (ax_code 44) 132 = .ok (.iaload, 1) := by decide +kernel
theorem dc_44_133 : decode (ax_code 44) 133 = .ok (.invokevirtual 221, 3) := by decide +kernel
theorem dc_44_136 : decode (ax_code 44) 136 = .ok (.ireturn, 1) := by decide +kernel
theorem dc_45_0 : decode (ax_code 45) 0 = .ok (.iload_n 1, 1) := by decide +kernel
theorem dc_45_1 : decode (ax_code 45) 1 = .ok (.invokestatic 173, 3) := by decide +kernel
theorem dc_45_4 : decode (ax_code 45) 4 = .ok (.ifCond .eq 40, 3) := by decide +kernel
theorem dc_45_7 : decode (ax_code 45) 7 = .ok (.aload_n 0, 1) := by decide +kernel
theorem dc_45_8 : decode (ax_code 45) 8 = .ok (.getfield 10, 3) := by decide +kernel
theorem dc_45_11 : decode (ax_code 45) 11 = .ok (.getfield 77, 3) := by decide +kernel
theorem dc_45_14 : decode (ax_code 45) 14 = .ok (.iload_n 1, 1) := by decide +kernel
theorem dc_45_15 : decode (ax_code 45) 15 = .ok (.iload_n 2, 1) := by decide +kernel
theorem dc_45_16 : decode (ax_code 45) 16 = .ok (.invokevirtual 228, 3) := by decide +kernel
theorem dc_45_19 : decode (ax_code 45) 19 = .ok (.ifCond .eq 25, 3) := by decide +kernel
theorem dc_45_22 : decode (ax_code 45) 22 = .ok (.iload 4, 2) := by decide +kernel
theorem dc_45_24 : decode (ax_code 45) 24 = .ok (.ifCond .lt 20, 3) := by decide +kernel
theorem dc_45_27 : decode (ax_code 45) 27 = .ok (.iload 4, 2) := by decide +kernel
theorem dc_45_29 : decode (ax_code 45) 29 = .ok (.aload_n 0, 1) := by decide +kernel
theorem dc_45_30 : decode (ax_code 45) 30 = .ok (.getfield 10, 3) := by decide +kernel
theorem dc_45_33 : decode (ax_code 45) 33 = .ok (.getfield 77, 3) := by decide +kernel
theorem dc_45_36 : decode (ax_code 45) 36 = .ok (.getfield 231, 3) := by decide +kernel
theorem dc_45_39 : decode (ax_code 45) 39 = .ok (.iload_n 2, 1) := by decide +kernel
theorem dc_45_40 : decode (ax_code 45) 40 = .ok (.iaload, 1) := by decide +kernel
theorem dc_45_41 : decode (ax_code 45) 41 = .ok (.if_icmp .lt 6, 3) := by decide +kernel
theorem dc_45_44 : decode (ax_code 45) 44 = .ok (.bipush (-2), 2) := by decide +kernel
theorem dc_45_46 : decode (ax_code 45) 46 = .ok (.ireturn, 1) := by decide +kernel
theorem dc_45_47 : decode (ax_code 45) 47 = .ok (.aload_n 0, 1) := by decide +kernel
theorem dc_45_48 : decode (ax_code 45) 48 = .ok (.getfield 10, 3) := by decide +kernel
theorem dc_45_51 : decode (ax_code 45) 51 = .ok (.getfield 77, 3) := by decide +kernel
theorem dc_45_54 : decode (ax_code 45) 54 = .ok (.iload_n 1, 1) := by decide +kernel
theorem dc_45_55 : decode (ax_code 45) 55 = .ok (.iload_n 2, 1) := by decide +kernel
theorem dc_45_56 : decode (ax_code 45) 56 = .ok (.iload_n 3, 1) := by decide +kernel
theorem dc_45_57 : decode (ax_code 45) 57 = .ok (.invokevirtual 180, 3) := by decide +kernel
theorem dc_45_60 : decode (ax_code 45) 60 = .ok (.ifCond .ne 5, 3) := by decide +kernel
theorem dc_45_63 : decode (ax_code 45) 63 = .ok (.iconst (-1), 1) := by decide +kernel
theorem dc_45_64 : decode (ax_code 45) 64 = .ok (.ireturn, 1) := by decide +kernel
theorem dc_45_65 : decode (ax_code 45) 65 = .ok (.aload_n 0, 1) := by decide +kernel
theorem dc_45_66 : decode (ax_code 45) 66 = .ok (.getfield 10, 3) := by decide +kernel
theorem dc_45_69 : decode (ax_code 45) 69 = .ok (.iload_n 1, 1) := by decide +kernel
theorem dc_45_70 : decode (ax_code 45) 70 = .ok (.iload_n 2, 1) := by decide +kernel
theorem dc_45_71 : decode (ax_code 45) 71 = .ok (.iload_n 3, 1) := by decide +kernel
theorem dc_45_72 : decode (ax_code 45) 72 = .ok (.invokevirtual 221, 3) := by decide +kernel
theorem dc_45_75 : decode (ax_code 45) 75 = .ok (.istore 5, 2) := by decide +kernel
theorem dc_45_77 : decode (ax_code 45) 77 = .ok (.aload_n 0, 1) := by decide +kernel
theorem dc_45_78 : decode (ax_code 45) 78 = .ok (.getfield 10, 3) := by decide +kernel
theorem dc_45_81 : decode (ax_code 45) 81 = .ok (.getfield 234, 3) := by decide +kernel
theorem dc_45_84 : decode (ax_code 45) 84 = .ok (.iload_n 1, 1) := by decide +kernel
theorem dc_45_85 : decode (ax_code 45) 85 = .ok (.iload_n 2, 1) := by decide +kernel
theorem dc_45_86 : decode (ax_code 45) 86 = .ok (.iload_n 3, 1) := by decide +kernel
theorem dc_45_87 : decode (ax_code 45) 87 = .ok (.iload 4, 2) := by decide +kernel
theorem dc_45_89 : decode (ax_code 45) 89 = .ok (.invokevirtual 238, 3) := by decide +kernel
theorem dc_45_92 : decode (ax_code 45) 92 = .ok (.ifCond .eq 8, 3) := by decide +kernel
theorem dc_45_95 : decode (ax_code 45) 95 = .ok (.iload 5, 2) := by decide +kernel
theorem dc_45_97 : decode (ax_code 45) 97 = .ok (.goto 5, 3) := by decide +kernel
theorem dc_45_100 : decode (ax_code 45) 100 = .ok (.bipush (-4), 2) := by decide +kernel
theorem dc_45_102 : decode (ax_code 45) 102 = .ok (.ireturn, 1) := by decide +kernel
theorem dc_46_0 : decode (ax_code 46) 0 = .ok (.iload_n 1, 1) := by decide +kernel
theorem dc_46_1 : decode (ax_code 46) 1 = .ok (.iload_n 2, 1) := by decide +kernel
theorem dc_46_2 : decode (ax_code 46) 2 = .ok (.iload_n 3, 1) := by decide +kernel
theorem dc_46_3 : decode (ax_code 46) 3 = .ok (.invokestatic 22, 3) := by decide +kernel
theorem dc_46_6 : decode (ax_code 46) 6 = .ok (.istore 5, 2) := by decide +kernel
theorem dc_46_8 : decode (ax_code 46) 8 = .ok (.iconst 0, 1) := by decide +kernel
theorem dc_46_9 : decode (ax_code 46) 9 = .ok (.istore 6, 2) := by decide +kernel
theorem dc_46_11 : decode (ax_code 46) 11 = .ok (.iload 6, 2) := by decide +kernel
theorem dc_46_13 : decode (ax_code 46) 13 = .ok (.aload_n 0, 1) := by decide +kernel
theorem dc_46_14 : decode (ax_code 46) 14 = .ok (.getfield 18, 3) := by decide +kernel
theorem dc_46_17 : decode (ax_code 46) 17 = .ok (.if_icmp .ge 21, 3) := by decide +kernel
theorem dc_46_20 : decode (ax_code 46) 20 = .ok (.aload_n 0, 1) := by decide +kernel
theorem dc_46_21 : decode (ax_code 46) 21 = .ok (.getfield 9, 3) := by decide +kernel
theorem dc_46_24 : decode (ax_code 46) 24 = .ok (.iload 6, 2) := by decide +kernel
theorem dc_46_26 : decode (ax_code 46) 26 = .ok (.iaload, 1) := by decide +kernel
theorem dc_46_27 : decode (ax_code 46) 27 = .ok (.iload 5, 2) := by decide +kernel
theorem dc_46_29 : decode (ax_code 46) 29 = .ok (.if_icmp .eq 9, 3) := by decide +kernel
theorem dc_46_32 : decode (ax_code 46) 32 = .ok (.iinc 6 1, 3) := by decide +kernel
theorem dc_46_35 : decode (ax_code 46) 35 = .ok (.goto (-24), 3) := by decide +kernel
theorem dc_46_38 : decode (ax_code 46) 38 = .ok (.iload 6, 2) := by decide +kernel
theorem dc_46_40 : decode (ax_code 46) 40 = .ok (.bipush 40, 2) := by decide +kernel
theorem dc_46_42 : decode (ax_code 46) 42 = .ok (.if_icmp .lt 5, 3) := by decide +kernel
theorem dc_46_45 : decode (ax_code 46) 45 = .ok (.iconst 0, 1) := by decide +kernel
theorem dc_46_46 : decode (ax_code 46) 46 = .ok (.ireturn, 1) := by decide +kernel
theorem dc_46_47 : decode (ax_code 46) 47 = .ok (.iload 6, 2) := by decide +kernel
theorem dc_46_49 : decode (ax_code 46) 49 = .ok (.aload_n 0, 1) := by decide +kernel
theorem dc_46_50 : decode (ax_code 46) 50 = .ok (.getfield 18, 3) := by decide +kernel
theorem dc_46_53 : decode (ax_code 46) 53 = .ok (.if_icmp .ne 13, 3) := by decide +kernel
theorem dc_46_56 : decode (ax_code 46) 56 = .ok (.aload_n 0, 1) := by decide +kernel
theorem dc_46_57 : decode (ax_code 46) 57 = .ok (.dup, 1) := by decide +kernel
theorem dc_46_58 : decode (ax_code 46) 58 = .ok (.getfield 18, 3) := by decide +kernel
theorem dc_46_61 : decode (ax_code 46) 61 = .ok (.iconst 1, 1) := by decide +kernel
theorem dc_46_62 : decode (ax_code 46) 62 = .ok (.iadd, 1) := by decide +kernel
theorem dc_46_63 : decode (ax_code 46) 63 = .ok (.putfield 18, 3) := by decide +kernel
theorem dc_46_66 : decode (ax_code 46) 66 = .ok (.aload_n 0, 1) := by decide +kernel
theorem dc_46_67 : decode (ax_code 46) 67 = .ok (.getfield 9, 3) := by decide +kernel
theorem dc_46_70 : decode (ax_code 46) 70 = .ok (.iload 6, 2) := by decide +kernel
theorem dc_46_72 : decode (ax_code 46) 72 = .ok (.iload 5, 2) := by decide +kernel
theorem dc_46_74 : decode (ax_code 46) 74 = .ok (.iastore, 1) := by decide +kernel
theorem dc_46_75 : decode (ax_code 46) 75 = .ok (.aload_n 0, 1) := by decide +kernel
theorem dc_46_76 : decode (ax_code 46) 76 = .ok (.getfield 15, 3) := by decide +kernel
theorem dc_46_79 : decode (ax_code 46) 79 = .ok (.iload 6, 2) := by decide +kernel
theorem dc_46_81 : decode (ax_code 46) 81 = .ok (.iload 4, 2) := by decide +kernel
theorem dc_46_83 : decode (ax_code 46) 83 = .ok (.iastore, 1) := by decide +kernel
theorem dc_46_84 : decode (ax_code 46) 84 = .ok (.iconst 1, 1) := by decide +kernel
theorem dc_46_85 : decode (ax_code 46) 85 = .ok (.ireturn, 1) := by decide +kernel
theorem dc_47_0 : decode (ax_code 47) 0 = .ok (.iload_n 1, 1) := by decide +kernel
theorem dc_47_1 : decode (ax_code 47) 1 = .ok (.invokestatic 173, 3) := by decide +kernel
theorem dc_47_4 : decode (ax_code 47) 4 = .ok (.ifCond .eq 11, 3) := by decide +kernel
theorem dc_47_7 : decode (ax_code 47) 7 = .ok (.aload_n 0, 1) := by decide +kernel
theorem dc_47_8 : decode (ax_code 47) 8 = .ok (.iload_n 2, 1) := by decide +kernel
theorem dc_47_9 : decode (ax_code 47) 9 = .ok (.invokevirtual 154, 3) := by decide +kernel
theorem dc_47_12 : decode (ax_code 47) 12 = .ok (.ifCond .ne 7, 3) := by decide +kernel
theorem dc_47_15 : decode (ax_code 47) 15 = .ok (.ldc2_w 167, 3) := by decide +kernel
theorem dc_47_18 : decode (ax_code 47) 18 = .ok (.lreturn, 1) := by decide +kernel
theorem dc_47_19 : decode (ax_code 47) 19 = .ok (.aload_n 0, 1) := by decide +kernel
theorem dc_47_20 : decode (ax_code 47) 20 = .ok (.getfield 10, 3) := by decide +kernel
theorem dc_47_23 : decode (ax_code 47) 23 = .ok (.getfield 77, 3) := by decide +kernel
theorem dc_47_26 : decode (ax_code 47) 26 = .ok (.iload_n 2, 1) := by decide +kernel
theorem dc_47_27 : decode (ax_code 47) 27 = .ok (.aload_n 0, 1) := by decide +kernel
theorem dc_47_28 : decode (ax_code 47) 28 = .ok (.getfield 10, 3) := by decide +kernel
theorem dc_47_31 : decode (ax_code 47) 31 = .ok (.getfield 77, 3) := by decide +kernel
theorem dc_47_34 : decode (ax_code 47) 34 = .ok (.getfield 117, 3) := by decide +kernel
theorem dc_47_37 : decode (ax_code 47) 37 = .ok (.invokevirtual 157, 3) := by decide +kernel
theorem dc_47_40 : decode (ax_code 47) 40 = .ok (.aload_n 0, 1) := by decide +kernel
theorem dc_47_41 : decode (ax_code 47) 41 = .ok (.getfield 10, 3) := by decide +kernel
theorem dc_47_44 : decode (ax_code 47) 44 = .ok (.iload_n 1, 1) := by decide +kernel
theorem dc_47_45 : decode (ax_code 47) 45 = .ok (.invokevirtual 286, 3) := by decide +kernel
theorem dc_47_48 : decode (ax_code 47) 48 = .ok (.i2l, 1) := by decide +kernel
theorem dc_47_49 : decode (ax_code 47) 49 = .ok (.lstore_n 3, 1) := by decide +kernel
theorem dc_47_50 : decode (ax_code 47) 50 = .ok (.lload_n 3, 1) := by decide +kernel
theorem dc_47_51 : decode (ax_code 47) 51 = .ok (.aload_n 0, 1) := by decide +kernel
theorem dc_47_52 : decode (ax_code 47) 52 = .ok (.getfield 10, 3) := by decide +kernel
theorem dc_47_55 : decode (ax_code 47) 55 = .ok (.getfield 289, 3) := by decide +kernel
theorem dc_47_58 : decode (ax_code 47) 58 = .ok (.invokestatic 293, 3) := by decide +kernel
theorem dc_47_61 : decode (ax_code 47) 61 = .ok (.ifCond .eq 15, 3) := by decide +kernel
theorem dc_47_64 : decode (ax_code 47) 64 = .ok (.lload_n 3, 1) := by decide +kernel
theorem dc_47_65 : decode (ax_code 47) 65 = .ok (.aload_n 0, 1) := by decide +kernel
theorem dc_47_66 : decode (ax_code 47) 66 = .ok (.getfield 10, 3) := by decide +kernel
theorem dc_47_69 : decode (ax_code 47) 69 = .ok (.getfield 289, 3) := by decide +kernel
theorem dc_47_72 : decode (ax_code 47) 72 = .ok (.lmul, 1) := by decide +kernel
theorem dc_47_73 : decode (ax_code 47) 73 = .ok (.goto 6, 3) := by decide +kernel
theorem dc_47_76 : decode (ax_code 47) 76 = .ok (.ldc2_w 297, 3) := by decide +kernel
theorem dc_47_79 : decode (ax_code 47) 79 = .ok (.lreturn, 1) := by decide +kernel
theorem dc_48_0 : decode (ax_code 48) 0 = .ok (.iconst 0, 1) := by decide +kernel
theorem dc_48_1 : decode (ax_code 48) 1 = .ok (.istore_n 2, 1) := by decide +kernel
theorem dc_48_2 : decode (ax_code 48) 2 = .ok (.iconst 0, 1) := by decide +kernel
theorem dc_48_3 : decode (ax_code 48) 3 = .ok (.istore_n 3, 1) := by decide +kernel
theorem dc_48_4 : decode (ax_code 48) 4 = .ok (.iload_n 3, 1) := by decide +kernel
theorem dc_48_5 : decode (ax_code 48) 5 = .ok (.aload_n 0, 1) := by decide +kernel
theorem dc_48_6 : decode (ax_code 48) 6 = .ok (.getfield 44, 3) := by decide +kernel
theorem dc_48_9 : decode (ax_code 48) 9 = .ok (.if_icmp .ge 45, 3) := by decide +kernel
theorem dc_48_12 : decode (ax_code 48) 12 = .ok (.aload_n 0, 1) := by decide +kernel
theorem dc_48_13 : decode (ax_code 48) 13 = .ok (.getfield 37, 3) := by decide +kernel
theorem dc_48_16 : decode (ax_code 48) 16 = .ok (.iload_n 3, 1) := by decide +kernel
theorem dc_48_17 : decode (ax_code 48) 17 = .ok (.iaload, 1) := by decide +kernel
theorem dc_48_18 : decode (ax_code 48) 18 = .ok (.iload_n 1, 1) := by decide +kernel
theorem dc_48_19 : decode (ax_code 48) 19 = .ok (.if_icmp .ne 11, 3) := by decide +kernel
theorem dc_48_22 : decode (ax_code 48) 22 = .ok (.iload_n 2, 1) := by decide +kernel
theorem dc_48_23 : decode (ax_code 48) 23 = .ok (.aload_n 0, 1) := by decide +kernel
theorem dc_48_24 : decode (ax_code 48) 24 = .ok (.iload_n 3, 1) := by decide +kernel
theorem dc_48_25 : decode (ax_code 48) 25 = .ok (.invokevirtual 95, 3) := by decide +kernel
theorem dc_48_28 : decode (ax_code 48) 28 = .ok (.isub, 1) := by decide +kernel
theorem dc_48_29 : decode (ax_code 48) 29 = .ok (.istore_n 2, 1) := by decide +kernel
theorem dc_48_30 : decode (ax_code 48) 30 = .ok (.aload_n 0, 1) := by decide +kernel
theorem dc_48_31 : decode (ax_code 48) 31 = .ok (.getfield 41, 3) := by decide +kernel
theorem dc_48_34 : decode (ax_code 48) 34 = .ok (.iload_n 3, 1) := by decide +kernel
theorem dc_48_35 : decode (ax_code 48) 35 = .ok (.iaload, 1) := by decide +kernel
theorem dc_48_36 : decode (ax_code 48) 36 = .ok (.iload_n 1, 1) := by decide +kernel
theorem dc_48_37 : decode (ax_code 48) 37 = .ok (.if_icmp .ne 11, 3) := by decide +kernel
theorem dc_48_40 : decode (ax_code 48) 40 = .ok (.iload_n 2, 1) := by decide +kernel
theorem dc_48_41 : decode (ax_code 48) 41 = .ok (.aload_n 0, 1) := by decide +kernel
theorem dc_48_42 : decode (ax_code 48) 42 = .ok (.iload_n 3, 1) := by decide +kernel
theorem dc_48_43 : decode (ax_code 48) 43 = .ok (.invokevirtual 95, 3) := by decide +kernel
theorem dc_48_46 : decode (ax_code 48) 46 = .ok (.iadd, 1) := by decide +kernel
theorem dc_48_47 : decode (ax_code 48) 47 = .ok (.istore_n 2, 1) := by decide +kernel
theorem dc_48_48 : decode (ax_code 48) 48 = .ok (.iinc 3 1, 3) := by decide +kernel
theorem dc_48_51 : decode (ax_code 48) 51 = .ok (.goto (-47), 3) := by decide +kernel
theorem dc_48_54 : decode (ax_code 48) 54 = .ok (.iload_n 2, 1) := by decide +kernel
theorem dc_48_55 : decode (ax_code 48) 55 = .ok (.ireturn, 1) := by decide +kernel
theorem dc_49_0 : decode (ax_code 49) 0 = .ok (.aload_n 0, 1) := by decide +kernel
theorem dc_49_1 : decode (ax_code 49) 1 = .ok (.iload_n 1, 1) := by decide +kernel
theorem dc_49_2 : decode (ax_code 49) 2 = .ok (.invokevirtual 79, 3) := by decide +kernel
theorem dc_49_5 : decode (ax_code 49) 5 = .ok (.astore_n 2, 1) := by decide +kernel
theorem dc_49_6 : decode (ax_code 49) 6 = .ok (.aload_n 0, 1) := by decide +kernel
theorem dc_49_7 : decode (ax_code 49) 7 = .ok (.iload_n 1, 1) := by decide +kernel
theorem dc_49_8 : decode (ax_code 49) 8 = .ok (.invokevirtual 83, 3) := by decide +kernel
theorem dc_49_11 : decode (ax_code 49) 11 = .ok (.astore_n 3, 1) := by decide +kernel
theorem dc_49_12 : decode (ax_code 49) 12 = .ok (.aload_n 2, 1) := by decide +kernel
theorem dc_49_13 : decode (ax_code 49) 13 = .ok (.ifnull 29, 3) := by decide +kernel
theorem dc_49_16 : decode (ax_code 49) 16 = .ok (.aload_n 3, 1) := by decide +kernel
theorem dc_49_17 : decode (ax_code 49) 17 = .ok (.ifnull 25, 3) := by decide +kernel
theorem dc_49_20 : decode (ax_code 49) 20 = .ok (.aload_n 2, 1) := by decide +kernel
theorem dc_49_21 : decode (ax_code 49) 21 = .ok (.aload_n 0, 1) := by decide +kernel
theorem dc_49_22 : decode (ax_code 49) 22 = .ok (.getfield 12, 3) := by decide +kernel
theorem dc_49_25 : decode (ax_code 49) 25 = .ok (.invokevirtual 87, 3) := by decide +kernel
theorem dc_49_28 : decode (ax_code 49) 28 = .ok (.ifCond .eq 14, 3) := by decide +kernel
theorem dc_49_31 : decode (ax_code 49) 31 = .ok (.aload_n 3, 1) := by decide +kernel
theorem dc_49_32 : decode (ax_code 49) 32 = .ok (.aload_n 0, 1) := by decide +kernel
theorem dc_49_33 : decode (ax_code 49) 33 = .ok (.getfield 12, 3) := by decide +kernel
theorem dc_49_36 : decode (ax_code 49) 36 = .ok (.invokevirtual 91, 3) := by decide +kernel
theorem dc_49_39 : decode (ax_code 49) 39 = .ok (.goto 4, 3) := by decide +kernel
theorem dc_49_42 : decode (ax_code 49) 42 = .ok (.iconst 0, 1) := by decide +kernel
theorem dc_49_43 : decode (ax_code 49) 43 = .ok (.ireturn, 1) := by decide +kernel
theorem dc_50_0 : decode (ax_code 50) 0 = .ok (.iload_n 1, 1) := by decide +kernel
theorem dc_50_1 : decode (ax_code 50) 1 = .ok (.ifCond .lt 20, 3) := by decide +kernel
theorem dc_50_4 : decode (ax_code 50) 4 = .ok (.iload_n 1, 1) := by decide +kernel
theorem dc_50_5 : decode (ax_code 50) 5 = .ok (.aload_n 0, 1) := by decide +kernel
theorem dc_50_6 : decode (ax_code 50) 6 = .ok (.getfield 44, 3) := by decide +kernel
theorem dc_50_9 : decode (ax_code 50) 9 = .ok (.if_icmp .ge 12, 3) := by decide +kernel
theorem dc_50_12 : decode (ax_code 50) 12 = .ok (.aload_n 0, 1) := by decide +kernel
theorem dc_50_13 : decode (ax_code 50) 13 = .ok (.getfield 27, 3) := by decide +kernel
theorem dc_50_16 : decode (ax_code 50) 16 = .ok (.iload_n 1, 1) := by decide +kernel
theorem dc_50_17 : decode (ax_code 50) 17 = .ok (.aaload, 1) := by decide +kernel
theorem dc_50_18 : decode (ax_code 50) 18 = .ok (.goto 4, 3) := by decide +kernel
theorem dc_50_21 : decode (ax_code 50) 21 = .ok (.aconst_null, 1) := by decide +kernel
theorem dc_50_22 : decode (ax_code 50) 22 = .ok (.areturn, 1) := by decide +kernel
theorem dc_51_0 : decode (ax_code 51) 0 = .ok (.iload_n 1, 1) := by decide +kernel
theorem dc_51_1 : decode (ax_code 51) 1 = .ok (.ifCond .lt 20, 3) := by decide +kernel
theorem dc_51_4 : decode (ax_code 51) 4 = .ok (.iload_n 1, 1) := by decide +kernel
theorem dc_51_5 : decode (ax_code 51) 5 = .ok (.aload_n 0, 1) := by decide +kernel
theorem dc_51_6 : decode (ax_code 51) 6 = .ok (.getfield 44, 3) := by decide +kernel
theorem dc_51_9 : decode (ax_code 51) 9 = .ok (.if_icmp .ge 12, 3) := by decide +kernel
theorem dc_51_12 : decode (ax_code 51) 12 = .ok (.aload_n 0, 1) := by decide +kernel
theorem dc_51_13 : decode (ax_code 51) 13 = .ok (.getfield 33, 3) := by decide +kernel
theorem dc_51_16 : decode (ax_code 51) 16 = .ok (.iload_n 1, 1) := by decide +kernel
theorem dc_51_17 : decode (ax_code 51) 17 = .ok (.aaload, 1) := by decide +kernel
theorem dc_51_18 : decode (ax_code 51) 18 = .ok (.goto 4, 3) := by decide +kernel
theorem dc_51_21 : decode (ax_code 51) 21 = .ok (.aconst_null, 1) := by decide +kernel
theorem dc_51_22 : decode (ax_code 51) 22 = .ok (.areturn, 1) := by decide +kernel
theorem dc_52_0 : decode (ax_code 52) 0 = .ok (.iconst 0, 1) := by decide +kernel
theorem dc_52_1 : decode (ax_code 52) 1 = .ok (.istore_n 2, 1) := by decide +kernel
theorem dc_52_2 : decode (ax_code 52) 2 = .ok (.aload_n 0, 1) := by decide +kernel
theorem dc_52_3 : decode (ax_code 52) 3 = .ok (.astore_n 3, 1) := by decide +kernel
theorem dc_52_4 : decode (ax_code 52) 4 = .ok (.iconst 0, 1) := by decide +kernel
theorem dc_52_5 : decode (ax_code 52) 5 = .ok (.istore 4, 2) := by decide +kernel
theorem dc_52_7 : decode (ax_code 52) 7 = .ok (.iload 4, 2) := by decide +kernel
theorem dc_52_9 : decode (ax_code 52) 9 = .ok (.bipush 8, 2) := by decide +kernel
theorem dc_52_11 : decode (ax_code 52) 11 = .ok (.if_icmp .ge 39, 3) := by decide +kernel
theorem dc_52_14 : decode (ax_code 52) 14 = .ok (.aload_n 3, 1) := by decide +kernel
theorem dc_52_15 : decode (ax_code 52) 15 = .ok (.getfield 9, 3) := by decide +kernel
theorem dc_52_18 : decode (ax_code 52) 18 = .ok (.iconst 4, 1) := by decide +kernel
theorem dc_52_19 : decode (ax_code 52) 19 = .ok (.if_icmp .ne 31, 3) := by decide +kernel
theorem dc_52_22 : decode (ax_code 52) 22 = .ok (.aload_n 3, 1) := by decide +kernel
theorem dc_52_23 : decode (ax_code 52) 23 = .ok (.getfield 21, 3) := by decide +kernel
theorem dc_52_26 : decode (ax_code 52) 26 = .ok (.ifnull 24, 3) := by decide +kernel
theorem dc_52_29 : decode (ax_code 52) 29 = .ok (.iload_n 2, 1) := by decide +kernel
theorem dc_52_30 : decode (ax_code 52) 30 = .ok (.ifCond .ne 7, 3) := by decide +kernel
theorem dc_52_33 : decode (ax_code 52) 33 = .ok (.iconst 1, 1) := by decide +kernel
theorem dc_52_34 : decode (ax_code 52) 34 = .ok (.goto 4, 3) := by decide +kernel
theorem dc_52_37 : decode (ax_code 52) 37 = .ok (.iconst 0, 1) := by decide +kernel
theorem dc_52_38 : decode (ax_code 52) 38 = .ok (.istore_n 2, 1) := by decide +kernel
theorem dc_52_39 : decode (ax_code 52) 39 = .ok (.aload_n 3, 1) := by decide +kernel
theorem dc_52_40 : decode (ax_code 52) 40 = .ok (.getfield 21, 3) := by decide +kernel
theorem dc_52_43 : decode (ax_code 52) 43 = .ok (.astore_n 3, 1) := by decide +kernel
theorem dc_52_44 : decode (ax_code 52) 44 = .ok (.iinc 4 1, 3) := by decide +kernel
theorem dc_52_47 : decode (ax_code 52) 47 = .ok (.goto (-40), 3) := by decide +kernel
theorem dc_52_50 : decode (ax_code 52) 50 = .ok (.aload_n 3, 1) := by decide +kernel
theorem dc_52_51 : decode (ax_code 52) 51 = .ok (.aload_n 1, 1) := by decide +kernel
theorem dc_52_52 : decode (ax_code 52) 52 = .ok (.invokevirtual 25, 3) := by decide +kernel
theorem dc_52_55 : decode (ax_code 52) 55 = .ok (.iload_n 2, 1) := by decide +kernel
theorem dc_52_56 : decode (ax_code 52) 56 = .ok (.if_icmp .eq 7, 3) := by decide +kernel
theorem dc_52_59 : decode (ax_code 52) 59 = .ok (.iconst 1, 1) := by decide +kernel
theorem dc_52_60 : decode (ax_code 52) 60 = .ok (.goto 4, 3) := by decide +kernel
theorem dc_52_63 : decode (ax_code 52) 63 = .ok (.iconst 0, 1) := by decide +kernel
theorem dc_52_64 : decode (ax_code 52) 64 = .ok (.ireturn, 1) := by decide +kernel
theorem dc_53_0 : decode (ax_code 53) 0 = .ok (.aload_n 0, 1) := by decide +kernel
theorem dc_53_1 : decode (ax_code 53) 1 = .ok (.getfield 9, 3) := by decide +kernel
theorem dc_53_4 : decode (ax_code 53) 4 = .ok (.ifCond .ne 5, 3) := by decide +kernel
theorem dc_53_7 : decode (ax_code 53) 7 = .ok (.iconst 1, 1) := by decide +kernel
theorem dc_53_8 : decode (ax_code 53) 8 = .ok (.ireturn, 1) := by decide +kernel
theorem dc_53_9 : decode (ax_code 53) 9 = .ok (.aload_n 0, 1) := by decide +kernel
theorem dc_53_10 : decode (ax_code 53) 10 = .ok (.getfield 9, 3) := by decide +kernel
theorem dc_53_13 : decode (ax_code 53) 13 = .ok (.iconst 4, 1) := by decide +kernel
theorem dc_53_14 : decode (ax_code 53) 14 = .ok (.if_icmp .eq 25, 3) := by decide +kernel
theorem dc_53_17 : decode (ax_code 53) 17 = .ok (.aload_n 0, 1) := by decide +kernel
theorem dc_53_18 : decode (ax_code 53) 18 = .ok (.getfield 15, 3) := by decide +kernel
theorem dc_53_21 : decode (ax_code 53) 21 = .ok (.aload_n 1, 1) := by decide +kernel
theorem dc_53_22 : decode (ax_code 53) 22 = .ok (.getfield 29, 3) := by decide +kernel
theorem dc_53_25 : decode (ax_code 53) 25 = .ok (.if_icmp .ge 14, 3) := by decide +kernel
theorem dc_53_28 : decode (ax_code 53) 28 = .ok (.aload_n 0, 1) := by decide +kernel
theorem dc_53_29 : decode (ax_code 53) 29 = .ok (.getfield 18, 3) := by decide +kernel
theorem dc_53_32 : decode (ax_code 53) 32 = .ok (.aload_n 1, 1) := by decide +kernel
theorem dc_53_33 : decode (ax_code 53) 33 = .ok (.getfield 29, 3) := by decide +kernel
theorem dc_53_36 : decode (ax_code 53) 36 = .ok (.if_icmp .lt 5, 3) := by decide +kernel
theorem dc_53_39 : decode (ax_code 53) 39 = .ok (.iconst 0, 1) := by decide +kernel
theorem dc_53_40 : decode (ax_code 53) 40 = .ok (.ireturn, 1) := by decide +kernel
theorem dc_53_41 : decode (ax_code 53) 41 = .ok (.aload_n 1, 1) := by decide +kernel
theorem dc_53_42 : decode (ax_code 53) 42 = .ok (.getfield 34, 3) := by decide +kernel
theorem dc_53_45 : decode (ax_code 53) 45 = .ok (.aload_n 0, 1) := by decide +kernel
theorem dc_53_46 : decode (ax_code 53) 46 = .ok (.getfield 15, 3) := by decide +kernel
theorem dc_53_49 : decode (ax_code 53) 49 = .ok (.iaload, 1) := by decide +kernel
theorem dc_53_50 : decode (ax_code 53) 50 = .ok (.istore_n 2, 1) := by decide +kernel
theorem dc_53_51 : decode (ax_code 53) 51 = .ok (.aload_n 1, 1) := by decide +kernel
theorem dc_53_52 : decode (ax_code 53) 52 = .ok (.getfield 34, 3) := by decide +kernel
theorem dc_53_55 : decode (ax_code 53) 55 = .ok (.aload_n 0, 1) := by decide +kernel
theorem dc_53_56 : decode (ax_code 53) 56 = .ok (.getfield 18, 3) := by decide +kernel
theorem dc_53_59 : decode (ax_code 53) 59 = .ok (.iaload, 1) := by decide +kernel
theorem dc_53_60 : decode (ax_code 53) 60 = .ok (.istore_n 3, 1) := by decide +kernel
theorem dc_53_61 : decode (ax_code 53) 61 = .ok (.aload_n 0, 1) := by decide +kernel
theorem dc_53_62 : decode (ax_code 53) 62 = .ok (.getfield 9, 3) := by decide +kernel
theorem dc_53_65 : decode (ax_code 53) 65 = .ok (.iconst 1, 1) := by decide +kernel
theorem dc_53_66 : decode (ax_code 53) 66 = .ok (.if_icmp .ne 14, 3) := by decide +kernel
theorem dc_53_69 : decode (ax_code 53) 69 = .ok (.iload_n 2, 1) := by decide +kernel
theorem dc_53_70 : decode (ax_code 53) 70 = .ok (.iload_n 3, 1) := by decide +kernel
theorem dc_53_71 : decode (ax_code 53) 71 = .ok (.if_icmp .ne 7, 3) := by decide +kernel
theorem dc_53_74 : decode (ax_code 53) 74 = .ok (.iconst 1, 1) := by decide +kernel
theorem dc_53_75 : decode (ax_code 53) 75 = .ok (.goto 4, 3) := by decide +kernel
theorem dc_53_78 : decode (ax_code 53) 78 = .ok (.iconst 0, 1) := by decide +kernel
theorem dc_53_79 : decode (ax_code 53) 79 = .ok (.ireturn, 1) := by decide +kernel
theorem dc_53_80 : decode (ax_code 53) 80 = .ok (.aload_n 0, 1) := by decide +kernel
theorem dc_53_81 : decode (ax_code 53) 81 = .ok (.getfield 9, 3) := by decide +kernel
theorem dc_53_84 : decode (ax_code 53) 84 = .ok (.iconst 2, 1) := by decide +kernel
theorem dc_53_85 : decode (ax_code 53) 85 = .ok (.if_icmp .ne 14, 3) := by decide +kernel
theorem dc_53_88 : decode (ax_code 53) 88 = .ok (.iload_n 2, 1) := by decide +kernel
theorem dc_53_89 : decode (ax_code 53) 89 = .ok (.iload_n 3, 1) := by decide +kernel
theorem dc_53_90 : decode (ax_code 53) 90 = .ok (.if_icmp .le 7, 3) := by decide +kernel
theorem dc_53_93 : decode (ax_code 53) 93 = .ok (.iconst 1, 1) := by decide +kernel
theorem dc_53_94 : decode (ax_code 53) 94 = .ok (.goto 4, 3) := by decide +kernel
theorem dc_53_97 : decode (ax_code 53) 97 = .ok (.iconst 0, 1) := by decide +kernel
theorem dc_53_98 : decode (ax_code 53) 98 = .ok (.ireturn, 1) := by decide +kernel
theorem dc_53_99 : decode (ax_code 53) 99 = .ok (.aload_n 0, 1) := by decide +kernel
theorem dc_53_100 : decode (ax_code 53) 100 = .ok (.getfield 9, 3) := by decide +kernel
theorem dc_53_103 : decode (ax_code 53) 103 = .ok (.iconst 3, 1) := by decide +kernel
theorem dc_53_104 : decode (ax_code 53) 104 = .ok (.if_icmp .ne 15, 3) := by decide +kernel
theorem dc_53_107 : decode (ax_code 53) 107 = .ok (.iload_n 2, 1) := by decide +kernel
theorem dc_53_108 : decode (ax_code 53) 108 = .ok (.iload_n 3, 1) := by decide +kernel
theorem dc_53_109 : decode (ax_code 53) 109 = .ok (.iadd, 1) := by decide +kernel
theorem dc_53_110 : decode (ax_code 53) 110 = .ok (.iconst 2, 1) := by decide +kernel
theorem dc_53_111 : decode (ax_code 53) 111 = .ok (.irem, 1) := by decide +kernel
theorem dc_53_112 : decode (ax_code 53) 112 = .ok (.ifCond .ne 7, 3) := by decide +kernel
theorem dc_53_115 : decode (ax_code 53) 115 = .ok (.iconst 1, 1) := by decide +kernel
theorem dc_53_116 : decode (ax_code 53) 116 = .ok (.goto 4, 3) := by decide +kernel
theorem dc_53_119 : decode (ax_code 53) 119 = .ok (.iconst 0, 1) := by decide +kernel
theorem dc_53_120 : decode (ax_code 53) 120 = .ok (.ireturn, 1) := by decide +kernel
theorem dc_54_0 : decode (ax_code 54) 0 = .ok (.iconst 0, 1) := by decide +kernel
theorem dc_54_1 : decode (ax_code 54) 1 = .ok (.istore_n 2, 1) := by decide +kernel
theorem dc_54_2 : decode (ax_code 54) 2 = .ok (.aload_n 0, 1) := by decide +kernel
theorem dc_54_3 : decode (ax_code 54) 3 = .ok (.astore_n 3, 1) := by decide +kernel
theorem dc_54_4 : decode (ax_code 54) 4 = .ok (.iconst 0, 1) := by decide +kernel
theorem dc_54_5 : decode (ax_code 54) 5 = .ok (.istore 4, 2) := by decide +kernel
theorem dc_54_7 : decode (ax_code 54) 7 = .ok (.iload 4, 2) := by decide +kernel
theorem dc_54_9 : decode (ax_code 54) 9 = .ok (.bipush 8, 2) := by decide +kernel
theorem dc_54_11 : decode (ax_code 54) 11 = .ok (.if_icmp .ge 36, 3) := by decide +kernel
theorem dc_54_14 : decode (ax_code 54) 14 = .ok (.aload_n 3, 1) := by decide +kernel
theorem dc_54_15 : decode (ax_code 54) 15 = .ok (.getfield 9, 3) := by decide +kernel
theorem dc_54_18 : decode (ax_code 54) 18 = .ok (.iconst 3, 1) := by decide +kernel
theorem dc_54_19 : decode (ax_code 54) 19 = .ok (.if_icmp .ne 28, 3) := by decide +kernel
theorem dc_54_22 : decode (ax_code 54) 22 = .ok (.aload_n 3, 1) := by decide +kernel
theorem dc_54_23 : decode (ax_code 54) 23 = .ok (.getfield 24, 3) := by decide +kernel
theorem dc_54_26 : decode (ax_code 54) 26 = .ok (.ifnull 21, 3) := by decide +kernel
theorem dc_54_29 : decode (ax_code 54) 29 = .ok (.iload_n 2, 1) := by decide +kernel
theorem dc_54_30 : decode (ax_code 54) 30 = .ok (.aload_n 3, 1) := by decide +kernel
theorem dc_54_31 : decode (ax_code 54) 31 = .ok (.getfield 21, 3) := by decide +kernel
theorem dc_54_34 : decode (ax_code 54) 34 = .ok (.iadd, 1) := by decide +kernel
theorem dc_54_35 : decode (ax_code 54) 35 = .ok (.istore_n 2, 1) := by decide +kernel
theorem dc_54_36 : decode (ax_code 54) 36 = .ok (.aload_n 3, 1) := by decide +kernel
theorem dc_54_37 : decode (ax_code 54) 37 = .ok (.getfield 24, 3) := by decide +kernel
theorem dc_54_40 : decode (ax_code 54) 40 = .ok (.astore_n 3, 1) := by decide +kernel
theorem dc_54_41 : decode (ax_code 54) 41 = .ok (.iinc 4 1, 3) := by decide +kernel
theorem dc_54_44 : decode (ax_code 54) 44 = .ok (.goto (-37), 3) := by decide +kernel
theorem dc_54_47 : decode (ax_code 54) 47 = .ok (.iload_n 2, 1) := by decide +kernel
theorem dc_54_48 : decode (ax_code 54) 48 = .ok (.aload_n 3, 1) := by decide +kernel
theorem dc_54_49 : decode (ax_code 54) 49 = .ok (.aload_n 1, 1) := by decide +kernel
theorem dc_54_50 : decode (ax_code 54) 50 = .ok (.invokevirtual 28, 3) := by decide +kernel
theorem dc_54_53 : decode (ax_code 54) 53 = .ok (.iadd, 1) := by decide +kernel
theorem dc_54_54 : decode (ax_code 54) 54 = .ok (.ireturn, 1) := by decide +kernel
theorem dc_55_0 : decode (ax_code 55) 0 = .ok (.aload_n 0, 1) := by decide +kernel
theorem dc_55_1 : decode (ax_code 55) 1 = .ok (.getfield 9, 3) := by decide +kernel
theorem dc_55_4 : decode (ax_code 55) 4 = .ok (.ifCond .ne 8, 3) := by decide +kernel
theorem dc_55_7 : decode (ax_code 55) 7 = .ok (.aload_n 0, 1) := by decide +kernel
theorem dc_55_8 : decode (ax_code 55) 8 = .ok (.getfield 21, 3) := by decide +kernel
theorem dc_55_11 : decode (ax_code 55) 11 = .ok (.ireturn, 1) := by decide +kernel
theorem dc_55_12 : decode (ax_code 55) 12 = .ok (.aload_n 0, 1) := by decide +kernel
theorem dc_55_13 : decode (ax_code 55) 13 = .ok (.getfield 9, 3) := by decide +kernel
theorem dc_55_16 : decode (ax_code 55) 16 = .ok (.iconst 3, 1) := by decide +kernel
theorem dc_55_17 : decode (ax_code 55) 17 = .ok (.if_icmp .eq 14, 3) := by decide +kernel
theorem dc_55_20 : decode (ax_code 55) 20 = .ok (.aload_n 0, 1) := by decide +kernel
theorem dc_55_21 : decode (ax_code 55) 21 = .ok (.getfield 15, 3) := by decide +kernel
theorem dc_55_24 : decode (ax_code 55) 24 = .ok (.aload_n 1, 1) := by decide +kernel
theorem dc_55_25 : decode (ax_code 55) 25 = .ok (.getfield 32, 3) := by decide +kernel
theorem dc_55_28 : decode (ax_code 55) 28 = .ok (.if_icmp .lt 5, 3) := by decide +kernel
theorem dc_55_31 : decode (ax_code 55) 31 = .ok (.iconst 0, 1) := by decide +kernel
theorem dc_55_32 : decode (ax_code 55) 32 = .ok (.ireturn, 1) := by decide +kernel
theorem dc_55_33 : decode (ax_code 55) 33 = .ok (.aload_n 1, 1) := by decide +kernel
theorem dc_55_34 : decode (ax_code 55) 34 = .ok (.getfield 37, 3) := by decide +kernel
theorem dc_55_37 : decode (ax_code 55) 37 = .ok (.aload_n 0, 1) := by decide +kernel
theorem dc_55_38 : decode (ax_code 55) 38 = .ok (.getfield 15, 3) := by decide +kernel
theorem dc_55_41 : decode (ax_code 55) 41 = .ok (.iaload, 1) := by decide +kernel
theorem dc_55_42 : decode (ax_code 55) 42 = .ok (.istore_n 2, 1) := by decide +kernel
theorem dc_55_43 : decode (ax_code 55) 43 = .ok (.aload_n 0, 1) := by decide +kernel
theorem dc_55_44 : decode (ax_code 55) 44 = .ok (.getfield 9, 3) := by decide +kernel
theorem dc_55_47 : decode (ax_code 55) 47 = .ok (.iconst 1, 1) := by decide +kernel
theorem dc_55_48 : decode (ax_code 55) 48 = .ok (.if_icmp .ne 27, 3) := by decide +kernel
theorem dc_55_51 : decode (ax_code 55) 51 = .ok (.iload_n 2, 1) := by decide +kernel
theorem dc_55_52 : decode (ax_code 55) 52 = .ok (.aload_n 1, 1) := by decide +kernel
theorem dc_55_53 : decode (ax_code 55) 53 = .ok (.getfield 41, 3) := by decide +kernel
theorem dc_55_56 : decode (ax_code 55) 56 = .ok (.if_icmp .ge 17, 3) := by decide +kernel
theorem dc_55_59 : decode (ax_code 55) 59 = .ok (.aload_n 0, 1) := by decide +kernel
theorem dc_55_60 : decode (ax_code 55) 60 = .ok (.getfield 21, 3) := by decide +kernel
theorem dc_55_63 : decode (ax_code 55) 63 = .ok (.aload_n 1, 1) := by decide +kernel
theorem dc_55_64 : decode (ax_code 55) 64 = .ok (.getfield 44, 3) := by decide +kernel
theorem dc_55_67 : decode (ax_code 55) 67 = .ok (.iload_n 2, 1) := by decide +kernel
theorem dc_55_68 : decode (ax_code 55) 68 = .ok (.iaload, 1) := by decide +kernel
theorem dc_55_69 : decode (ax_code 55) 69 = .ok (.imul, 1) := by decide +kernel
theorem dc_55_70 : decode (ax_code 55) 70 = .ok (.goto 4, 3) := by decide +kernel
theorem dc_55_73 : decode (ax_code 55) 73 = .ok (.iconst 0, 1) := by decide +kernel
theorem dc_55_74 : decode (ax_code 55) 74 = .ok (.ireturn, 1) := by decide +kernel
theorem dc_55_75 : decode (ax_code 55) 75 = .ok (.aload_n 0, 1) := by decide +kernel
theorem dc_55_76 : decode (ax_code 55) 76 = .ok (.getfield 9, 3) := by decide +kernel
theorem dc_55_79 : decode (ax_code 55) 79 = .ok (.iconst 4, 1) := by decide +kernel
theorem dc_55_80 : decode (ax_code 55) 80 = .ok (.if_icmp .ne 21, 3) := by decide +kernel
theorem dc_55_83 : decode (ax_code 55) 83 = .ok (.iload_n 2, 1) := by decide +kernel
theorem dc_55_84 : decode (ax_code 55) 84 = .ok (.ifCond .ne 12, 3) := by decide +kernel
theorem dc_55_87 : decode (ax_code 55) 87 = .ok (.iconst 2, 1) := by decide +kernel
theorem dc_55_88 : decode (ax_code 55) 88 = .ok (.aload_n 0, 1) := by decide +kernel
theorem dc_55_89 : decode (ax_code 55) 89 = .ok (.getfield 21, 3) := by decide +kernel
theorem dc_55_92 : decode (ax_code 55) 92 = .ok (.imul, 1) := by decide +kernel
theorem dc_55_93 : decode (ax_code 55) 93 = .ok (.goto 7, 3) := by decide +kernel
theorem dc_55_96 : decode (ax_code 55) 96 = .ok (.aload_n 0, 1) := by decide +kernel
theorem dc_55_97 : decode (ax_code 55) 97 = .ok (.getfield 21, 3) := by decide +kernel
theorem dc_55_100 : decode (ax_code 55) 100 = .ok (.ireturn, 1) := by decide +kernel
theorem dc_55_101 : decode (ax_code 55) 101 = .ok (.aload_n 0, 1) := by decide +kernel
theorem dc_55_102 : decode (ax_code 55) 102 = .ok (.getfield 9, 3) := by decide +kernel
theorem dc_55_105 : decode (ax_code 55) 105 = .ok (.iconst 2, 1) := by decide +kernel
theorem dc_55_106 : decode (ax_code 55) 106 = .ok (.if_icmp .ne 33, 3) := by decide +kernel
theorem dc_55_109 : decode (ax_code 55) 109 = .ok (.aload_n 0, 1) := by decide +kernel
theorem dc_55_110 : decode (ax_code 55) 110 = .ok (.getfield 18, 3) := by decide +kernel
theorem dc_55_113 : decode (ax_code 55) 113 = .ok (.aload_n 1, 1) := by decide +kernel
theorem dc_55_114 : decode (ax_code 55) 114 = .ok (.getfield 32, 3) := by decide +kernel
theorem dc_55_117 : decode (ax_code 55) 117 = .ok (.if_icmp .ge 22, 3) := by decide +kernel
theorem dc_55_120 : decode (ax_code 55) 120 = .ok (.aload_n 0, 1) := by decide +kernel
theorem dc_55_121 : decode (ax_code 55) 121 = .ok (.getfield 21, 3) := by decide +kernel
theorem dc_55_124 : decode (ax_code 55) 124 = .ok (.iload_n 2, 1) := by decide +kernel
theorem dc_55_125 : decode (ax_code 55) 125 = .ok (.aload_n 1, 1) := by decide +kernel
theorem dc_55_126 : decode (ax_code 55) 126 = .ok (.getfield 37, 3) := by decide +kernel
theorem dc_55_129 : decode (ax_code 55) 129 = .ok (.aload_n 0, 1) := by decide +kernel
theorem dc_55_130 : decode (ax_code 55) 130 = .ok (.getfield 18, 3) := by decide +kernel
theorem dc_55_133 : decode (ax_code 55) 133 = .ok (.iaload, 1) := by decide +kernel
theorem dc_55_134 : decode (ax_code 55) 134 = .ok (.isub, 1) := by decide +kernel
theorem dc_55_135 : decode (ax_code 55) 135 = .ok (.imul, 1) := by decide +kernel
theorem dc_55_136 : decode (ax_code 55) 136 = .ok (.goto 4, 3) := by decide +kernel
theorem dc_55_139 : decode (ax_code 55) 139 = .ok (.iconst 0, 1) := by decide +kernel
theorem dc_55_140 : decode (ax_code 55) 140 = .ok (.ireturn, 1) := by decide +kernel
theorem dc_56_0 : decode (ax_code 56) 0 = .ok (.lload_n 2, 1) := by decide +kernel
theorem dc_56_1 : decode (ax_code 56) 1 = .ok (.lconst 0, 1) := by decide +kernel
theorem dc_56_2 : decode (ax_code 56) 2 = .ok (.lcmp, 1) := by decide +kernel
theorem dc_56_3 : decode (ax_code 56) 3 = .ok (.ifCond .le 27, 3) := by decide +kernel
theorem dc_56_6 : decode (ax_code 56) 6 = .ok (.lload_n 0, 1) := by decide +kernel
theorem dc_56_7 : decode (ax_code 56) 7 = .ok (.ldc2_w 387, 3) := by decide +kernel
theorem dc_56_10 : decode (ax_code 56) 10 = .ok (.lload_n 2, 1) := by decide +kernel
theorem dc_56_11 : decode (ax_code 56) 11 = .ok (.ldiv, 1) := by decide +kernel
theorem dc_56_12 : decode (ax_code 56) 12 = .ok (.lcmp, 1) := by decide +kernel
theorem dc_56_13 : decode (ax_code 56) 13 = .ok (.ifCond .gt 17, 3) := by decide +kernel
theorem dc_56_16 : decode (ax_code 56) 16 = .ok (.lload_n 0, 1) := by decide +kernel
theorem dc_56_17 : decode (ax_code 56) 17 = .ok (.ldc2_w 389, 3) := by decide +kernel
theorem dc_56_20 : decode (ax_code 56) 20 = .ok (.lload_n 2, 1) := by decide +kernel
theorem dc_56_21 : decode (ax_code 56) 21 = .ok (.ldiv, 1) := by decide +kernel
theorem dc_56_22 : decode (ax_code 56) 22 = .ok (.lcmp, 1) := by decide +kernel
theorem dc_56_23 : decode (ax_code 56) 23 = .ok (.ifCond .lt 7, 3) := by decide +kernel
theorem dc_56_26 : decode (ax_code 56) 26 = .ok (.iconst 1, 1) := by decide +kernel
theorem dc_56_27 : decode (ax_code 56) 27 = .ok (.goto 4, 3) := by decide +kernel
theorem dc_56_30 : decode (ax_code 56) 30 = .ok (.iconst 0, 1) := by decide +kernel
theorem dc_56_31 : decode (ax_code 56) 31 = .ok (.ireturn, 1) := by decide +kernel
theorem dc_57_0 : decode (ax_code 57) 0 = .ok (.iload_n 1, 1) := by decide +kernel
theorem dc_57_1 : decode (ax_code 57) 1 = .ok (.invokestatic 173, 3) := by decide +kernel
theorem dc_57_4 : decode (ax_code 57) 4 = .ok (.ifCond .eq 10, 3) := by decide +kernel
theorem dc_57_7 : decode (ax_code 57) 7 = .ok (.iload_n 2, 1) := by decide +kernel
theorem dc_57_8 : decode (ax_code 57) 8 = .ok (.invokestatic 164, 3) := by decide +kernel
theorem dc_57_11 : decode (ax_code 57) 11 = .ok (.ifCond .ne 7, 3) := by decide +kernel
theorem dc_57_14 : decode (ax_code 57) 14 = .ok (.ldc2_w 167, 3) := by decide +kernel
theorem dc_57_17 : decode (ax_code 57) 17 = .ok (.lreturn, 1) := by decide +kernel
theorem dc_57_18 : decode (ax_code 57) 18 = .ok (.aload_n 0, 1) := by decide +kernel
theorem dc_57_19 : decode (ax_code 57) 19 = .ok (.getfield 33, 3) := by decide +kernel
theorem dc_57_22 : decode (ax_code 57) 22 = .ok (.aload_n 0, 1) := by decide +kernel
theorem dc_57_23 : decode (ax_code 57) 23 = .ok (.getfield 10, 3) := by decide +kernel
theorem dc_57_26 : decode (ax_code 57) 26 = .ok (.iload_n 1, 1) := by decide +kernel
theorem dc_57_27 : decode (ax_code 57) 27 = .ok (.invokevirtual 299, 3) := by decide +kernel
theorem dc_57_30 : decode (ax_code 57) 30 = .ok (.i2l, 1) := by decide +kernel
theorem dc_57_31 : decode (ax_code 57) 31 = .ok (.lstore_n 3, 1) := by decide +kernel
theorem dc_57_32 : decode (ax_code 57) 32 = .ok (.aload_n 0, 1) := by decide +kernel
theorem dc_57_33 : decode (ax_code 57) 33 = .ok (.getfield 10, 3) := by decide +kernel
theorem dc_57_36 : decode (ax_code 57) 36 = .ok (.getfield 77, 3) := by decide +kernel
theorem dc_57_39 : decode (ax_code 57) 39 = .ok (.aload_n 0, 1) := by decide +kernel
theorem dc_57_40 : decode (ax_code 57) 40 = .ok (.getfield 10, 3) := by decide +kernel
theorem dc_57_43 : decode (ax_code 57) 43 = .ok (.getfield 77, 3) := by decide +kernel
theorem dc_57_46 : decode (ax_code 57) 46 = .ok (.getfield 117, 3) := by decide +kernel
theorem dc_57_49 : decode (ax_code 57) 49 = .ok (.invokevirtual 169, 3) := by decide +kernel
theorem dc_57_52 : decode (ax_code 57) 52 = .ok (.i2l, 1) := by decide +kernel
theorem dc_57_53 : decode (ax_code 57) 53 = .ok (.lstore 5, 2) := by decide +kernel
theorem dc_57_55 : decode (ax_code 57) 55 = .ok (.lload_n 3, 1) := by decide +kernel
theorem dc_57_56 : decode (ax_code 57) 56 = .ok (.lload 5, 2) := by decide +kernel
theorem dc_57_58 : decode (ax_code 57) 58 = .ok (.iconst 0, 1) := by decide +kernel
theorem dc_57_59 : decode (ax_code 57) 59 = .ok (.invokestatic 201, 3) := by decide +kernel
theorem dc_57_62 : decode (ax_code 57) 62 = .ok (.lstore 7, 2) := by decide +kernel
theorem dc_57_64 : decode (ax_code 57) 64 = .ok (.lload_n 3, 1) := by decide +kernel
theorem dc_57_65 : decode (ax_code 57) 65 = .ok (.lload 5, 2) := by decide +kernel
theorem dc_57_67 : decode (ax_code 57) 67 = .ok (.iconst 1, 1) := by decide +kernel
theorem dc_57_68 : decode (ax_code 57) 68 = .ok (.invokestatic 201, 3) := by decide +kernel
theorem dc_57_71 : decode (ax_code 57) 71 = .ok (.lstore 9, 2) := by decide +kernel
theorem dc_57_73 : decode (ax_code 57) 73 = .ok (.aload_n 0, 1) := by decide +kernel
theorem dc_57_74 : decode (ax_code 57) 74 = .ok (.getfield 10, 3) := by decide +kernel
theorem dc_57_77 : decode (ax_code 57) 77 = .ok (.getfield 289, 3) := by decide +kernel
theorem dc_57_80 : decode (ax_code 57) 80 = .ok (.lload 9, 2) := by decide +kernel
theorem dc_57_82 : decode (ax_code 57) 82 = .ok (.invokestatic 303, 3) := by decide +kernel
theorem dc_57_85 : decode (ax_code 57) 85 = .ok (.lstore 11, 2) := by decide +kernel
theorem dc_57_87 : decode (ax_code 57) 87 = .ok (.lload 7, 2) := by decide +kernel
theorem dc_57_89 : decode (ax_code 57) 89 = .ok (.aload_n 0, 1) := by decide +kernel
theorem dc_57_90 : decode (ax_code 57) 90 = .ok (.getfield 10, 3) := by decide +kernel
theorem dc_57_93 : decode (ax_code 57) 93 = .ok (.getfield 289, 3) := by decide +kernel
theorem dc_57_96 : decode (ax_code 57) 96 = .ok (.lload 11, 2) := by decide +kernel
theorem dc_57_98 : decode (ax_code 57) 98 = .ok (.ldiv, 1) := by decide +kernel
theorem dc_57_99 : decode (ax_code 57) 99 = .ok (.invokestatic 293, 3) := by decide +kernel
theorem dc_57_102 : decode (ax_code 57) 102 = .ok (.ifCond .ne 7, 3) := by decide +kernel
theorem dc_57_105 : decode (ax_code 57) 105 = .ok (.ldc2_w 297, 3) := by decide +kernel
theorem dc_57_108 : decode (ax_code 57) 108 = .ok (.lreturn, 1) := by decide +kernel
theorem dc_57_109 : decode (ax_code 57) 109 = .ok (.iload_n 2, 1) := by decide +kernel
theorem dc_57_110 : decode (ax_code 57) 110 = .ok (.ifCond .ne 19, 3) := by decide +kernel
theorem dc_57_113 : decode (ax_code 57) 113 = .ok (.lload 7, 2) := by decide +kernel
theorem dc_57_115 : decode (ax_code 57) 115 = .ok (.aload_n 0, 1) := by decide +kernel
theorem dc_57_116 : decode (ax_code 57) 116 = .ok (.getfield 10, 3) := by decide +kernel
theorem dc_57_119 : decode (ax_code 57) 119 = .ok (.getfield 289, 3) := by decide +kernel
theorem dc_57_122 : decode (ax_code 57) 122 = .ok (.lload 11, 2) := by decide +kernel
theorem dc_57_124 : decode (ax_code 57) 124 = .ok (.ldiv, 1) := by decide +kernel
theorem dc_57_125 : decode (ax_code 57) 125 = .ok (.lmul, 1) := by decide +kernel
theorem dc_57_126 : decode (ax_code 57) 126 = .ok (.goto 8, 3) := by decide +kernel
theorem dc_57_129 : decode (ax_code 57) 129 = .ok (.lload 9, 2) := by decide +kernel
theorem dc_57_131 : decode (ax_code 57) 131 = .ok (.lload 11, 2) := by decide +kernel
theorem dc_57_133 : decode (ax_code 57) 133 = .ok (.ldiv, 1) := by decide +kernel
theorem dc_57_134 : decode (ax_code 57) 134 = .ok (.lreturn, 1) := by decide +kernel
theorem dc_58_0 : decode (ax_code 58) 0 = .ok (.aload_n 0, 1) := by decide +kernel
theorem dc_58_1 : decode (ax_code 58) 1 = .ok (.aload_n 1, 1) := by decide +kernel
theorem dc_58_2 : decode (ax_code 58) 2 = .ok (.aload_n 1, 1) := by decide +kernel
theorem dc_58_3 : decode (ax_code 58) 3 = .ok (.getfield 45, 3) := by decide +kernel
theorem dc_58_6 : decode (ax_code 58) 6 = .ok (.getfield 85, 3) := by decide +kernel
theorem dc_58_9 : decode (ax_code 58) 9 = .ok (.iconst (-1), 1) := by decide +kernel
theorem dc_58_10 : decode (ax_code 58) 10 = .ok (.invokevirtual 88, 3) := by decide +kernel
theorem dc_58_13 : decode (ax_code 58) 13 = .ok (.iconst 0, 1) := by decide +kernel
theorem dc_58_14 : decode (ax_code 58) 14 = .ok (.istore_n 3, 1) := by decide +kernel
theorem dc_58_15 : decode (ax_code 58) 15 = .ok (.iconst 0, 1) := by decide +kernel
theorem dc_58_16 : decode (ax_code 58) 16 = .ok (.istore 4, 2) := by decide +kernel
theorem dc_58_18 : decode (ax_code 58) 18 = .ok (.iload 4, 2) := by decide +kernel
theorem dc_58_20 : decode (ax_code 58) 20 = .ok (.aload_n 0, 1) := by decide +kernel
theorem dc_58_21 : decode (ax_code 58) 21 = .ok (.getfield 18, 3) := by decide +kernel
theorem dc_58_24 : decode (ax_code 58) 24 = .ok (.if_icmp .ge 38, 3) := by decide +kernel
theorem dc_58_27 : decode (ax_code 58) 27 = .ok (.aload_n 1, 1) := by decide +kernel
theorem dc_58_28 : decode (ax_code 58) 28 = .ok (.getfield 45, 3) := by decide +kernel
theorem dc_58_31 : decode (ax_code 58) 31 = .ok (.aload_n 0, 1) := by decide +kernel
theorem dc_58_32 : decode (ax_code 58) 32 = .ok (.getfield 9, 3) := by decide +kernel
theorem dc_58_35 : decode (ax_code 58) 35 = .ok (.iload 4, 2) := by decide +kernel
theorem dc_58_37 : decode (ax_code 58) 37 = .ok (.iaload, 1) := by decide +kernel
theorem dc_58_38 : decode (ax_code 58) 38 = .ok (.aload_n 1, 1) := by decide +kernel
theorem dc_58_39 : decode (ax_code 58) 39 = .ok (.getfield 45, 3) := by decide +kernel
theorem dc_58_42 : decode (ax_code 58) 42 = .ok (.getfield 85, 3) := by decide +kernel
theorem dc_58_45 : decode (ax_code 58) 45 = .ok (.invokevirtual 91, 3) := by decide +kernel
theorem dc_58_48 : decode (ax_code 58) 48 = .ok (.iload_n 3, 1) := by decide +kernel
theorem dc_58_49 : decode (ax_code 58) 49 = .ok (.aload_n 1, 1) := by decide +kernel
theorem dc_58_50 : decode (ax_code 58) 50 = .ok (.iload_n 2, 1) := by decide +kernel
theorem dc_58_51 : decode (ax_code 58) 51 = .ok (.invokevirtual 95, 3) := by decide +kernel
theorem dc_58_54 : decode (ax_code 58) 54 = .ok (.iadd, 1) := by decide +kernel
theorem dc_58_55 : decode (ax_code 58) 55 = .ok (.istore_n 3, 1) := by decide +kernel
theorem dc_58_56 : decode (ax_code 58) 56 = .ok (.iinc 4 1, 3) := by decide +kernel
theorem dc_58_59 : decode (ax_code 58) 59 = .ok (.goto (-41), 3) := by decide +kernel
theorem dc_58_62 : decode (ax_code 58) 62 = .ok (.iload_n 3, 1) := by decide +kernel
theorem dc_58_63 : decode (ax_code 58) 63 = .ok (.ireturn, 1) := by decide +kernel
theorem dc_59_0 : decode (ax_code 59) 0 = .ok (.iconst 1, 1) := by decide +kernel
theorem dc_59_1 : decode (ax_code 59) 1 = .ok (.istore_n 2, 1) := by decide +kernel
theorem dc_59_2 : decode (ax_code 59) 2 = .ok (.iconst 0, 1) := by decide +kernel
theorem dc_59_3 : decode (ax_code 59) 3 = .ok (.istore_n 3, 1) := by decide +kernel
theorem dc_59_4 : decode (ax_code 59) 4 = .ok (.iload_n 3, 1) := by decide +kernel
theorem dc_59_5 : decode (ax_code 59) 5 = .ok (.iload_n 1, 1) := by decide +kernel
theorem dc_59_6 : decode (ax_code 59) 6 = .ok (.if_icmp .ge 26, 3) := by decide +kernel
theorem dc_59_9 : decode (ax_code 59) 9 = .ok (.aload_n 0, 1) := by decide +kernel
theorem dc_59_10 : decode (ax_code 59) 10 = .ok (.iload_n 3, 1) := by decide +kernel
theorem dc_59_11 : decode (ax_code 59) 11 = .ok (.invokevirtual 131, 3) := by decide +kernel
theorem dc_59_14 : decode (ax_code 59) 14 = .ok (.ifCond .eq 12, 3) := by decide +kernel
theorem dc_59_17 : decode (ax_code 59) 17 = .ok (.iload_n 2, 1) := by decide +kernel
theorem dc_59_18 : decode (ax_code 59) 18 = .ok (.aload_n 0, 1) := by decide +kernel
theorem dc_59_19 : decode (ax_code 59) 19 = .ok (.getfield 28, 3) := by decide +kernel
theorem dc_59_22 : decode (ax_code 59) 22 = .ok (.iload_n 3, 1) := by decide +kernel
theorem dc_59_23 : decode (ax_code 59) 23 = .ok (.iaload, 1) := by decide +kernel
theorem dc_59_24 : decode (ax_code 59) 24 = .ok (.imul, 1) := by decide +kernel
theorem dc_59_25 : decode (ax_code 59) 25 = .ok (.istore_n 2, 1) := by decide +kernel
theorem dc_59_26 : decode (ax_code 59) 26 = .ok (.iinc 3 1, 3) := by decide +kernel
theorem dc_59_29 : decode (ax_code 59) 29 = .ok (.goto (-25), 3) := by decide +kernel
theorem dc_59_32 : decode (ax_code 59) 32 = .ok (.iload_n 2, 1) := by decide +kernel
theorem dc_59_33 : decode (ax_code 59) 33 = .ok (.ireturn, 1) := by decide +kernel
theorem dc_60_0 : decode (ax_code 60) 0 = .ok (.aload_n 0, 1) := by decide +kernel
theorem dc_60_1 : decode (ax_code 60) 1 = .ok (.iload_n 1, 1) := by decide +kernel
theorem dc_60_2 : decode (ax_code 60) 2 = .ok (.invokevirtual 67, 3) := by decide +kernel
theorem dc_60_5 : decode (ax_code 60) 5 = .ok (.astore_n 2, 1) := by decide +kernel
theorem dc_60_6 : decode (ax_code 60) 6 = .ok (.aload_n 2, 1) := by decide +kernel
theorem dc_60_7 : decode (ax_code 60) 7 = .ok (.ifnull 17, 3) := by decide +kernel
theorem dc_60_10 : decode (ax_code 60) 10 = .ok (.aload_n 2, 1) := by decide +kernel
theorem dc_60_11 : decode (ax_code 60) 11 = .ok (.getfield 71, 3) := by decide +kernel
theorem dc_60_14 : decode (ax_code 60) 14 = .ok (.invokevirtual 75, 3) := by decide +kernel
theorem dc_60_17 : decode (ax_code 60) 17 = .ok (.ifCond .eq 7, 3) := by decide +kernel
theorem dc_60_20 : decode (ax_code 60) 20 = .ok (.iconst 1, 1) := by decide +kernel
theorem dc_60_21 : decode (ax_code 60) 21 = .ok (.goto 4, 3) := by decide +kernel
theorem dc_60_24 : decode (ax_code 60) 24 = .ok (.iconst 0, 1) := by decide +kernel
theorem dc_60_25 : decode (ax_code 60) 25 = .ok (.ireturn, 1) := by decide +kernel
theorem dc_61_0 : decode (ax_code 61) 0 = .ok (.aload_n 0, 1) := by decide +kernel
theorem dc_61_1 : decode (ax_code 61) 1 = .ok (.invokevirtual 62, 3) := by decide +kernel
theorem dc_61_4 : decode (ax_code 61) 4 = .ok (.ifCond .ne 17, 3) := by decide +kernel
theorem dc_61_7 : decode (ax_code 61) 7 = .ok (.aload_n 0, 1) := by decide +kernel
theorem dc_61_8 : decode (ax_code 61) 8 = .ok (.getstatic 22, 3) := by decide +kernel
theorem dc_61_11 : decode (ax_code 61) 11 = .ok (.if_acmp .eq 10, 3) := by decide +kernel
theorem dc_61_14 : decode (ax_code 61) 14 = .ok (.aload_n 0, 1) := by decide +kernel
theorem dc_61_15 : decode (ax_code 61) 15 = .ok (.getstatic 25, 3) := by decide +kernel
theorem dc_61_18 : decode (ax_code 61) 18 = .ok (.if_acmp .ne 7, 3) := by decide +kernel
theorem dc_61_21 : decode (ax_code 61) 21 = .ok (.iconst 1, 1) := by decide +kernel
theorem dc_61_22 : decode (ax_code 61) 22 = .ok (.goto 4, 3) := by decide +kernel
theorem dc_61_25 : decode (ax_code 61) 25 = .ok (.iconst 0, 1) := by decide +kernel
theorem dc_61_26 : decode (ax_code 61) 26 = .ok (.ireturn, 1) := by decide +kernel
theorem dc_62_0 : decode (ax_code 62) 0 = .ok (.aload_n 0, 1) := by decide +kernel
theorem dc_62_1 : decode (ax_code 62) 1 = .ok (.getstatic 3, 3) := by decide +kernel
theorem dc_62_4 : decode (ax_code 62) 4 = .ok (.if_acmp .eq 10, 3) := by decide +kernel
theorem dc_62_7 : decode (ax_code 62) 7 = .ok (.aload_n 0, 1) := by decide +kernel
theorem dc_62_8 : decode (ax_code 62) 8 = .ok (.getstatic 7, 3) := by decide +kernel
theorem dc_62_11 : decode (ax_code 62) 11 = .ok (.if_acmp .ne 7, 3) := by decide +kernel
theorem dc_62_14 : decode (ax_code 62) 14 = .ok (.iconst 1, 1) := by decide +kernel
theorem dc_62_15 : decode (ax_code 62) 15 = .ok (.goto 4, 3) := by decide +kernel
theorem dc_62_18 : decode (ax_code 62) 18 = .ok (.iconst 0, 1) := by decide +kernel
theorem dc_62_19 : decode (ax_code 62) 19 = .ok (.ireturn, 1) := by decide +kernel
theorem dc_63_0 : decode (ax_code 63) 0 = .ok (.iload_n 1, 1) := by decide +kernel
theorem dc_63_1 : decode (ax_code 63) 1 = .ok (.invokestatic 173, 3) := by decide +kernel
theorem dc_63_4 : decode (ax_code 63) 4 = .ok (.ifCond .eq 10, 3) := by decide +kernel
theorem dc_63_7 : decode (ax_code 63) 7 = .ok (.iload_n 2, 1) := by decide +kernel
theorem dc_63_8 : decode (ax_code 63) 8 = .ok (.invokestatic 164, 3) := by decide +kernel
theorem dc_63_11 : decode (ax_code 63) 11 = .ok (.ifCond .ne 7, 3) := by decide +kernel
theorem dc_63_14 : decode (ax_code 63) 14 = .ok (.ldc2_w 167, 3) := by decide +kernel
theorem dc_63_17 : decode (ax_code 63) 17 = .ok (.lreturn, 1) := by decide +kernel
theorem dc_63_18 : decode (ax_code 63) 18 = .ok (.aload_n 0, 1) := by decide +kernel
theorem dc_63_19 : decode (ax_code 63) 19 = .ok (.iload_n 1, 1) := by decide +kernel
theorem dc_63_20 : decode (ax_code 63) 20 = .ok (.invokevirtual 307, 3) := by decide +kernel
theorem dc_63_23 : decode (ax_code 63) 23 = .ok (.ifCond .eq 7, 3) := by decide +kernel
theorem dc_63_26 : decode (ax_code 63) 26 = .ok (.ldc2_w 297, 3) := by decide +kernel
theorem dc_63_29 : decode (ax_code 63) 29 = .ok (.lreturn, 1) := by decide +kernel
theorem dc_63_30 : decode (ax_code 63) 30 = .ok (.aload_n 0, 1) := by decide +kernel
theorem dc_63_31 : decode (ax_code 63) 31 = .ok (.getfield 33, 3) := by decide +kernel
theorem dc_63_34 : decode (ax_code 63) 34 = .ok (.aload_n 0, 1) := by decide +kernel
theorem dc_63_35 : decode (ax_code 63) 35 = .ok (.getfield 10, 3) := by decide +kernel
theorem dc_63_38 : decode (ax_code 63) 38 = .ok (.aload_n 0, 1) := by decide +kernel
theorem dc_63_39 : decode (ax_code 63) 39 = .ok (.getfield 26, 3) := by decide +kernel
theorem dc_63_42 : decode (ax_code 63) 42 = .ok (.iload_n 1, 1) := by decide +kernel
theorem dc_63_43 : decode (ax_code 63) 43 = .ok (.invokevirtual 310, 3) := by decide +kernel
theorem dc_63_46 : decode (ax_code 63) 46 = .ok (.i2l, 1) := by decide +kernel
theorem dc_63_47 : decode (ax_code 63) 47 = .ok (.aload_n 0, 1) := by decide +kernel
theorem dc_63_48 : decode (ax_code 63) 48 = .ok (.getfield 10, 3) := by decide +kernel
theorem dc_63_51 : decode (ax_code 63) 51 = .ok (.getfield 77, 3) := by decide +kernel
theorem dc_63_54 : decode (ax_code 63) 54 = .ok (.aload_n 0, 1) := by decide +kernel
theorem dc_63_55 : decode (ax_code 63) 55 = .ok (.getfield 10, 3) := by decide +kernel
theorem dc_63_58 : decode (ax_code 63) 58 = .ok (.getfield 77, 3) := by decide +kernel
theorem dc_63_61 : decode (ax_code 63) 61 = .ok (.getfield 117, 3) := by decide +kernel
theorem dc_63_64 : decode (ax_code 63) 64 = .ok (.invokevirtual 169, 3) := by decide +kernel
theorem dc_63_67 : decode (ax_code 63) 67 = .ok (.i2l, 1) := by decide +kernel
theorem dc_63_68 : decode (ax_code 63) 68 = .ok (.iload_n 2, 1) := by decide +kernel
theorem dc_63_69 : decode (ax_code 63) 69 = .ok (.invokestatic 201, 3) := by decide +kernel
theorem dc_63_72 : decode (ax_code 63) 72 = .ok (.lreturn, 1) := by decide +kernel
theorem dc_64_0 : decode (ax_code 64) 0 = .ok (.aload_n 0, 1) := by decide +kernel
theorem dc_64_1 : decode (ax_code 64) 1 = .ok (.getfield 26, 3) := by decide +kernel
theorem dc_64_4 : decode (ax_code 64) 4 = .ok (.aload_n 0, 1) := by decide +kernel
theorem dc_64_5 : decode (ax_code 64) 5 = .ok (.getfield 10, 3) := by decide +kernel
theorem dc_64_8 : decode (ax_code 64) 8 = .ok (.getfield 77, 3) := by decide +kernel
theorem dc_64_11 : decode (ax_code 64) 11 = .ok (.iload_n 1, 1) := by decide +kernel
theorem dc_64_12 : decode (ax_code 64) 12 = .ok (.invokevirtual 205, 3) := by decide +kernel
theorem dc_64_15 : decode (ax_code 64) 15 = .ok (.iconst 1, 1) := by decide +kernel
theorem dc_64_16 : decode (ax_code 64) 16 = .ok (.istore_n 2, 1) := by decide +kernel
theorem dc_64_17 : decode (ax_code 64) 17 = .ok (.iconst 0, 1) := by decide +kernel
theorem dc_64_18 : decode (ax_code 64) 18 = .ok (.istore_n 3, 1) := by decide +kernel
theorem dc_64_19 : decode (ax_code 64) 19 = .ok (.iload_n 3, 1) := by decide +kernel
theorem dc_64_20 : decode (ax_code 64) 20 = .ok (.aload_n 0, 1) := by decide +kernel
theorem dc_64_21 : decode (ax_code 64) 21 = .ok (.getfield 26, 3) := by decide +kernel
theorem dc_64_24 : decode (ax_code 64) 24 = .ok (.getfield 209, 3) := by decide +kernel
theorem dc_64_27 : decode (ax_code 64) 27 = .ok (.if_icmp .ge 41, 3) := by decide +kernel
theorem dc_64_30 : decode (ax_code 64) 30 = .ok (.iload_n 2, 1) := by decide +kernel
theorem dc_64_31 : decode (ax_code 64) 31 = .ok (.aload_n 0, 1) := by decide +kernel
theorem dc_64_32 : decode (ax_code 64) 32 = .ok (.getfield 10, 3) := by decide +kernel
theorem dc_64_35 : decode (ax_code 64) 35 = .ok (.getfield 77, 3) := by decide +kernel
theorem dc_64_38 : decode (ax_code 64) 38 = .ok (.getfield 231, 3) := by decide +kernel
theorem dc_64_41 : decode (ax_code 64) 41 = .ok (.aload_n 0, 1) := by decide +kernel
theorem dc_64_42 : decode (ax_code 64) 42 = .ok (.getfield 26, 3) := by decide +kernel
theorem dc_64_45 : decode (ax_code 64) 45 = .ok (.getfield 212, 3) := by decide +kernel
theorem dc_64_48 : decode (ax_code 64) 48 = .ok (.iload_n 3, 1) := by decide +kernel
theorem dc_64_49 : decode (ax_code 64) 49 = .ok (.iaload, 1) := by decide +kernel
theorem dc_64_50 : decode (ax_code 64) 50 = .ok (.iaload, 1) := by decide +kernel
theorem dc_64_51 : decode (ax_code 64) 51 = .ok (.imul, 1) := by decide +kernel
theorem dc_64_52 : decode (ax_code 64) 52 = .ok (.istore_n 2, 1) := by decide +kernel
theorem dc_64_53 : decode (ax_code 64) 53 = .ok (.iload_n 2, 1) := by decide +kernel
theorem dc_64_54 : decode (ax_code 64) 54 = .ok (.sipush 729, 3) := by decide +kernel
theorem dc_64_57 : decode (ax_code 64) 57 = .ok (.if_icmp .le 5, 3) := by decide +kernel
theorem dc_64_60 : decode (ax_code 64) 60 = .ok (.iconst 1, 1) := by decide +kernel
theorem dc_64_61 : decode (ax_code 64) 61 = .ok (.ireturn, 1) := by decide +kernel
theorem dc_64_62 : decode (ax_code 64) 62 = .ok (.iinc 3 1, 3) := by decide +kernel
theorem dc_64_65 : decode (ax_code 64) 65 = .ok (.goto (-46), 3) := by decide +kernel
theorem dc_64_68 : decode (ax_code 64) 68 = .ok (.iconst 0, 1) := by decide +kernel
theorem dc_64_69 : decode (ax_code 64) 69 = .ok (.ireturn, 1) := by decide +kernel
theorem dc_65_0 : decode (ax_code 65) 0 = .ok (.aload_n 0, 1) := by decide +kernel
theorem dc_65_1 : decode (ax_code 65) 1 = .ok (.aload_n 1, 1) := by decide +kernel
theorem dc_65_2 : decode (ax_code 65) 2 = .ok (.aload_n 1, 1) := by decide +kernel
theorem dc_65_3 : decode (ax_code 65) 3 = .ok (.getfield 45, 3) := by decide +kernel
theorem dc_65_6 : decode (ax_code 65) 6 = .ok (.getfield 85, 3) := by decide +kernel
theorem dc_65_9 : decode (ax_code 65) 9 = .ok (.iload_n 3, 1) := by decide +kernel
theorem dc_65_10 : decode (ax_code 65) 10 = .ok (.invokevirtual 88, 3) := by decide +kernel
theorem dc_65_13 : decode (ax_code 65) 13 = .ok (.aload_n 0, 1) := by decide +kernel
theorem dc_65_14 : decode (ax_code 65) 14 = .ok (.aload_n 1, 1) := by decide +kernel
theorem dc_65_15 : decode (ax_code 65) 15 = .ok (.aload_n 2, 1) := by decide +kernel
theorem dc_65_16 : decode (ax_code 65) 16 = .ok (.iload_n 3, 1) := by decide +kernel
theorem dc_65_17 : decode (ax_code 65) 17 = .ok (.invokevirtual 99, 3) := by decide +kernel
theorem dc_65_20 : decode (ax_code 65) 20 = .ok (.iconst 0, 1) := by decide +kernel
theorem dc_65_21 : decode (ax_code 65) 21 = .ok (.istore 4, 2) := by decide +kernel
theorem dc_65_23 : decode (ax_code 65) 23 = .ok (.iload 4, 2) := by decide +kernel
theorem dc_65_25 : decode (ax_code 65) 25 = .ok (.bipush 63, 2) := by decide +kernel
theorem dc_65_27 : decode (ax_code 65) 27 = .ok (.if_icmp .ge 17, 3) := by decide +kernel
theorem dc_65_30 : decode (ax_code 65) 30 = .ok (.aload_n 0, 1) := by decide +kernel
theorem dc_65_31 : decode (ax_code 65) 31 = .ok (.getfield 35, 3) := by decide +kernel
theorem dc_65_34 : decode (ax_code 65) 34 = .ok (.iload 4, 2) := by decide +kernel
theorem dc_65_36 : decode (ax_code 65) 36 = .ok (.iconst 0, 1) := by decide +kernel
theorem dc_65_37 : decode (ax_code 65) 37 = .ok (.iastore, 1) := by decide +kernel
theorem dc_65_38 : decode (ax_code 65) 38 = .ok (.iinc 4 1, 3) := by decide +kernel
theorem dc_65_41 : decode (ax_code 65) 41 = .ok (.goto (-18), 3) := by decide +kernel
theorem dc_65_44 : decode (ax_code 65) 44 = .ok (.iconst 0, 1) := by decide +kernel
theorem dc_65_45 : decode (ax_code 65) 45 = .ok (.istore 4, 2) := by decide +kernel
theorem dc_65_47 : decode (ax_code 65) 47 = .ok (.iconst 0, 1) := by decide +kernel
theorem dc_65_48 : decode (ax_code 65) 48 = .ok (.istore 5, 2) := by decide +kernel
theorem dc_65_50 : decode (ax_code 65) 50 = .ok (.iload 5, 2) := by decide +kernel
theorem dc_65_52 : decode (ax_code 65) 52 = .ok (.sipush 729, 3) := by decide +kernel
theorem dc_65_55 : decode (ax_code 65) 55 = .ok (.if_icmp .ge 76, 3) := by decide +kernel
theorem dc_65_58 : decode (ax_code 65) 58 = .ok (.aload_n 0, 1) := by decide +kernel
theorem dc_65_59 : decode (ax_code 65) 59 = .ok (.invokevirtual 103, 3) := by decide +kernel
theorem dc_65_62 : decode (ax_code 65) 62 = .ok (.istore 6, 2) := by decide +kernel
theorem dc_65_64 : decode (ax_code 65) 64 = .ok (.iload 5, 2) := by decide +kernel
theorem dc_65_66 : decode (ax_code 65) 66 = .ok (.ifCond .eq 10, 3) := by decide +kernel
theorem dc_65_69 : decode (ax_code 65) 69 = .ok (.iload 6, 2) := by decide +kernel
theorem dc_65_71 : decode (ax_code 65) 71 = .ok (.iload 4, 2) := by decide +kernel
theorem dc_65_73 : decode (ax_code 65) 73 = .ok (.if_icmp .le 37, 3) := by decide +kernel
theorem dc_65_76 : decode (ax_code 65) 76 = .ok (.iload 6, 2) := by decide +kernel
theorem dc_65_78 : decode (ax_code 65) 78 = .ok (.istore 4, 2) := by decide +kernel
theorem dc_65_80 : decode (ax_code 65) 80 = .ok (.iconst 0, 1) := by decide +kernel
theorem dc_65_81 : decode (ax_code 65) 81 = .ok (.istore 7, 2) := by decide +kernel
theorem dc_65_83 : decode (ax_code 65) 83 = .ok (.iload 7, 2) := by decide +kernel
theorem dc_65_85 : decode (ax_code 65) 85 = .ok (.bipush 9, 2) := by decide +kernel
theorem dc_65_87 : decode (ax_code 65) 87 = .ok (.if_icmp .ge 23, 3) := by decide +kernel
theorem dc_65_90 : decode (ax_code 65) 90 = .ok (.aload_n 0, 1) := by decide +kernel
theorem dc_65_91 : decode (ax_code 65) 91 = .ok (.getfield 38, 3) := by decide +kernel
theorem dc_65_94 : decode (ax_code 65) 94 = .ok (.iload 7, 2) := by decide +kernel
theorem dc_65_96 : decode (ax_code 65) 96 = .ok (.aload_n 0, 1) := by decide +kernel
theorem dc_65_97 : decode (ax_code 65) 97 = .ok (.getfield 35, 3) := by decide +kernel
theorem dc_65_100 : decode (ax_code 65) 100 = .ok (.iload 7, 2) := by decide +kernel
theorem dc_65_102 : decode (ax_code 65) 102 = .ok (.iaload, 1) := by decide +kernel
theorem dc_65_103 : decode (ax_code 65) 103 = .ok (.iastore, 1) := by decide +kernel
theorem dc_65_104 : decode (ax_code 65) 104 = .ok (.iinc 7 1, 3) := by decide +kernel
theorem dc_65_107 : decode (ax_code 65) 107 = .ok (.goto (-24), 3) := by decide +kernel
theorem dc_65_110 : decode (ax_code 65) 110 = .ok (.aload_n 0, 1) := by decide +kernel
theorem dc_65_111 : decode (ax_code 65) 111 = .ok (.aload_n 1, 1) := by decide +kernel
theorem dc_65_112 : decode (ax_code 65) 112 = .ok (.getfield 45, 3) := by decide +kernel
theorem dc_65_115 : decode (ax_code 65) 115 = .ok (.aload_n 2, 1) := by decide +kernel
theorem dc_65_116 : decode (ax_code 65) 116 = .ok (.invokevirtual 107, 3) := by decide +kernel
theorem dc_65_119 : decode (ax_code 65) 119 = .ok (.ifCond .ne 6, 3) := by decide +kernel
theorem dc_65_122 : decode (ax_code 65) 122 = .ok (.goto 9, 3) := by decide +kernel
theorem dc_65_125 : decode (ax_code 65) 125 = .ok (.iinc 5 1, 3) := by decide +kernel
theorem dc_65_128 : decode (ax_code 65) 128 = .ok (.goto (-78), 3) := by decide +kernel
theorem dc_65_131 : decode (ax_code 65) 131 = .ok (.iload 4, 2) := by decide +kernel
theorem dc_65_133 : decode (ax_code 65) 133 = .ok (.ireturn, 1) := by decide +kernel
theorem dc_66_0 : decode (ax_code 66) 0 = .ok (.aload_n 0, 1) := by decide +kernel
theorem dc_66_1 : decode (ax_code 66) 1 = .ok (.iconst 0, 1) := by decide +kernel
theorem dc_66_2 : decode (ax_code 66) 2 = .ok (.putfield 29, 3) := by decide +kernel
theorem dc_66_5 : decode (ax_code 66) 5 = .ok (.aload_n 0, 1) := by decide +kernel
theorem dc_66_6 : decode (ax_code 66) 6 = .ok (.iconst 0, 1) := by decide +kernel
theorem dc_66_7 : decode (ax_code 66) 7 = .ok (.putfield 32, 3) := by decide +kernel
theorem dc_66_10 : decode (ax_code 66) 10 = .ok (.iconst 0, 1) := by decide +kernel
theorem dc_66_11 : decode (ax_code 66) 11 = .ok (.istore 4, 2) := by decide +kernel
theorem dc_66_13 : decode (ax_code 66) 13 = .ok (.iload 4, 2) := by decide +kernel
theorem dc_66_15 : decode (ax_code 66) 15 = .ok (.aload_n 1, 1) := by decide +kernel
theorem dc_66_16 : decode (ax_code 66) 16 = .ok (.getfield 45, 3) := by decide +kernel
theorem dc_66_19 : decode (ax_code 66) 19 = .ok (.getfield 85, 3) := by decide +kernel
theorem dc_66_22 : decode (ax_code 66) 22 = .ok (.if_icmp .ge 32, 3) := by decide +kernel
theorem dc_66_25 : decode (ax_code 66) 25 = .ok (.aload_n 1, 1) := by decide +kernel
theorem dc_66_26 : decode (ax_code 66) 26 = .ok (.getfield 45, 3) := by decide +kernel
theorem dc_66_29 : decode (ax_code 66) 29 = .ok (.iload_n 3, 1) := by decide +kernel
theorem dc_66_30 : decode (ax_code 66) 30 = .ok (.iload 4, 2) := by decide +kernel
theorem dc_66_32 : decode (ax_code 66) 32 = .ok (.invokevirtual 111, 3) := by decide +kernel
theorem dc_66_35 : decode (ax_code 66) 35 = .ok (.ifCond .eq 13, 3) := by decide +kernel
theorem dc_66_38 : decode (ax_code 66) 38 = .ok (.aload_n 0, 1) := by decide +kernel
theorem dc_66_39 : decode (ax_code 66) 39 = .ok (.dup, 1) := by decide +kernel
theorem dc_66_40 : decode (ax_code 66) 40 = .ok (.getfield 32, 3) := by decide +kernel
theorem dc_66_43 : decode (ax_code 66) 43 = .ok (.iconst 1, 1) := by decide +kernel
theorem dc_66_44 : decode (ax_code 66) 44 = .ok (.iadd, 1) := by decide +kernel
theorem dc_66_45 : decode (ax_code 66) 45 = .ok (.putfield 32, 3) := by decide +kernel
theorem dc_66_48 : decode (ax_code 66) 48 = .ok (.iinc 4 1, 3) := by decide +kernel
theorem dc_66_51 : decode (ax_code 66) 51 = .ok (.goto (-38), 3) := by decide +kernel
theorem dc_66_54 : decode (ax_code 66) 54 = .ok (.iconst 0, 1) := by decide +kernel
theorem dc_66_55 : decode (ax_code 66) 55 = .ok (.istore 4, 2) := by decide +kernel
theorem dc_66_57 : decode (ax_code 66) 57 = .ok (.iload 4, 2) := by decide +kernel
theorem dc_66_59 : decode (ax_code 66) 59 = .ok (.aload_n 0, 1) := by decide +kernel
theorem dc_66_60 : decode (ax_code 66) 60 = .ok (.getfield 18, 3) := by decide +kernel
theorem dc_66_63 : decode (ax_code 66) 63 = .ok (.if_icmp .ge 124, 3) := by decide +kernel
theorem dc_66_66 : decode (ax_code 66) 66 = .ok (.aload_n 1, 1) := by decide +kernel
theorem dc_66_67 : decode (ax_code 66) 67 = .ok (.getfield 45, 3) := by decide +kernel
theorem dc_66_70 : decode (ax_code 66) 70 = .ok (.aload_n 0, 1) := by decide +kernel
theorem dc_66_71 : decode (ax_code 66) 71 = .ok (.getfield 9, 3) := by decide +kernel
theorem dc_66_74 : decode (ax_code 66) 74 = .ok (.iload 4, 2) := by decide +kernel
theorem dc_66_76 : decode (ax_code 66) 76 = .ok (.iaload, 1) := by decide +kernel
theorem dc_66_77 : decode (ax_code 66) 77 = .ok (.aload_n 1, 1) := by decide +kernel
theorem dc_66_78 : decode (ax_code 66) 78 = .ok (.getfield 45, 3) := by decide +kernel
theorem dc_66_81 : decode (ax_code 66) 81 = .ok (.getfield 85, 3) := by decide +kernel
theorem dc_66_84 : decode (ax_code 66) 84 = .ok (.invokevirtual 91, 3) := by decide +kernel
theorem dc_66_87 : decode (ax_code 66) 87 = .ok (.aload_n 0, 1) := by decide +kernel
theorem dc_66_88 : decode (ax_code 66) 88 = .ok (.aload_n 1, 1) := by decide +kernel
theorem dc_66_89 : decode (ax_code 66) 89 = .ok (.getfield 45, 3) := by decide +kernel
theorem dc_66_92 : decode (ax_code 66) 92 = .ok (.aload_n 2, 1) := by decide +kernel
theorem dc_66_93 : decode (ax_code 66) 93 = .ok (.iload_n 3, 1) := by decide +kernel
theorem dc_66_94 : decode (ax_code 66) 94 = .ok (.invokevirtual 115, 3) := by decide +kernel
theorem dc_66_97 : decode (ax_code 66) 97 = .ok (.lstore 5, 2) := by decide +kernel
theorem dc_66_99 : decode (ax_code 66) 99 = .ok (.iconst 0, 1) := by decide +kernel
theorem dc_66_100 : decode (ax_code 66) 100 = .ok (.istore 7, 2) := by decide +kernel
theorem dc_66_102 : decode (ax_code 66) 102 = .ok (.iload 7, 2) := by decide +kernel
theorem dc_66_104 : decode (ax_code 66) 104 = .ok (.aload_n 0, 1) := by decide +kernel
theorem dc_66_105 : decode (ax_code 66) 105 = .ok (.getfield 29, 3) := by decide +kernel
theorem dc_66_108 : decode (ax_code 66) 108 = .ok (.if_icmp .ge 22, 3) := by decide +kernel
theorem dc_66_111 : decode (ax_code 66) 111 = .ok (.aload_n 0, 1) := by decide +kernel
theorem dc_66_112 : decode (ax_code 66) 112 = .ok (.getfield 22, 3) := by decide +kernel
theorem dc_66_115 : decode (ax_code 66) 115 = .ok (.iload 7, 2) := by decide +kernel
theorem dc_66_117 : decode (ax_code 66) 117 = .ok (.laload, 1) := by decide +kernel
theorem dc_66_118 : decode (ax_code 66) 118 = .ok (.lload 5, 2) := by decide +kernel
theorem dc_66_120 : decode (ax_code 66) 120 = .ok (.lcmp, 1) := by decide +kernel
theorem dc_66_121 : decode (ax_code 66) 121 = .ok (.ifCond .eq 9, 3) := by decide +kernel
theorem dc_66_124 : decode (ax_code 66) 124 = .ok (.iinc 7 1, 3) := by decide +kernel
theorem dc_66_127 : decode (ax_code 66) 127 = .ok (.goto (-25), 3) := by decide +kernel
theorem dc_66_130 : decode (ax_code 66) 130 = .ok (.iload 7, 2) := by decide +kernel
theorem dc_66_132 : decode (ax_code 66) 132 = .ok (.aload_n 0, 1) := by decide +kernel
theorem dc_66_133 : decode (ax_code 66) 133 = .ok (.getfield 29, 3) := by decide +kernel
theorem dc_66_136 : decode (ax_code 66) 136 = .ok (.if_icmp .ne 30, 3) := by decide +kernel
theorem dc_66_139 : decode (ax_code 66) 139 = .ok (.aload_n 0, 1) := by decide +kernel
theorem dc_66_140 : decode (ax_code 66) 140 = .ok (.getfield 22, 3) := by decide +kernel
theorem dc_66_143 : decode (ax_code 66) 143 = .ok (.iload 7, 2) := by decide +kernel
theorem dc_66_145 : decode (ax_code 66) 145 = .ok (.lload 5, 2) := by decide +kernel
theorem dc_66_147 : decode (ax_code 66) 147 = .ok (.lastore, 1) := by decide +kernel
theorem dc_66_148 : decode (ax_code 66) 148 = .ok (.aload_n 0, 1) := by decide +kernel
theorem dc_66_149 : decode (ax_code 66) 149 = .ok (.getfield 26, 3) := by decide +kernel
theorem dc_66_152 : decode (ax_code 66) 152 = .ok (.iload 7, 2) := by decide +kernel
theorem dc_66_154 : decode (ax_code 66) 154 = .ok (.iconst 0, 1) := by decide +kernel
theorem dc_66_155 : decode (ax_code 66) 155 = .ok (.iastore, 1) := by decide +kernel
theorem dc_66_156 : decode (ax_code 66) 156 = .ok (.aload_n 0, 1) := by decide +kernel
theorem dc_66_157 : decode (ax_code 66) 157 = .ok (.dup, 1) := by decide +kernel
theorem dc_66_158 : decode (ax_code 66) 158 = .ok (.getfield 29, 3) := by decide +kernel
theorem dc_66_161 : decode (ax_code 66) 161 = .ok (.iconst 1, 1) := by decide +kernel
theorem dc_66_162 : decode (ax_code 66) 162 = .ok (.iadd, 1) := by decide +kernel
theorem dc_66_163 : decode (ax_code 66) 163 = .ok (.putfield 29, 3) := by decide +kernel
theorem dc_66_166 : decode (ax_code 66) 166 = .ok (.aload_n 0, 1) := by decide +kernel
theorem dc_66_167 : decode (ax_code 66) 167 = .ok (.getfield 26, 3) := by decide +kernel
theorem dc_66_170 : decode (ax_code 66) 170 = .ok (.iload 7, 2) := by decide +kernel
theorem dc_66_172 : decode (ax_code 66) 172 = .ok (.dup2, 1) := by decide +kernel
theorem dc_66_173 : decode (ax_code 66) 173 = .ok (.iaload, 1) := by decide +kernel
theorem dc_66_174 : decode (ax_code 66) 174 = .ok (.aload_n 1, 1) := by decide +kernel
theorem dc_66_175 : decode (ax_code 66) 175 = .ok (.iload_n 3, 1) := by decide +kernel
theorem dc_66_176 : decode (ax_code 66) 176 = .ok (.invokevirtual 95, 3) := by decide +kernel
theorem dc_66_179 : decode (ax_code 66) 179 = .ok (.iadd, 1) := by decide +kernel
theorem dc_66_180 : decode (ax_code 66) 180 = .ok (.iastore, 1) := by decide +kernel
theorem dc_66_181 : decode (ax_code 66) 181 = .ok (.iinc 4 1, 3) := by decide +kernel
theorem dc_66_184 : decode (ax_code 66) 184 = .ok (.goto (-127), 3) := by decide +kernel
theorem dc_66_187 : decode (ax_code 66) 187 = .ok (.return_, 1) := by decide +kernel
theorem dc_67_0 : decode (ax_code 67) 0 = .ok (.lconst 0, 1) := by decide +kernel
theorem dc_67_1 : decode (ax_code 67) 1 = .ok (.lstore 4, 2) := by decide +kernel
theorem dc_67_3 : decode (ax_code 67) 3 = .ok (.iconst 0, 1) := by decide +kernel
theorem dc_67_4 : decode (ax_code 67) 4 = .ok (.istore 6, 2) := by decide +kernel
theorem dc_67_6 : decode (ax_code 67) 6 = .ok (.iload 6, 2) := by decide +kernel
theorem dc_67_8 : decode (ax_code 67) 8 = .ok (.aload_n 1, 1) := by decide +kernel
theorem dc_67_9 : decode (ax_code 67) 9 = .ok (.getfield 85, 3) := by decide +kernel
theorem dc_67_12 : decode (ax_code 67) 12 = .ok (.if_icmp .ge 59, 3) := by decide +kernel
theorem dc_67_15 : decode (ax_code 67) 15 = .ok (.aload_n 1, 1) := by decide +kernel
theorem dc_67_16 : decode (ax_code 67) 16 = .ok (.iload_n 3, 1) := by decide +kernel
theorem dc_67_17 : decode (ax_code 67) 17 = .ok (.iload 6, 2) := by decide +kernel
theorem dc_67_19 : decode (ax_code 67) 19 = .ok (.invokevirtual 111, 3) := by decide +kernel
theorem dc_67_22 : decode (ax_code 67) 22 = .ok (.ifCond .ne 6, 3) := by decide +kernel
theorem dc_67_25 : decode (ax_code 67) 25 = .ok (.goto 40, 3) := by decide +kernel
theorem dc_67_28 : decode (ax_code 67) 28 = .ok (.aload_n 2, 1) := by decide +kernel
theorem dc_67_29 : decode (ax_code 67) 29 = .ok (.iload 6, 2) := by decide +kernel
theorem dc_67_31 : decode (ax_code 67) 31 = .ok (.aload_n 1, 1) := by decide +kernel
theorem dc_67_32 : decode (ax_code 67) 32 = .ok (.iload_n 3, 1) := by decide +kernel
theorem dc_67_33 : decode (ax_code 67) 33 = .ok (.iload 6, 2) := by decide +kernel
theorem dc_67_35 : decode (ax_code 67) 35 = .ok (.invokevirtual 119, 3) := by decide +kernel
theorem dc_67_38 : decode (ax_code 67) 38 = .ok (.invokevirtual 123, 3) := by decide +kernel
theorem dc_67_41 : decode (ax_code 67) 41 = .ok (.istore 7, 2) := by decide +kernel
theorem dc_67_43 : decode (ax_code 67) 43 = .ok (.lload 4, 2) := by decide +kernel
theorem dc_67_45 : decode (ax_code 67) 45 = .ok (.bipush 6, 2) := by decide +kernel
theorem dc_67_47 : decode (ax_code 67) 47 = .ok (.lshl, 1) := by decide +kernel
theorem dc_67_48 : decode (ax_code 67) 48 = .ok (.iload 7, 2) := by decide +kernel
theorem dc_67_50 : decode (ax_code 67) 50 = .ok (.iconst 2, 1) := by decide +kernel
theorem dc_67_51 : decode (ax_code 67) 51 = .ok (.ishl, 1) := by decide +kernel
theorem dc_67_52 : decode (ax_code 67) 52 = .ok (.i2l, 1) := by decide +kernel
theorem dc_67_53 : decode (ax_code 67) 53 = .ok (.lor, 1) := by decide +kernel
theorem dc_67_54 : decode (ax_code 67) 54 = .ok (.aload_n 1, 1) := by decide +kernel
theorem dc_67_55 : decode (ax_code 67) 55 = .ok (.getfield 82, 3) := by decide +kernel
theorem dc_67_58 : decode (ax_code 67) 58 = .ok (.iload 6, 2) := by decide +kernel
theorem dc_67_60 : decode (ax_code 67) 60 = .ok (.iaload, 1) := by decide +kernel
theorem dc_67_61 : decode (ax_code 67) 61 = .ok (.i2l, 1) := by decide +kernel
theorem dc_67_62 : decode (ax_code 67) 62 = .ok (.lor, 1) := by decide +kernel
theorem dc_67_63 : decode (ax_code 67) 63 = .ok (.lstore 4, 2) := by decide +kernel
theorem dc_67_65 : decode (ax_code 67) 65 = .ok (.iinc 6 1, 3) := by decide +kernel
theorem dc_67_68 : decode (ax_code 67) 68 = .ok (.goto (-62), 3) := by decide +kernel
theorem dc_67_71 : decode (ax_code 67) 71 = .ok (.lload 4, 2) := by decide +kernel
theorem dc_67_73 : decode (ax_code 67) 73 = .ok (.lreturn, 1) := by decide +kernel
theorem dc_68_0 : decode (ax_code 68) 0 = .ok (.iconst 0, 1) := by decide +kernel
theorem dc_68_1 : decode (ax_code 68) 1 = .ok (.istore_n 3, 1) := by decide +kernel
theorem dc_68_2 : decode (ax_code 68) 2 = .ok (.aload_n 0, 1) := by decide +kernel
theorem dc_68_3 : decode (ax_code 68) 3 = .ok (.getfield 21, 3) := by decide +kernel
theorem dc_68_6 : decode (ax_code 68) 6 = .ok (.istore 4, 2) := by decide +kernel
theorem dc_68_8 : decode (ax_code 68) 8 = .ok (.iload_n 3, 1) := by decide +kernel
theorem dc_68_9 : decode (ax_code 68) 9 = .ok (.iload 4, 2) := by decide +kernel
theorem dc_68_11 : decode (ax_code 68) 11 = .ok (.if_icmp .ge 59, 3) := by decide +kernel
theorem dc_68_14 : decode (ax_code 68) 14 = .ok (.iload_n 3, 1) := by decide +kernel
theorem dc_68_15 : decode (ax_code 68) 15 = .ok (.iload 4, 2) := by decide +kernel
theorem dc_68_17 : decode (ax_code 68) 17 = .ok (.iadd, 1) := by decide +kernel
theorem dc_68_18 : decode (ax_code 68) 18 = .ok (.iconst 2, 1) := by decide +kernel
theorem dc_68_19 : decode (ax_code 68) 19 = .ok (.idiv, 1) := by decide +kernel
theorem dc_68_20 : decode (ax_code 68) 20 = .ok (.istore 5, 2) := by decide +kernel
theorem dc_68_22 : decode (ax_code 68) 22 = .ok (.aload_n 0, 1) := by decide +kernel
theorem dc_68_23 : decode (ax_code 68) 23 = .ok (.getfield 9, 3) := by decide +kernel
theorem dc_68_26 : decode (ax_code 68) 26 = .ok (.iload 5, 2) := by decide +kernel
theorem dc_68_28 : decode (ax_code 68) 28 = .ok (.iaload, 1) := by decide +kernel
theorem dc_68_29 : decode (ax_code 68) 29 = .ok (.iload_n 1, 1) := by decide +kernel
theorem dc_68_30 : decode (ax_code 68) 30 = .ok (.if_icmp .lt 25, 3) := by decide +kernel
theorem dc_68_33 : decode (ax_code 68) 33 = .ok (.aload_n 0, 1) := by decide +kernel
theorem dc_68_34 : decode (ax_code 68) 34 = .ok (.getfield 9, 3) := by decide +kernel
theorem dc_68_37 : decode (ax_code 68) 37 = .ok (.iload 5, 2) := by decide +kernel
theorem dc_68_39 : decode (ax_code 68) 39 = .ok (.iaload, 1) := by decide +kernel
theorem dc_68_40 : decode (ax_code 68) 40 = .ok (.iload_n 1, 1) := by decide +kernel
theorem dc_68_41 : decode (ax_code 68) 41 = .ok (.if_icmp .ne 22, 3) := by decide +kernel
theorem dc_68_44 : decode (ax_code 68) 44 = .ok (.aload_n 0, 1) := by decide +kernel
theorem dc_68_45 : decode (ax_code 68) 45 = .ok (.getfield 15, 3) := by decide +kernel
theorem dc_68_48 : decode (ax_code 68) 48 = .ok (.iload 5, 2) := by decide +kernel
theorem dc_68_50 : decode (ax_code 68) 50 = .ok (.iaload, 1) := by decide +kernel
theorem dc_68_51 : decode (ax_code 68) 51 = .ok (.iload_n 2, 1) := by decide +kernel
theorem dc_68_52 : decode (ax_code 68) 52 = .ok (.if_icmp .ge 11, 3) := by decide +kernel
theorem dc_68_55 : decode (ax_code 68) 55 = .ok (.iload 5, 2) := by decide +kernel
theorem dc_68_57 : decode (ax_code 68) 57 = .ok (.iconst 1, 1) := by decide +kernel
theorem dc_68_58 : decode (ax_code 68) 58 = .ok (.iadd, 1) := by decide +kernel
theorem dc_68_59 : decode (ax_code 68) 59 = .ok (.istore_n 3, 1) := by decide +kernel
theorem dc_68_60 : decode (ax_code 68) 60 = .ok (.goto 7, 3) := by decide +kernel
theorem dc_68_63 : decode (ax_code 68) 63 = .ok (.iload 5, 2) := by decide +kernel
theorem dc_68_65 : decode (ax_code 68) 65 = .ok (.istore 4, 2) := by decide +kernel
theorem dc_68_67 : decode (ax_code 68) 67 = .ok (.goto (-59), 3) := by decide +kernel
theorem dc_68_70 : decode (ax_code 68) 70 = .ok (.iload_n 3, 1) := by decide +kernel
theorem dc_68_71 : decode (ax_code 68) 71 = .ok (.aload_n 0, 1) := by decide +kernel
theorem dc_68_72 : decode (ax_code 68) 72 = .ok (.getfield 21, 3) := by decide +kernel
theorem dc_68_75 : decode (ax_code 68) 75 = .ok (.if_icmp .ge 27, 3) := by decide +kernel
theorem dc_68_78 : decode (ax_code 68) 78 = .ok (.aload_n 0, 1) := by decide +kernel
theorem dc_68_79 : decode (ax_code 68) 79 = .ok (.getfield 9, 3) := by decide +kernel
theorem dc_68_82 : decode (ax_code 68) 82 = .ok (.iload_n 3, 1) := by decide +kernel
theorem dc_68_83 : decode (ax_code 68) 83 = .ok (.iaload, 1) := by decide +kernel
theorem dc_68_84 : decode (ax_code 68) 84 = .ok (.iload_n 1, 1) := by decide +kernel
theorem dc_68_85 : decode (ax_code 68) 85 = .ok (.if_icmp .ne 17, 3) := by decide +kernel
theorem dc_68_88 : decode (ax_code 68) 88 = .ok (.aload_n 0, 1) := by decide +kernel
theorem dc_68_89 : decode (ax_code 68) 89 = .ok (.getfield 15, 3) := by decide +kernel
theorem dc_68_92 : decode (ax_code 68) 92 = .ok (.iload_n 3, 1) := by decide +kernel
theorem dc_68_93 : decode (ax_code 68) 93 = .ok (.iaload, 1) := by decide +kernel
theorem dc_68_94 : decode (ax_code 68) 94 = .ok (.iload_n 2, 1) := by decide +kernel
theorem dc_68_95 : decode (ax_code 68) 95 = .ok (.if_icmp .ne 7, 3) := by decide +kernel
theorem dc_68_98 : decode (ax_code 68) 98 = .ok (.iload_n 3, 1) := by decide +kernel
theorem dc_68_99 : decode (ax_code 68) 99 = .ok (.goto 4, 3) := by decide +kernel
theorem dc_68_102 : decode (ax_code 68) 102 = .ok (.iconst (-1), 1) := by decide +kernel
theorem dc_68_103 : decode (ax_code 68) 103 = .ok (.ireturn, 1) := by decide +kernel
theorem dc_69_0 : decode (ax_code 69) 0 = .ok (.iconst 0, 1) := by decide +kernel
theorem dc_69_1 : decode (ax_code 69) 1 = .ok (.istore_n 1, 1) := by decide +kernel
theorem dc_69_2 : decode (ax_code 69) 2 = .ok (.iconst 0, 1) := by decide +kernel
theorem dc_69_3 : decode (ax_code 69) 3 = .ok (.istore_n 2, 1) := by decide +kernel
theorem dc_69_4 : decode (ax_code 69) 4 = .ok (.iload_n 2, 1) := by decide +kernel
theorem dc_69_5 : decode (ax_code 69) 5 = .ok (.aload_n 0, 1) := by decide +kernel
theorem dc_69_6 : decode (ax_code 69) 6 = .ok (.getfield 29, 3) := by decide +kernel
theorem dc_69_9 : decode (ax_code 69) 9 = .ok (.if_icmp .ge 31, 3) := by decide +kernel
theorem dc_69_12 : decode (ax_code 69) 12 = .ok (.aload_n 0, 1) := by decide +kernel
theorem dc_69_13 : decode (ax_code 69) 13 = .ok (.aload_n 0, 1) := by decide +kernel
theorem dc_69_14 : decode (ax_code 69) 14 = .ok (.getfield 22, 3) := by decide +kernel
theorem dc_69_17 : decode (ax_code 69) 17 = .ok (.iload_n 2, 1) := by decide +kernel
theorem dc_69_18 : decode (ax_code 69) 18 = .ok (.laload, 1) := by decide +kernel
theorem dc_69_19 : decode (ax_code 69) 19 = .ok (.invokevirtual 128, 3) := by decide +kernel
theorem dc_69_22 : decode (ax_code 69) 22 = .ok (.ifCond .eq 12, 3) := by decide +kernel
theorem dc_69_25 : decode (ax_code 69) 25 = .ok (.iload_n 1, 1) := by decide +kernel
theorem dc_69_26 : decode (ax_code 69) 26 = .ok (.aload_n 0, 1) := by decide +kernel
theorem dc_69_27 : decode (ax_code 69) 27 = .ok (.getfield 26, 3) := by decide +kernel
theorem dc_69_30 : decode (ax_code 69) 30 = .ok (.iload_n 2, 1) := by decide +kernel
theorem dc_69_31 : decode (ax_code 69) 31 = .ok (.iaload, 1) := by decide +kernel
theorem dc_69_32 : decode (ax_code 69) 32 = .ok (.iadd, 1) := by decide +kernel
theorem dc_69_33 : decode (ax_code 69) 33 = .ok (.istore_n 1, 1) := by decide +kernel
theorem dc_69_34 : decode (ax_code 69) 34 = .ok (.iinc 2 1, 3) := by decide +kernel
theorem dc_69_37 : decode (ax_code 69) 37 = .ok (.goto (-33), 3) := by decide +kernel
theorem dc_69_40 : decode (ax_code 69) 40 = .ok (.iload_n 1, 1) := by decide +kernel
theorem dc_69_41 : decode (ax_code 69) 41 = .ok (.ireturn, 1) := by decide +kernel
theorem dc_70_0 : decode (ax_code 70) 0 = .ok (.lload_n 1, 1) := by decide +kernel
theorem dc_70_1 : decode (ax_code 70) 1 = .ok (.lstore_n 3, 1) := by decide +kernel
theorem dc_70_2 : decode (ax_code 70) 2 = .ok (.iconst 0, 1) := by decide +kernel
theorem dc_70_3 : decode (ax_code 70) 3 = .ok (.istore 5, 2) := by decide +kernel
theorem dc_70_5 : decode (ax_code 70) 5 = .ok (.iload 5, 2) := by decide +kernel
theorem dc_70_7 : decode (ax_code 70) 7 = .ok (.aload_n 0, 1) := by decide +kernel
theorem dc_70_8 : decode (ax_code 70) 8 = .ok (.getfield 32, 3) := by decide +kernel
theorem dc_70_11 : decode (ax_code 70) 11 = .ok (.if_icmp .ge 40, 3) := by decide +kernel
theorem dc_70_14 : decode (ax_code 70) 14 = .ok (.lload_n 3, 1) := by decide +kernel
theorem dc_70_15 : decode (ax_code 70) 15 = .ok (.ldc2_w 132, 3) := by decide +kernel
theorem dc_70_18 : decode (ax_code 70) 18 = .ok (.land, 1) := by decide +kernel
theorem dc_70_19 : decode (ax_code 70) 19 = .ok (.l2i, 1) := by decide +kernel
theorem dc_70_20 : decode (ax_code 70) 20 = .ok (.istore 6, 2) := by decide +kernel
theorem dc_70_22 : decode (ax_code 70) 22 = .ok (.aload_n 0, 1) := by decide +kernel
theorem dc_70_23 : decode (ax_code 70) 23 = .ok (.getfield 35, 3) := by decide +kernel
theorem dc_70_26 : decode (ax_code 70) 26 = .ok (.iload 6, 2) := by decide +kernel
theorem dc_70_28 : decode (ax_code 70) 28 = .ok (.iconst 2, 1) := by decide +kernel
theorem dc_70_29 : decode (ax_code 70) 29 = .ok (.ishr, 1) := by decide +kernel
theorem dc_70_30 : decode (ax_code 70) 30 = .ok (.iaload, 1) := by decide +kernel
theorem dc_70_31 : decode (ax_code 70) 31 = .ok (.iload 6, 2) := by decide +kernel
theorem dc_70_33 : decode (ax_code 70) 33 = .ok (.iconst 3, 1) := by decide +kernel
theorem dc_70_34 : decode (ax_code 70) 34 = .ok (.iand, 1) := by decide +kernel
theorem dc_70_35 : decode (ax_code 70) 35 = .ok (.if_icmp .eq 5, 3) := by decide +kernel
theorem dc_70_38 : decode (ax_code 70) 38 = .ok (.iconst 0, 1) := by decide +kernel
theorem dc_70_39 : decode (ax_code 70) 39 = .ok (.ireturn, 1) := by decide +kernel
theorem dc_70_40 : decode (ax_code 70) 40 = .ok (.lload_n 3, 1) := by decide +kernel
theorem dc_70_41 : decode (ax_code 70) 41 = .ok (.bipush 6, 2) := by decide +kernel
theorem dc_70_43 : decode (ax_code 70) 43 = .ok (.lshr, 1) := by decide +kernel
theorem dc_70_44 : decode (ax_code 70) 44 = .ok (.lstore_n 3, 1) := by decide +kernel
theorem dc_70_45 : decode (ax_code 70) 45 = .ok (.iinc 5 1, 3) := by decide +kernel
theorem dc_70_48 : decode (ax_code 70) 48 = .ok (.goto (-43), 3) := by decide +kernel
theorem dc_70_51 : decode (ax_code 70) 51 = .ok (.iconst 1, 1) := by decide +kernel
theorem dc_70_52 : decode (ax_code 70) 52 = .ok (.ireturn, 1) := by decide +kernel
theorem dc_71_0 : decode (ax_code 71) 0 = .ok (.aload_n 2, 1) := by decide +kernel
theorem dc_71_1 : decode (ax_code 71) 1 = .ok (.getfield 134, 3) := by decide +kernel
theorem dc_71_4 : decode (ax_code 71) 4 = .ok (.bipush 9, 2) := by decide +kernel
theorem dc_71_6 : decode (ax_code 71) 6 = .ok (.invokestatic 135, 3) := by decide +kernel
theorem dc_71_9 : decode (ax_code 71) 9 = .ok (.iconst 1, 1) := by decide +kernel
theorem dc_71_10 : decode (ax_code 71) 10 = .ok (.isub, 1) := by decide +kernel
theorem dc_71_11 : decode (ax_code 71) 11 = .ok (.istore_n 3, 1) := by decide +kernel
theorem dc_71_12 : decode (ax_code 71) 12 = .ok (.iload_n 3, 1) := by decide +kernel
theorem dc_71_13 : decode (ax_code 71) 13 = .ok (.ifCond .lt 48, 3) := by decide +kernel
theorem dc_71_16 : decode (ax_code 71) 16 = .ok (.aload_n 0, 1) := by decide +kernel
theorem dc_71_17 : decode (ax_code 71) 17 = .ok (.getfield 35, 3) := by decide +kernel
theorem dc_71_20 : decode (ax_code 71) 20 = .ok (.iload_n 3, 1) := by decide +kernel
theorem dc_71_21 : decode (ax_code 71) 21 = .ok (.dup2, 1) := by decide +kernel
theorem dc_71_22 : decode (ax_code 71) 22 = .ok (.iaload, 1) := by decide +kernel
theorem dc_71_23 : decode (ax_code 71) 23 = .ok (.iconst 1, 1) := by decide +kernel
theorem dc_71_24 : decode (ax_code 71) 24 = .ok (.iadd, 1) := by decide +kernel
theorem dc_71_25 : decode (ax_code 71) 25 = .ok (.iastore, 1) := by decide +kernel
theorem dc_71_26 : decode (ax_code 71) 26 = .ok (.aload_n 0, 1) := by decide +kernel
theorem dc_71_27 : decode (ax_code 71) 27 = .ok (.getfield 35, 3) := by decide +kernel
theorem dc_71_30 : decode (ax_code 71) 30 = .ok (.iload_n 3, 1) := by decide +kernel
theorem dc_71_31 : decode (ax_code 71) 31 = .ok (.iaload, 1) := by decide +kernel
theorem dc_71_32 : decode (ax_code 71) 32 = .ok (.aload_n 1, 1) := by decide +kernel
theorem dc_71_33 : decode (ax_code 71) 33 = .ok (.getfield 57, 3) := by decide +kernel
theorem dc_71_36 : decode (ax_code 71) 36 = .ok (.aload_n 2, 1) := by decide +kernel
theorem dc_71_37 : decode (ax_code 71) 37 = .ok (.getfield 140, 3) := by decide +kernel
theorem dc_71_40 : decode (ax_code 71) 40 = .ok (.iload_n 3, 1) := by decide +kernel
theorem dc_71_41 : decode (ax_code 71) 41 = .ok (.iaload, 1) := by decide +kernel
theorem dc_71_42 : decode (ax_code 71) 42 = .ok (.iaload, 1) := by decide +kernel
theorem dc_71_43 : decode (ax_code 71) 43 = .ok (.if_icmp .ge 5, 3) := by decide +kernel
theorem dc_71_46 : decode (ax_code 71) 46 = .ok (.iconst 1, 1) := by decide +kernel
theorem dc_71_47 : decode (ax_code 71) 47 = .ok (.ireturn, 1) := by decide +kernel
theorem dc_71_48 : decode (ax_code 71) 48 = .ok (.aload_n 0, 1) := by decide +kernel
theorem dc_71_49 : decode (ax_code 71) 49 = .ok (.getfield 35, 3) := by decide +kernel
theorem dc_71_52 : decode (ax_code 71) 52 = .ok (.iload_n 3, 1) := by decide +kernel
theorem dc_71_53 : decode (ax_code 71) 53 = .ok (.iconst 0, 1) := by decide +kernel
theorem dc_71_54 : decode (ax_code 71) 54 = .ok (.iastore, 1) := by decide +kernel
theorem dc_71_55 : decode (ax_code 71) 55 = .ok (.iinc 3 (-1), 3) := by decide +kernel
theorem dc_71_58 : decode (ax_code 71) 58 = .ok (.goto (-46), 3) := by decide +kernel
theorem dc_71_61 : decode (ax_code 71) 61 = .ok (.iconst 0, 1) := by decide +kernel
theorem dc_71_62 : decode (ax_code 71) 62 = .ok (.ireturn, 1) := by decide +kernel
theorem dc_73_0 : decode (ax_code 73) 0 = .ok (.iload_n 1, 1) := by decide +kernel
theorem dc_73_1 : decode (ax_code 73) 1 = .ok (.invokestatic 173, 3) := by decide +kernel
theorem dc_73_4 : decode (ax_code 73) 4 = .ok (.ifCond .ne 6, 3) := by decide +kernel
theorem dc_73_7 : decode (ax_code 73) 7 = .ok (.bipush (-2), 2) := by decide +kernel
theorem dc_73_9 : decode (ax_code 73) 9 = .ok (.ireturn, 1) := by decide +kernel
theorem dc_73_10 : decode (ax_code 73) 10 = .ok (.aload_n 0, 1) := by decide +kernel
theorem dc_73_11 : decode (ax_code 73) 11 = .ok (.iload_n 1, 1) := by decide +kernel
theorem dc_73_12 : decode (ax_code 73) 12 = .ok (.invokevirtual 307, 3) := by decide +kernel
theorem dc_73_15 : decode (ax_code 73) 15 = .ok (.ifCond .eq 6, 3) := by decide +kernel
theorem dc_73_18 : decode (ax_code 73) 18 = .ok (.bipush (-5), 2) := by decide +kernel
theorem dc_73_20 : decode (ax_code 73) 20 = .ok (.ireturn, 1) := by decide +kernel
theorem dc_73_21 : decode (ax_code 73) 21 = .ok (.aload_n 0, 1) := by decide +kernel
theorem dc_73_22 : decode (ax_code 73) 22 = .ok (.getfield 10, 3) := by decide +kernel
theorem dc_73_25 : decode (ax_code 73) 25 = .ok (.getfield 234, 3) := by decide +kernel
theorem dc_73_28 : decode (ax_code 73) 28 = .ok (.getfield 250, 3) := by decide +kernel
theorem dc_73_31 : decode (ax_code 73) 31 = .ok (.aload_n 0, 1) := by decide +kernel
theorem dc_73_32 : decode (ax_code 73) 32 = .ok (.iload_n 1, 1) := by decide +kernel
theorem dc_73_33 : decode (ax_code 73) 33 = .ok (.invokevirtual 314, 3) := by decide +kernel
theorem dc_73_36 : decode (ax_code 73) 36 = .ok (.iadd, 1) := by decide +kernel
theorem dc_73_37 : decode (ax_code 73) 37 = .ok (.bipush 40, 2) := by decide +kernel
theorem dc_73_39 : decode (ax_code 73) 39 = .ok (.if_icmp .le 6, 3) := by decide +kernel
theorem dc_73_42 : decode (ax_code 73) 42 = .ok (.bipush (-4), 2) := by decide +kernel
theorem dc_73_44 : decode (ax_code 73) 44 = .ok (.ireturn, 1) := by decide +kernel
theorem dc_73_45 : decode (ax_code 73) 45 = .ok (.aload_n 0, 1) := by decide +kernel
theorem dc_73_46 : decode (ax_code 73) 46 = .ok (.getfield 33, 3) := by decide +kernel
theorem dc_73_49 : decode (ax_code 73) 49 = .ok (.aload_n 0, 1) := by decide +kernel
theorem dc_73_50 : decode (ax_code 73) 50 = .ok (.getfield 10, 3) := by decide +kernel
theorem dc_73_53 : decode (ax_code 73) 53 = .ok (.aload_n 0, 1) := by decide +kernel
theorem dc_73_54 : decode (ax_code 73) 54 = .ok (.getfield 26, 3) := by decide +kernel
theorem dc_73_57 : decode (ax_code 73) 57 = .ok (.iload_n 1, 1) := by decide +kernel
theorem dc_73_58 : decode (ax_code 73) 58 = .ok (.invokevirtual 310, 3) := by decide +kernel
theorem dc_73_61 : decode (ax_code 73) 61 = .ok (.pop, 1) := by decide +kernel
theorem dc_73_62 : decode (ax_code 73) 62 = .ok (.iconst 0, 1) := by decide +kernel
theorem dc_73_63 : decode (ax_code 73) 63 = .ok (.istore_n 2, 1) := by decide +kernel
theorem dc_73_64 : decode (ax_code 73) 64 = .ok (.iconst 0, 1) := by decide +kernel
theorem dc_73_65 : decode (ax_code 73) 65 = .ok (.istore_n 3, 1) := by decide +kernel
theorem dc_73_66 : decode (ax_code 73) 66 = .ok (.iload_n 3, 1) := by decide +kernel
theorem dc_73_67 : decode (ax_code 73) 67 = .ok (.aload_n 0, 1) := by decide +kernel
theorem dc_73_68 : decode (ax_code 73) 68 = .ok (.getfield 26, 3) := by decide +kernel
theorem dc_73_71 : decode (ax_code 73) 71 = .ok (.getfield 209, 3) := by decide +kernel
theorem dc_73_74 : decode (ax_code 73) 74 = .ok (.if_icmp .ge 85, 3) := by decide +kernel
theorem dc_73_77 : decode (ax_code 73) 77 = .ok (.aload_n 0, 1) := by decide +kernel
theorem dc_73_78 : decode (ax_code 73) 78 = .ok (.getfield 33, 3) := by decide +kernel
theorem dc_73_81 : decode (ax_code 73) 81 = .ok (.iload_n 3, 1) := by decide +kernel
theorem dc_73_82 : decode (ax_code 73) 82 = .ok (.invokevirtual 317, 3) := by decide +kernel
theorem dc_73_85 : decode (ax_code 73) 85 = .ok (.istore 4, 2) := by decide +kernel
theorem dc_73_87 : decode (ax_code 73) 87 = .ok (.aload_n 0, 1) := by decide +kernel
theorem dc_73_88 : decode (ax_code 73) 88 = .ok (.getfield 10, 3) := by decide +kernel
theorem dc_73_91 : decode (ax_code 73) 91 = .ok (.iload_n 1, 1) := by decide +kernel
theorem dc_73_92 : decode (ax_code 73) 92 = .ok (.aload_n 0, 1) := by decide +kernel
theorem dc_73_93 : decode (ax_code 73) 93 = .ok (.getfield 26, 3) := by decide +kernel
theorem dc_73_96 : decode (ax_code 73) 96 = .ok (.getfield 212, 3) := by decide +kernel
theorem dc_73_99 : decode (ax_code 73) 99 = .ok (.iload_n 3, 1) := by decide +kernel
theorem dc_73_100 : decode (ax_code 73) 100 = .ok (.iaload, 1) := by decide +kernel
theorem dc_73_101 : decode (ax_code 73) 101 = .ok (.aload_n 0, 1) := by decide +kernel
theorem dc_73_102 : decode (ax_code 73) 102 = .ok (.getfield 26, 3) := by decide +kernel
theorem dc_73_105 : decode (ax_code 73) 105 = .ok (.getfield 215, 3) := by decide +kernel
theorem dc_73_108 : decode (ax_code 73) 108 = .ok (.iload_n 3, 1) := by decide +kernel
theorem dc_73_109 : decode (ax_code 73) 109 = .ok (.iaload, 1) := by decide +kernel
theorem dc_73_110 : decode (ax_code 73) 110 = .ok (.invokevirtual 221, 3) := by decide +kernel
theorem dc_73_113 : decode (ax_code 73) 113 = .ok (.iload 4, 2) := by decide +kernel
theorem dc_73_115 : decode (ax_code 73) 115 = .ok (.if_icmp .eq 6, 3) := by decide +kernel
theorem dc_73_118 : decode (ax_code 73) 118 = .ok (.iinc 2 1, 3) := by decide +kernel
theorem dc_73_121 : decode (ax_code 73) 121 = .ok (.aload_n 0, 1) := by decide +kernel
theorem dc_73_122 : decode (ax_code 73) 122 = .ok (.getfield 10, 3) := by decide +kernel
theorem dc_73_125 : decode (ax_code 73) 125 = .ok (.getfield 234, 3) := by decide +kernel
theorem dc_73_128 : decode (ax_code 73) 128 = .ok (.iload_n 1, 1) := by decide +kernel
theorem dc_73_129 : decode (ax_code 73) 129 = .ok (.aload_n 0, 1) := by decide +kernel
theorem dc_73_130 : decode (ax_code 73) 130 = .ok (.getfield 26, 3) := by decide +kernel
theorem dc_73_133 : decode (ax_code 73) 133 = .ok (.getfield 212, 3) := by decide +kernel
theorem dc_73_136 : decode (ax_code 73) 136 = .ok (.iload_n 3, 1) := by decide +kernel
theorem dc_73_137 : decode (ax_code 73) 137 = .ok (.iaload, 1) := by decide +kernel
theorem dc_73_138 : decode (ax_code 73) 138 = .ok (.aload_n 0, 1) := by decide +kernel
theorem dc_73_139 : decode (ax_code 73) 139 = .ok (.getfield 26, 3) := by decide +kernel
theorem dc_73_142 : decode (ax_code 73) 142 = .ok (.getfield 215, 3) := by decide +kernel
theorem dc_73_145 : decode (ax_code 73) 145 = .ok (.iload_n 3, 1) := by decide +kernel
theorem dc_73_146 : decode (ax_code 73) 146 = .ok (.iaload, 1) := by decide +kernel
theorem dc_73_147 : decode (ax_code 73) 147 = .ok (.iload 4, 2) := by decide +kernel
theorem dc_73_149 : decode (ax_code 73) 149 = .ok (.invokevirtual 238, 3) := by decide +kernel
theorem dc_73_152 : decode (ax_code 73) 152 = .ok (.pop, 1) := by decide +kernel
theorem dc_73_153 : decode (ax_code 73) 153 = .ok (.iinc 3 1, 3) := by decide +kernel
theorem dc_73_156 : decode (ax_code 73) 156 = .ok (.goto (-90), 3) := by decide +kernel
theorem dc_73_159 : decode (ax_code 73) 159 = .ok (.iload_n 2, 1) := by decide +kernel
theorem dc_73_160 : decode (ax_code 73) 160 = .ok (.ireturn, 1) := by decide +kernel
theorem dc_74_0 : decode (ax_code 74) 0 = .ok (.iconst 0, 1) := by decide +kernel
theorem dc_74_1 : decode (ax_code 74) 1 = .ok (.istore_n 2, 1) := by decide +kernel
theorem dc_74_2 : decode (ax_code 74) 2 = .ok (.iconst 0, 1) := by decide +kernel
theorem dc_74_3 : decode (ax_code 74) 3 = .ok (.istore_n 3, 1) := by decide +kernel
theorem dc_74_4 : decode (ax_code 74) 4 = .ok (.iload_n 3, 1) := by decide +kernel
theorem dc_74_5 : decode (ax_code 74) 5 = .ok (.aload_n 0, 1) := by decide +kernel
theorem dc_74_6 : decode (ax_code 74) 6 = .ok (.getfield 26, 3) := by decide +kernel
theorem dc_74_9 : decode (ax_code 74) 9 = .ok (.getfield 209, 3) := by decide +kernel
theorem dc_74_12 : decode (ax_code 74) 12 = .ok (.if_icmp .ge 44, 3) := by decide +kernel
theorem dc_74_15 : decode (ax_code 74) 15 = .ok (.aload_n 0, 1) := by decide +kernel
theorem dc_74_16 : decode (ax_code 74) 16 = .ok (.getfield 10, 3) := by decide +kernel
theorem dc_74_19 : decode (ax_code 74) 19 = .ok (.getfield 234, 3) := by decide +kernel
theorem dc_74_22 : decode (ax_code 74) 22 = .ok (.iload_n 1, 1) := by decide +kernel
theorem dc_74_23 : decode (ax_code 74) 23 = .ok (.aload_n 0, 1) := by decide +kernel
theorem dc_74_24 : decode (ax_code 74) 24 = .ok (.getfield 26, 3) := by decide +kernel
theorem dc_74_27 : decode (ax_code 74) 27 = .ok (.getfield 212, 3) := by decide +kernel
theorem dc_74_30 : decode (ax_code 74) 30 = .ok (.iload_n 3, 1) := by decide +kernel
theorem dc_74_31 : decode (ax_code 74) 31 = .ok (.iaload, 1) := by decide +kernel
theorem dc_74_32 : decode (ax_code 74) 32 = .ok (.aload_n 0, 1) := by decide +kernel
theorem dc_74_33 : decode (ax_code 74) 33 = .ok (.getfield 26, 3) := by decide +kernel
theorem dc_74_36 : decode (ax_code 74) 36 = .ok (.getfield 215, 3) := by decide +kernel
theorem dc_74_39 : decode (ax_code 74) 39 = .ok (.iload_n 3, 1) := by decide +kernel
theorem dc_74_40 : decode (ax_code 74) 40 = .ok (.iaload, 1) := by decide +kernel
theorem dc_74_41 : decode (ax_code 74) 41 = .ok (.invokevirtual 378, 3) := by decide +kernel
theorem dc_74_44 : decode (ax_code 74) 44 = .ok (.ifCond .ge 6, 3) := by decide +kernel
theorem dc_74_47 : decode (ax_code 74) 47 = .ok (.iinc 2 1, 3) := by decide +kernel
theorem dc_74_50 : decode (ax_code 74) 50 = .ok (.iinc 3 1, 3) := by decide +kernel
theorem dc_74_53 : decode (ax_code 74) 53 = .ok (.goto (-49), 3) := by decide +kernel
theorem dc_74_56 : decode (ax_code 74) 56 = .ok (.iload_n 2, 1) := by decide +kernel
theorem dc_74_57 : decode (ax_code 74) 57 = .ok (.ireturn, 1) := by decide +kernel
theorem dc_75_0 : decode (ax_code 75) 0 = .ok (.iload_n 1, 1) := by decide +kernel
theorem dc_75_1 : decode (ax_code 75) 1 = .ok (.ifCond .lt 18, 3) := by decide +kernel
theorem dc_75_4 : decode (ax_code 75) 4 = .ok (.iload_n 1, 1) := by decide +kernel
theorem dc_75_5 : decode (ax_code 75) 5 = .ok (.bipush 9, 2) := by decide +kernel
theorem dc_75_7 : decode (ax_code 75) 7 = .ok (.if_icmp .ge 12, 3) := by decide +kernel
theorem dc_75_10 : decode (ax_code 75) 10 = .ok (.aload_n 0, 1) := by decide +kernel
theorem dc_75_11 : decode (ax_code 75) 11 = .ok (.getfield 38, 3) := by decide +kernel
theorem dc_75_14 : decode (ax_code 75) 14 = .ok (.iload_n 1, 1) := by decide +kernel
theorem dc_75_15 : decode (ax_code 75) 15 = .ok (.iaload, 1) := by decide +kernel
theorem dc_75_16 : decode (ax_code 75) 16 = .ok (.goto 4, 3) := by decide +kernel
theorem dc_75_19 : decode (ax_code 75) 19 = .ok (.iconst 0, 1) := by decide +kernel
theorem dc_75_20 : decode (ax_code 75) 20 = .ok (.ireturn, 1) := by decide +kernel
theorem dc_76_0 : decode (ax_code 76) 0 = .ok (.iconst 0, 1) := by decide +kernel
theorem dc_76_1 : decode (ax_code 76) 1 = .ok (.istore_n 1, 1) := by decide +kernel
theorem dc_76_2 : decode (ax_code 76) 2 = .ok (.iload_n 1, 1) := by decide +kernel
theorem dc_76_3 : decode (ax_code 76) 3 = .ok (.iconst 3, 1) := by decide +kernel
theorem dc_76_4 : decode (ax_code 76) 4 = .ok (.if_icmp .ge 20, 3) := by decide +kernel
theorem dc_76_7 : decode (ax_code 76) 7 = .ok (.aload_n 0, 1) := by decide +kernel
theorem dc_76_8 : decode (ax_code 76) 8 = .ok (.iload_n 1, 1) := by decide +kernel
theorem dc_76_9 : decode (ax_code 76) 9 = .ok (.invokevirtual 307, 3) := by decide +kernel
theorem dc_76_12 : decode (ax_code 76) 12 = .ok (.ifCond .eq 6, 3) := by decide +kernel
theorem dc_76_15 : decode (ax_code 76) 15 = .ok (.bipush (-5), 2) := by decide +kernel
theorem dc_76_17 : decode (ax_code 76) 17 = .ok (.ireturn, 1) := by decide +kernel
theorem dc_76_18 : decode (ax_code 76) 18 = .ok (.iinc 1 1, 3) := by decide +kernel
theorem dc_76_21 : decode (ax_code 76) 21 = .ok (.goto (-19), 3) := by decide +kernel
theorem dc_76_24 : decode (ax_code 76) 24 = .ok (.iconst 0, 1) := by decide +kernel
theorem dc_76_25 : decode (ax_code 76) 25 = .ok (.istore_n 1, 1) := by decide +kernel
theorem dc_76_26 : decode (ax_code 76) 26 = .ok (.iload_n 1, 1) := by decide +kernel
theorem dc_76_27 : decode (ax_code 76) 27 = .ok (.iconst 3, 1) := by decide +kernel
theorem dc_76_28 : decode (ax_code 76) 28 = .ok (.if_icmp .ge 57, 3) := by decide +kernel
theorem dc_76_31 : decode (ax_code 76) 31 = .ok (.aload_n 0, 1) := by decide +kernel
theorem dc_76_32 : decode (ax_code 76) 32 = .ok (.getfield 26, 3) := by decide +kernel
theorem dc_76_35 : decode (ax_code 76) 35 = .ok (.aload_n 0, 1) := by decide +kernel
theorem dc_76_36 : decode (ax_code 76) 36 = .ok (.getfield 10, 3) := by decide +kernel
theorem dc_76_39 : decode (ax_code 76) 39 = .ok (.getfield 77, 3) := by decide +kernel
theorem dc_76_42 : decode (ax_code 76) 42 = .ok (.iload_n 1, 1) := by decide +kernel
theorem dc_76_43 : decode (ax_code 76) 43 = .ok (.invokevirtual 205, 3) := by decide +kernel
theorem dc_76_46 : decode (ax_code 76) 46 = .ok (.aload_n 0, 1) := by decide +kernel
theorem dc_76_47 : decode (ax_code 76) 47 = .ok (.getfield 33, 3) := by decide +kernel
theorem dc_76_50 : decode (ax_code 76) 50 = .ok (.aload_n 0, 1) := by decide +kernel
theorem dc_76_51 : decode (ax_code 76) 51 = .ok (.getfield 10, 3) := by decide +kernel
theorem dc_76_54 : decode (ax_code 76) 54 = .ok (.aload_n 0, 1) := by decide +kernel
theorem dc_76_55 : decode (ax_code 76) 55 = .ok (.getfield 26, 3) := by decide +kernel
theorem dc_76_58 : decode (ax_code 76) 58 = .ok (.iload_n 1, 1) := by decide +kernel
theorem dc_76_59 : decode (ax_code 76) 59 = .ok (.invokevirtual 310, 3) := by decide +kernel
theorem dc_76_62 : decode (ax_code 76) 62 = .ok (.aload_n 0, 1) := by decide +kernel
theorem dc_76_63 : decode (ax_code 76) 63 = .ok (.getfield 33, 3) := by decide +kernel
theorem dc_76_66 : decode (ax_code 76) 66 = .ok (.aload_n 0, 1) := by decide +kernel
theorem dc_76_67 : decode (ax_code 76) 67 = .ok (.getfield 10, 3) := by decide +kernel
theorem dc_76_70 : decode (ax_code 76) 70 = .ok (.iload_n 1, 1) := by decide +kernel
theorem dc_76_71 : decode (ax_code 76) 71 = .ok (.invokevirtual 299, 3) := by decide +kernel
theorem dc_76_74 : decode (ax_code 76) 74 = .ok (.if_icmp .eq 5, 3) := by decide +kernel
theorem dc_76_77 : decode (ax_code 76) 77 = .ok (.iconst 0, 1) := by decide +kernel
theorem dc_76_78 : decode (ax_code 76) 78 = .ok (.ireturn, 1) := by decide +kernel
theorem dc_76_79 : decode (ax_code 76) 79 = .ok (.iinc 1 1, 3) := by decide +kernel
theorem dc_76_82 : decode (ax_code 76) 82 = .ok (.goto (-56), 3) := by decide +kernel
theorem dc_76_85 : decode (ax_code 76) 85 = .ok (.iconst 1, 1) := by decide +kernel
theorem dc_76_86 : decode (ax_code 76) 86 = .ok (.ireturn, 1) := by decide +kernel
theorem dc_77_0 : decode (ax_code 77) 0 = .ok (.iload_n 1, 1) := by decide +kernel
theorem dc_77_1 : decode (ax_code 77) 1 = .ok (.tableswitch 88 0 4 #[35, 47, 59, 71, 80], 35) := by decide +kernel
theorem dc_77_36 : decode (ax_code 77) 36 = .ok (.aload_n 0, 1) := by decide +kernel
theorem dc_77_37 : decode (ax_code 77) 37 = .ok (.getfield 10, 3) := by decide +kernel
theorem dc_77_40 : decode (ax_code 77) 40 = .ok (.getfield 77, 3) := by decide +kernel
theorem dc_77_43 : decode (ax_code 77) 43 = .ok (.getfield 81, 3) := by decide +kernel
theorem dc_77_46 : decode (ax_code 77) 46 = .ok (.i2l, 1) := by decide +kernel
theorem dc_77_47 : decode (ax_code 77) 47 = .ok (.lreturn, 1) := by decide +kernel
theorem dc_77_48 : decode (ax_code 77) 48 = .ok (.aload_n 0, 1) := by decide +kernel
theorem dc_77_49 : decode (ax_code 77) 49 = .ok (.getfield 10, 3) := by decide +kernel
theorem dc_77_52 : decode (ax_code 77) 52 = .ok (.getfield 77, 3) := by decide +kernel
theorem dc_77_55 : decode (ax_code 77) 55 = .ok (.getfield 117, 3) := by decide +kernel
theorem dc_77_58 : decode (ax_code 77) 58 = .ok (.i2l, 1) := by decide +kernel
theorem dc_77_59 : decode (ax_code 77) 59 = .ok (.lreturn, 1) := by decide +kernel
theorem dc_77_60 : decode (ax_code 77) 60 = .ok (.aload_n 0, 1) := by decide +kernel
theorem dc_77_61 : decode (ax_code 77) 61 = .ok (.getfield 10, 3) := by decide +kernel
theorem dc_77_64 : decode (ax_code 77) 64 = .ok (.getfield 234, 3) := by decide +kernel
theorem dc_77_67 : decode (ax_code 77) 67 = .ok (.getfield 250, 3) := by decide +kernel
theorem dc_77_70 : decode (ax_code 77) 70 = .ok (.i2l, 1) := by decide +kernel
theorem dc_77_71 : decode (ax_code 77) 71 = .ok (.lreturn, 1) := by decide +kernel
theorem dc_77_72 : decode (ax_code 77) 72 = .ok (.aload_n 0, 1) := by decide +kernel
theorem dc_77_73 : decode (ax_code 77) 73 = .ok (.getfield 10, 3) := by decide +kernel
theorem dc_77_76 : decode (ax_code 77) 76 = .ok (.getfield 253, 3) := by decide +kernel
theorem dc_77_79 : decode (ax_code 77) 79 = .ok (.i2l, 1) := by decide +kernel
theorem dc_77_80 : decode (ax_code 77) 80 = .ok (.lreturn, 1) := by decide +kernel
theorem dc_77_81 : decode (ax_code 77) 81 = .ok (.aload_n 0, 1) := by decide +kernel
theorem dc_77_82 : decode (ax_code 77) 82 = .ok (.getfield 10, 3) := by decide +kernel
theorem dc_77_85 : decode (ax_code 77) 85 = .ok (.getfield 289, 3) := by decide +kernel
theorem dc_77_88 : decode (ax_code 77) 88 = .ok (.lreturn, 1) := by decide +kernel
theorem dc_77_89 : decode (ax_code 77) 89 = .ok (.ldc2_w 167, 3) := by decide +kernel
theorem dc_77_92 : decode (ax_code 77) 92 = .ok (.lreturn, 1) := by decide +kernel
theorem dc_78_0 : decode (ax_code 78) 0 = .ok (.sipush 1620, 3) := by decide +kernel
theorem dc_78_3 : decode (ax_code 78) 3 = .ok (.anewarray 31, 3) := by decide +kernel
theorem dc_78_6 : decode (ax_code 78) 6 = .ok (.astore_n 2, 1) := by decide +kernel
theorem dc_78_7 : decode (ax_code 78) 7 = .ok (.bipush 6, 2) := by decide +kernel
theorem dc_78_9 : decode (ax_code 78) 9 = .ok (.newarray .int, 2) := by decide +kernel
theorem dc_78_11 : decode (ax_code 78) 11 = .ok (.astore_n 3, 1) := by decide +kernel
theorem dc_78_12 : decode (ax_code 78) 12 = .ok (.aload_n 0, 1) := by decide +kernel
theorem dc_78_13 : decode (ax_code 78) 13 = .ok (.aload_n 2, 1) := by decide +kernel
theorem dc_78_14 : decode (ax_code 78) 14 = .ok (.aload_n 3, 1) := by decide +kernel
theorem dc_78_15 : decode (ax_code 78) 15 = .ok (.iconst 0, 1) := by decide +kernel
theorem dc_78_16 : decode (ax_code 78) 16 = .ok (.iconst 0, 1) := by decide +kernel
theorem dc_78_17 : decode (ax_code 78) 17 = .ok (.iload_n 1, 1) := by decide +kernel
theorem dc_78_18 : decode (ax_code 78) 18 = .ok (.iconst 0, 1) := by decide +kernel
theorem dc_78_19 : decode (ax_code 78) 19 = .ok (.invokevirtual 39, 3) := by decide +kernel
theorem dc_78_22 : decode (ax_code 78) 22 = .ok (.anewarray 31, 3) := by decide +kernel
theorem dc_78_25 : decode (ax_code 78) 25 = .ok (.astore 4, 2) := by decide +kernel
theorem dc_78_27 : decode (ax_code 78) 27 = .ok (.iconst 0, 1) := by decide +kernel
theorem dc_78_28 : decode (ax_code 78) 28 = .ok (.istore 5, 2) := by decide +kernel
theorem dc_78_30 : decode (ax_code 78) 30 = .ok (.iload 5, 2) := by decide +kernel
theorem dc_78_32 : decode (ax_code 78) 32 = .ok (.aload 4, 2) := by decide +kernel
theorem dc_78_34 : decode (ax_code 78) 34 = .ok (.arraylength, 1) := by decide +kernel
theorem dc_78_35 : decode (ax_code 78) 35 = .ok (.if_icmp .ge 18, 3) := by decide +kernel
theorem dc_78_38 : decode (ax_code 78) 38 = .ok (.aload 4, 2) := by decide +kernel
theorem dc_78_40 : decode (ax_code 78) 40 = .ok (.iload 5, 2) := by decide +kernel
theorem dc_78_42 : decode (ax_code 78) 42 = .ok (.aload_n 2, 1) := by decide +kernel
theorem dc_78_43 : decode (ax_code 78) 43 = .ok (.iload 5, 2) := by decide +kernel
theorem dc_78_45 : decode (ax_code 78) 45 = .ok (.aaload, 1) := by decide +kernel
theorem dc_78_46 : decode (ax_code 78) 46 = .ok (.aastore, 1) := by decide +kernel
theorem dc_78_47 : decode (ax_code 78) 47 = .ok (.iinc 5 1, 3) := by decide +kernel
theorem dc_78_50 : decode (ax_code 78) 50 = .ok (.goto (-20), 3) := by decide +kernel
theorem dc_78_53 : decode (ax_code 78) 53 = .ok (.aload 4, 2) := by decide +kernel
theorem dc_78_55 : decode (ax_code 78) 55 = .ok (.areturn, 1) := by decide +kernel
theorem dc_79_0 : decode (ax_code 79) 0 = .ok (.iload_n 3, 1) := by decide +kernel
theorem dc_79_1 : decode (ax_code 79) 1 = .ok (.iload 5, 2) := by decide +kernel
theorem dc_79_3 : decode (ax_code 79) 3 = .ok (.if_icmp .ne 19, 3) := by decide +kernel
theorem dc_79_6 : decode (ax_code 79) 6 = .ok (.aload_n 1, 1) := by decide +kernel
theorem dc_79_7 : decode (ax_code 79) 7 = .ok (.iload 6, 2) := by decide +kernel
theorem dc_79_9 : decode (ax_code 79) 9 = .ok (.aload_n 2, 1) := by decide +kernel
theorem dc_79_10 : decode (ax_code 79) 10 = .ok (.invokevirtual 43, 3) := by decide +kernel
theorem dc_79_13 : decode (ax_code 79) 13 = .ok (.checkcast 31, 3) := by decide +kernel
theorem dc_79_16 : decode (ax_code 79) 16 = .ok (.aastore, 1) := by decide +kernel
theorem dc_79_17 : decode (ax_code 79) 17 = .ok (.iload 6, 2) := by decide +kernel
theorem dc_79_19 : decode (ax_code 79) 19 = .ok (.iconst 1, 1) := by decide +kernel
theorem dc_79_20 : decode (ax_code 79) 20 = .ok (.iadd, 1) := by decide +kernel
theorem dc_79_21 : decode (ax_code 79) 21 = .ok (.ireturn, 1) := by decide +kernel
theorem dc_79_22 : decode (ax_code 79) 22 = .ok (.iload 6, 2) := by decide +kernel
theorem dc_79_24 : decode (ax_code 79) 24 = .ok (.istore 7, 2) := by decide +kernel
theorem dc_79_26 : decode (ax_code 79) 26 = .ok (.aload_n 0, 1) := by decide +kernel
theorem dc_79_27 : decode (ax_code 79) 27 = .ok (.getfield 17, 3) := by decide +kernel
theorem dc_79_30 : decode (ax_code 79) 30 = .ok (.iload_n 3, 1) := by decide +kernel
theorem dc_79_31 : decode (ax_code 79) 31 = .ok (.iaload, 1) := by decide +kernel
theorem dc_79_32 : decode (ax_code 79) 32 = .ok (.iconst 2, 1) := by decide +kernel
theorem dc_79_33 : decode (ax_code 79) 33 = .ok (.if_icmp .ge 10, 3) := by decide +kernel
theorem dc_79_36 : decode (ax_code 79) 36 = .ok (.aload_n 0, 1) := by decide +kernel
theorem dc_79_37 : decode (ax_code 79) 37 = .ok (.getfield 7, 3) := by decide +kernel
theorem dc_79_40 : decode (ax_code 79) 40 = .ok (.goto 33, 3) := by decide +kernel
theorem dc_79_43 : decode (ax_code 79) 43 = .ok (.aload_n 0, 1) := by decide +kernel
theorem dc_79_44 : decode (ax_code 79) 44 = .ok (.getfield 17, 3) := by decide +kernel
theorem dc_79_47 : decode (ax_code 79) 47 = .ok (.iload_n 3, 1) := by decide +kernel
theorem dc_79_48 : decode (ax_code 79) 48 = .ok (.iaload, 1) := by decide +kernel
theorem dc_79_49 : decode (ax_code 79) 49 = .ok (.iconst 4, 1) := by decide +kernel
theorem dc_79_50 : decode (ax_code 79) 50 = .ok (.if_icmp .eq 13, 3) := by decide +kernel
theorem dc_79_53 : decode (ax_code 79) 53 = .ok (.aload_n 0, 1) := by decide +kernel
theorem dc_79_54 : decode (ax_code 79) 54 = .ok (.getfield 17, 3) := by decide +kernel
theorem dc_79_57 : decode (ax_code 79) 57 = .ok (.iload_n 3, 1) := by decide +kernel
theorem dc_79_58 : decode (ax_code 79) 58 = .ok (.iaload, 1) := by decide +kernel
theorem dc_79_59 : decode (ax_code 79) 59 = .ok (.iconst 5, 1) := by decide +kernel
theorem dc_79_60 : decode (ax_code 79) 60 = .ok (.if_icmp .ne 7, 3) := by decide +kernel
theorem dc_79_63 : decode (ax_code 79) 63 = .ok (.iconst 1, 1) := by decide +kernel
theorem dc_79_64 : decode (ax_code 79) 64 = .ok (.goto 9, 3) := by decide +kernel
theorem dc_79_67 : decode (ax_code 79) 67 = .ok (.aload_n 0, 1) := by decide +kernel
theorem dc_79_68 : decode (ax_code 79) 68 = .ok (.getfield 23, 3) := by decide +kernel
theorem dc_79_71 : decode (ax_code 79) 71 = .ok (.iload_n 3, 1) := by decide +kernel
theorem dc_79_72 : decode (ax_code 79) 72 = .ok (.iaload, 1) := by decide +kernel
theorem dc_79_73 : decode (ax_code 79) 73 = .ok (.istore 8, 2) := by decide +kernel
theorem dc_79_75 : decode (ax_code 79) 75 = .ok (.iconst 0, 1) := by decide +kernel
theorem dc_79_76 : decode (ax_code 79) 76 = .ok (.istore 9, 2) := by decide +kernel
theorem dc_79_78 : decode (ax_code 79) 78 = .ok (.iload 9, 2) := by decide +kernel
theorem dc_79_80 : decode (ax_code 79) 80 = .ok (.iload 8, 2) := by decide +kernel
theorem dc_79_82 : decode (ax_code 79) 82 = .ok (.if_icmp .ge 74, 3) := by decide +kernel
theorem dc_79_85 : decode (ax_code 79) 85 = .ok (.aload_n 0, 1) := by decide +kernel
theorem dc_79_86 : decode (ax_code 79) 86 = .ok (.getfield 17, 3) := by decide +kernel
theorem dc_79_89 : decode (ax_code 79) 89 = .ok (.iload_n 3, 1) := by decide +kernel
theorem dc_79_90 : decode (ax_code 79) 90 = .ok (.iaload, 1) := by decide +kernel
theorem dc_79_91 : decode (ax_code 79) 91 = .ok (.iconst 2, 1) := by decide +kernel
theorem dc_79_92 : decode (ax_code 79) 92 = .ok (.if_icmp .ge 16, 3) := by decide +kernel
theorem dc_79_95 : decode (ax_code 79) 95 = .ok (.iload 4, 2) := by decide +kernel
theorem dc_79_97 : decode (ax_code 79) 97 = .ok (.iload 9, 2) := by decide +kernel
theorem dc_79_99 : decode (ax_code 79) 99 = .ok (.invokestatic 47, 3) := by decide +kernel
theorem dc_79_102 : decode (ax_code 79) 102 = .ok (.ifCond .eq 6, 3) := by decide +kernel
theorem dc_79_105 : decode (ax_code 79) 105 = .ok (.goto 45, 3) := by decide +kernel
theorem dc_79_108 : decode (ax_code 79) 108 = .ok (.aload_n 2, 1) := by decide +kernel
theorem dc_79_109 : decode (ax_code 79) 109 = .ok (.iload_n 3, 1) := by decide +kernel
theorem dc_79_110 : decode (ax_code 79) 110 = .ok (.iload 9, 2) := by decide +kernel
theorem dc_79_112 : decode (ax_code 79) 112 = .ok (.iastore, 1) := by decide +kernel
theorem dc_79_113 : decode (ax_code 79) 113 = .ok (.aload_n 0, 1) := by decide +kernel
theorem dc_79_114 : decode (ax_code 79) 114 = .ok (.aload_n 1, 1) := by decide +kernel
theorem dc_79_115 : decode (ax_code 79) 115 = .ok (.aload_n 2, 1) := by decide +kernel
theorem dc_79_116 : decode (ax_code 79) 116 = .ok (.iload_n 3, 1) := by decide +kernel
theorem dc_79_117 : decode (ax_code 79) 117 = .ok (.iconst 1, 1) := by decide +kernel
theorem dc_79_118 : decode (ax_code 79) 118 = .ok (.iadd, 1) := by decide +kernel
theorem dc_79_119 : decode (ax_code 79) 119 = .ok (.aload_n 0, 1) := by decide +kernel
theorem dc_79_120 : decode (ax_code 79) 120 = .ok (.getfield 17, 3) := by decide +kernel
theorem dc_79_123 : decode (ax_code 79) 123 = .ok (.iload_n 3, 1) := by decide +kernel
theorem dc_79_124 : decode (ax_code 79) 124 = .ok (.iaload, 1) := by decide +kernel
theorem dc_79_125 : decode (ax_code 79) 125 = .ok (.iconst 2, 1) := by decide +kernel
theorem dc_79_126 : decode (ax_code 79) 126 = .ok (.if_icmp .ge 13, 3) := by decide +kernel
theorem dc_79_129 : decode (ax_code 79) 129 = .ok (.iload 4, 2) := by decide +kernel
theorem dc_79_131 : decode (ax_code 79) 131 = .ok (.iconst 1, 1) := by decide +kernel
theorem dc_79_132 : decode (ax_code 79) 132 = .ok (.iload 9, 2) := by decide +kernel
theorem dc_79_134 : decode (ax_code 79) 134 = .ok (.ishl, 1) := by decide +kernel
theorem dc_79_135 : decode (ax_code 79) 135 = .ok (.ior, 1) := by decide +kernel
theorem dc_79_136 : decode (ax_code 79) 136 = .ok (.goto 5, 3) := by decide +kernel
theorem dc_79_139 : decode (ax_code 79) 139 = .ok (.iload 4, 2) := by decide +kernel
theorem dc_79_141 : decode (ax_code 79) 141 = .ok (.iload 5, 2) := by decide +kernel
theorem dc_79_143 : decode (ax_code 79) 143 = .ok (.iload 7, 2) := by decide +kernel
theorem dc_79_145 : decode (ax_code 79) 145 = .ok (.invokevirtual 39, 3) := by decide +kernel
theorem dc_79_148 : decode (ax_code 79) 148 = .ok (.istore 7, 2) := by decide +kernel
theorem dc_79_150 : decode (ax_code 79) 150 = .ok (.iinc 9 1, 3) := by decide +kernel
theorem dc_79_153 : decode (ax_code 79) 153 = .ok (.goto (-75), 3) := by decide +kernel
theorem dc_79_156 : decode (ax_code 79) 156 = .ok (.iload 7, 2) := by decide +kernel
theorem dc_79_158 : decode (ax_code 79) 158 = .ok (.ireturn, 1) := by decide +kernel
theorem dc_80_0 : decode (ax_code 80) 0 = .ok (.iload_n 0, 1) := by decide +kernel
theorem dc_80_1 : decode (ax_code 80) 1 = .ok (.iload_n 1, 1) := by decide +kernel
theorem dc_80_2 : decode (ax_code 80) 2 = .ok (.ishr, 1) := by decide +kernel
theorem dc_80_3 : decode (ax_code 80) 3 = .ok (.iconst 1, 1) := by decide +kernel
theorem dc_80_4 : decode (ax_code 80) 4 = .ok (.iand, 1) := by decide +kernel
theorem dc_80_5 : decode (ax_code 80) 5 = .ok (.iconst 1, 1) := by decide +kernel
theorem dc_80_6 : decode (ax_code 80) 6 = .ok (.if_icmp .ne 7, 3) := by decide +kernel
theorem dc_80_9 : decode (ax_code 80) 9 = .ok (.iconst 1, 1) := by decide +kernel
theorem dc_80_10 : decode (ax_code 80) 10 = .ok (.goto 4, 3) := by decide +kernel
theorem dc_80_13 : decode (ax_code 80) 13 = .ok (.iconst 0, 1) := by decide +kernel
theorem dc_80_14 : decode (ax_code 80) 14 = .ok (.ireturn, 1) := by decide +kernel
theorem dc_81_0 : decode (ax_code 81) 0 = .ok (.aload_n 0, 1) := by decide +kernel
theorem dc_81_1 : decode (ax_code 81) 1 = .ok (.iload_n 3, 1) := by decide +kernel
theorem dc_81_2 : decode (ax_code 81) 2 = .ok (.invokevirtual 56, 3) := by decide +kernel
theorem dc_81_5 : decode (ax_code 81) 5 = .ok (.astore 4, 2) := by decide +kernel
theorem dc_81_7 : decode (ax_code 81) 7 = .ok (.iconst 1, 1) := by decide +kernel
theorem dc_81_8 : decode (ax_code 81) 8 = .ok (.istore 5, 2) := by decide +kernel
theorem dc_81_10 : decode (ax_code 81) 10 = .ok (.iconst 0, 1) := by decide +kernel
theorem dc_81_11 : decode (ax_code 81) 11 = .ok (.istore 6, 2) := by decide +kernel
theorem dc_81_13 : decode (ax_code 81) 13 = .ok (.iload 6, 2) := by decide +kernel
theorem dc_81_15 : decode (ax_code 81) 15 = .ok (.iload_n 3, 1) := by decide +kernel
theorem dc_81_16 : decode (ax_code 81) 16 = .ok (.if_icmp .ge 39, 3) := by decide +kernel
theorem dc_81_19 : decode (ax_code 81) 19 = .ok (.iload 5, 2) := by decide +kernel
theorem dc_81_21 : decode (ax_code 81) 21 = .ok (.bipush 8, 2) := by decide +kernel
theorem dc_81_23 : decode (ax_code 81) 23 = .ok (.imul, 1) := by decide +kernel
theorem dc_81_24 : decode (ax_code 81) 24 = .ok (.aload 4, 2) := by decide +kernel
theorem dc_81_26 : decode (ax_code 81) 26 = .ok (.iload 6, 2) := by decide +kernel
theorem dc_81_28 : decode (ax_code 81) 28 = .ok (.iaload, 1) := by decide +kernel
theorem dc_81_29 : decode (ax_code 81) 29 = .ok (.iload_n 1, 1) := by decide +kernel
theorem dc_81_30 : decode (ax_code 81) 30 = .ok (.invokestatic 47, 3) := by decide +kernel
theorem dc_81_33 : decode (ax_code 81) 33 = .ok (.ifCond .eq 12, 3) := by decide +kernel
theorem dc_81_36 : decode (ax_code 81) 36 = .ok (.aload_n 2, 1) := by decide +kernel
theorem dc_81_37 : decode (ax_code 81) 37 = .ok (.iload 6, 2) := by decide +kernel
theorem dc_81_39 : decode (ax_code 81) 39 = .ok (.iaload, 1) := by decide +kernel
theorem dc_81_40 : decode (ax_code 81) 40 = .ok (.iconst 1, 1) := by decide +kernel
theorem dc_81_41 : decode (ax_code 81) 41 = .ok (.iadd, 1) := by decide +kernel
theorem dc_81_42 : decode (ax_code 81) 42 = .ok (.goto 4, 3) := by decide +kernel
theorem dc_81_45 : decode (ax_code 81) 45 = .ok (.iconst 0, 1) := by decide +kernel
theorem dc_81_46 : decode (ax_code 81) 46 = .ok (.iadd, 1) := by decide +kernel
theorem dc_81_47 : decode (ax_code 81) 47 = .ok (.istore 5, 2) := by decide +kernel
theorem dc_81_49 : decode (ax_code 81) 49 = .ok (.iinc 6 1, 3) := by decide +kernel
theorem dc_81_52 : decode (ax_code 81) 52 = .ok (.goto (-39), 3) := by decide +kernel
theorem dc_81_55 : decode (ax_code 81) 55 = .ok (.iload 5, 2) := by decide +kernel
theorem dc_81_57 : decode (ax_code 81) 57 = .ok (.ireturn, 1) := by decide +kernel
theorem dc_82_0 : decode (ax_code 82) 0 = .ok (.bipush 6, 2) := by decide +kernel
theorem dc_82_2 : decode (ax_code 82) 2 = .ok (.newarray .int, 2) := by decide +kernel
theorem dc_82_4 : decode (ax_code 82) 4 = .ok (.astore_n 2, 1) := by decide +kernel
theorem dc_82_5 : decode (ax_code 82) 5 = .ok (.iconst 0, 1) := by decide +kernel
theorem dc_82_6 : decode (ax_code 82) 6 = .ok (.istore_n 3, 1) := by decide +kernel
theorem dc_82_7 : decode (ax_code 82) 7 = .ok (.iload_n 3, 1) := by decide +kernel
theorem dc_82_8 : decode (ax_code 82) 8 = .ok (.iload_n 1, 1) := by decide +kernel
theorem dc_82_9 : decode (ax_code 82) 9 = .ok (.if_icmp .ge 129, 3) := by decide +kernel
theorem dc_82_12 : decode (ax_code 82) 12 = .ok (.iconst 0, 1) := by decide +kernel
theorem dc_82_13 : decode (ax_code 82) 13 = .ok (.istore 4, 2) := by decide +kernel
theorem dc_82_15 : decode (ax_code 82) 15 = .ok (.iload 4, 2) := by decide +kernel
theorem dc_82_17 : decode (ax_code 82) 17 = .ok (.iload_n 3, 1) := by decide +kernel
theorem dc_82_18 : decode (ax_code 82) 18 = .ok (.if_icmp .ge 68, 3) := by decide +kernel
theorem dc_82_21 : decode (ax_code 82) 21 = .ok (.aload_n 0, 1) := by decide +kernel
theorem dc_82_22 : decode (ax_code 82) 22 = .ok (.getfield 17, 3) := by decide +kernel
theorem dc_82_25 : decode (ax_code 82) 25 = .ok (.iload_n 3, 1) := by decide +kernel
theorem dc_82_26 : decode (ax_code 82) 26 = .ok (.iaload, 1) := by decide +kernel
theorem dc_82_27 : decode (ax_code 82) 27 = .ok (.iconst 4, 1) := by decide +kernel
theorem dc_82_28 : decode (ax_code 82) 28 = .ok (.if_icmp .ne 25, 3) := by decide +kernel
theorem dc_82_31 : decode (ax_code 82) 31 = .ok (.aload_n 2, 1) := by decide +kernel
theorem dc_82_32 : decode (ax_code 82) 32 = .ok (.iload 4, 2) := by decide +kernel
theorem dc_82_34 : decode (ax_code 82) 34 = .ok (.iaload, 1) := by decide +kernel
theorem dc_82_35 : decode (ax_code 82) 35 = .ok (.aload_n 0, 1) := by decide +kernel
theorem dc_82_36 : decode (ax_code 82) 36 = .ok (.getfield 20, 3) := by decide +kernel
theorem dc_82_39 : decode (ax_code 82) 39 = .ok (.iload_n 3, 1) := by decide +kernel
theorem dc_82_40 : decode (ax_code 82) 40 = .ok (.iaload, 1) := by decide +kernel
theorem dc_82_41 : decode (ax_code 82) 41 = .ok (.invokestatic 47, 3) := by decide +kernel
theorem dc_82_44 : decode (ax_code 82) 44 = .ok (.ifCond .eq 9, 3) := by decide +kernel
theorem dc_82_47 : decode (ax_code 82) 47 = .ok (.aload_n 2, 1) := by decide +kernel
theorem dc_82_48 : decode (ax_code 82) 48 = .ok (.iload 4, 2) := by decide +kernel
theorem dc_82_50 : decode (ax_code 82) 50 = .ok (.bipush 7, 2) := by decide +kernel
theorem dc_82_52 : decode (ax_code 82) 52 = .ok (.iastore, 1) := by decide +kernel
theorem dc_82_53 : decode (ax_code 82) 53 = .ok (.aload_n 0, 1) := by decide +kernel
theorem dc_82_54 : decode (ax_code 82) 54 = .ok (.getfield 17, 3) := by decide +kernel
theorem dc_82_57 : decode (ax_code 82) 57 = .ok (.iload_n 3, 1) := by decide +kernel
theorem dc_82_58 : decode (ax_code 82) 58 = .ok (.iaload, 1) := by decide +kernel
theorem dc_82_59 : decode (ax_code 82) 59 = .ok (.iconst 5, 1) := by decide +kernel
theorem dc_82_60 : decode (ax_code 82) 60 = .ok (.if_icmp .ne 20, 3) := by decide +kernel
theorem dc_82_63 : decode (ax_code 82) 63 = .ok (.aload_n 2, 1) := by decide +kernel
theorem dc_82_64 : decode (ax_code 82) 64 = .ok (.iload 4, 2) := by decide +kernel
theorem dc_82_66 : decode (ax_code 82) 66 = .ok (.dup2, 1) := by decide +kernel
theorem dc_82_67 : decode (ax_code 82) 67 = .ok (.iaload, 1) := by decide +kernel
theorem dc_82_68 : decode (ax_code 82) 68 = .ok (.iconst 1, 1) := by decide +kernel
theorem dc_82_69 : decode (ax_code 82) 69 = .ok (.aload_n 0, 1) := by decide +kernel
theorem dc_82_70 : decode (ax_code 82) 70 = .ok (.getfield 20, 3) := by decide +kernel
theorem dc_82_73 : decode (ax_code 82) 73 = .ok (.iload_n 3, 1) := by decide +kernel
theorem dc_82_74 : decode (ax_code 82) 74 = .ok (.iaload, 1) := by decide +kernel
theorem dc_82_75 : decode (ax_code 82) 75 = .ok (.ishl, 1) := by decide +kernel
theorem dc_82_76 : decode (ax_code 82) 76 = .ok (.iconst (-1), 1) := by decide +kernel
theorem dc_82_77 : decode (ax_code 82) 77 = .ok (.ixor, 1) := by decide +kernel
theorem dc_82_78 : decode (ax_code 82) 78 = .ok (.iand, 1) := by decide +kernel
theorem dc_82_79 : decode (ax_code 82) 79 = .ok (.iastore, 1) := by decide +kernel
theorem dc_82_80 : decode (ax_code 82) 80 = .ok (.iinc 4 1, 3) := by decide +kernel
theorem dc_82_83 : decode (ax_code 82) 83 = .ok (.goto (-68), 3) := by decide +kernel
theorem dc_82_86 : decode (ax_code 82) 86 = .ok (.aload_n 2, 1) := by decide +kernel
theorem dc_82_87 : decode (ax_code 82) 87 = .ok (.iload_n 3, 1) := by decide +kernel
theorem dc_82_88 : decode (ax_code 82) 88 = .ok (.aload_n 0, 1) := by decide +kernel
theorem dc_82_89 : decode (ax_code 82) 89 = .ok (.getfield 17, 3) := by decide +kernel
theorem dc_82_92 : decode (ax_code 82) 92 = .ok (.iload_n 3, 1) := by decide +kernel
theorem dc_82_93 : decode (ax_code 82) 93 = .ok (.iaload, 1) := by decide +kernel
theorem dc_82_94 : decode (ax_code 82) 94 = .ok (.ifCond .eq 24, 3) := by decide +kernel
theorem dc_82_97 : decode (ax_code 82) 97 = .ok (.aload_n 0, 1) := by decide +kernel
theorem dc_82_98 : decode (ax_code 82) 98 = .ok (.getfield 17, 3) := by decide +kernel
theorem dc_82_101 : decode (ax_code 82) 101 = .ok (.iload_n 3, 1) := by decide +kernel
theorem dc_82_102 : decode (ax_code 82) 102 = .ok (.iaload, 1) := by decide +kernel
theorem dc_82_103 : decode (ax_code 82) 103 = .ok (.iconst 3, 1) := by decide +kernel
theorem dc_82_104 : decode (ax_code 82) 104 = .ok (.if_icmp .eq 14, 3) := by decide +kernel
theorem dc_82_107 : decode (ax_code 82) 107 = .ok (.aload_n 0, 1) := by decide +kernel
theorem dc_82_108 : decode (ax_code 82) 108 = .ok (.getfield 17, 3) := by decide +kernel
theorem dc_82_111 : decode (ax_code 82) 111 = .ok (.iload_n 3, 1) := by decide +kernel
theorem dc_82_112 : decode (ax_code 82) 112 = .ok (.iaload, 1) := by decide +kernel
theorem dc_82_113 : decode (ax_code 82) 113 = .ok (.bipush 7, 2) := by decide +kernel
theorem dc_82_115 : decode (ax_code 82) 115 = .ok (.if_icmp .ne 14, 3) := by decide +kernel
theorem dc_82_118 : decode (ax_code 82) 118 = .ok (.iconst 1, 1) := by decide +kernel
theorem dc_82_119 : decode (ax_code 82) 119 = .ok (.aload_n 0, 1) := by decide +kernel
theorem dc_82_120 : decode (ax_code 82) 120 = .ok (.getfield 20, 3) := by decide +kernel
theorem dc_82_123 : decode (ax_code 82) 123 = .ok (.iload_n 3, 1) := by decide +kernel
theorem dc_82_124 : decode (ax_code 82) 124 = .ok (.iaload, 1) := by decide +kernel
theorem dc_82_125 : decode (ax_code 82) 125 = .ok (.ishl, 1) := by decide +kernel
theorem dc_82_126 : decode (ax_code 82) 126 = .ok (.goto 5, 3) := by decide +kernel
theorem dc_82_129 : decode (ax_code 82) 129 = .ok (.bipush 7, 2) := by decide +kernel
theorem dc_82_131 : decode (ax_code 82) 131 = .ok (.iastore, 1) := by decide +kernel
theorem dc_82_132 : decode (ax_code 82) 132 = .ok (.iinc 3 1, 3) := by decide +kernel
theorem dc_82_135 : decode (ax_code 82) 135 = .ok (.goto (-128), 3) := by decide +kernel
theorem dc_82_138 : decode (ax_code 82) 138 = .ok (.aload_n 2, 1) := by decide +kernel
theorem dc_82_139 : decode (ax_code 82) 139 = .ok (.areturn, 1) := by decide +kernel
theorem dc_83_0 : decode (ax_code 83) 0 = .ok (.iload_n 1, 1) := by decide +kernel
theorem dc_83_1 : decode (ax_code 83) 1 = .ok (.aload_n 0, 1) := by decide +kernel
theorem dc_83_2 : decode (ax_code 83) 2 = .ok (.arraylength, 1) := by decide +kernel
theorem dc_83_3 : decode (ax_code 83) 3 = .ok (.if_icmp .ge 12, 3) := by decide +kernel
theorem dc_83_6 : decode (ax_code 83) 6 = .ok (.aload_n 0, 1) := by decide +kernel
theorem dc_83_7 : decode (ax_code 83) 7 = .ok (.iload_n 1, 1) := by decide +kernel
theorem dc_83_8 : decode (ax_code 83) 8 = .ok (.iaload, 1) := by decide +kernel
theorem dc_83_9 : decode (ax_code 83) 9 = .ok (.ldc 7, 2) := by decide +kernel
theorem dc_83_11 : decode (ax_code 83) 11 = .ok (.iand, 1) := by decide +kernel
theorem dc_83_12 : decode (ax_code 83) 12 = .ok (.goto 13, 3) := by decide +kernel
theorem dc_83_15 : decode (ax_code 83) 15 = .ok (.bipush 73, 2) := by decide +kernel
theorem dc_83_17 : decode (ax_code 83) 17 = .ok (.bipush 103, 2) := by decide +kernel
theorem dc_83_19 : decode (ax_code 83) 19 = .ok (.iload_n 1, 1) := by decide +kernel
theorem dc_83_20 : decode (ax_code 83) 20 = .ok (.aload_n 0, 1) := by decide +kernel
theorem dc_83_21 : decode (ax_code 83) 21 = .ok (.arraylength, 1) := by decide +kernel
theorem dc_83_22 : decode (ax_code 83) 22 = .ok (.isub, 1) := by decide +kernel
theorem dc_83_23 : decode (ax_code 83) 23 = .ok (.imul, 1) := by decide +kernel
theorem dc_83_24 : decode (ax_code 83) 24 = .ok (.iadd, 1) := by decide +kernel
theorem dc_83_25 : decode (ax_code 83) 25 = .ok (.ireturn, 1) := by decide +kernel
theorem dc_84_8 : decode (ax_code 84) 8 = .ok (.aload_n 3, 1) := by decide +kernel
theorem dc_84_9 : decode (ax_code 84) 9 = .ok (.iconst 1, 1) := by decide +kernel
theorem dc_84_10 : decode (ax_code 84) 10 = .ok (.aload_n 1, 1) := by decide +kernel
theorem dc_84_11 : decode (ax_code 84) 11 = .ok (.iconst 0, 1) := by decide +kernel
theorem dc_84_12 : decode (ax_code 84) 12 = .ok (.invokestatic 23, 3) := by decide +kernel
theorem dc_84_15 : decode (ax_code 84) 15 = .ok (.iconst 5, 1) := by decide +kernel
theorem dc_84_16 : decode (ax_code 84) 16 = .ok (.irem, 1) := by decide +kernel
theorem dc_84_17 : decode (ax_code 84) 17 = .ok (.iadd, 1) := by decide +kernel
theorem dc_84_18 : decode (ax_code 84) 18 = .ok (.putfield 27, 3) := by decide +kernel
theorem dc_84_21 : decode (ax_code 84) 21 = .ok (.aload_n 0, 1) := by decide +kernel
theorem dc_84_22 : decode (ax_code 84) 22 = .ok (.aload_n 3, 1) := by decide +kernel
theorem dc_84_23 : decode (ax_code 84) 23 = .ok (.getfield 27, 3) := by decide +kernel
theorem dc_84_26 : decode (ax_code 84) 26 = .ok (.invokevirtual 31, 3) := by decide +kernel
theorem dc_84_29 : decode (ax_code 84) 29 = .ok (.iconst 3, 1) := by decide +kernel
theorem dc_84_30 : decode (ax_code 84) 30 = .ok (.if_icmp .eq 5, 3) := by decide +kernel
theorem dc_84_33 : decode (ax_code 84) 33 = .ok (.aconst_null, 1) := by decide +kernel
theorem dc_84_34 : decode (ax_code 84) 34 = .ok (.areturn, 1) := by decide +kernel
theorem dc_84_35 : decode (ax_code 84) 35 = .ok (.iconst 0, 1) := by decide +kernel
theorem dc_84_36 : decode (ax_code 84) 36 = .ok (.istore 4, 2) := by decide +kernel
theorem dc_84_38 : decode (ax_code 84) 38 = .ok (.iload 4, 2) := by decide +kernel
theorem dc_84_40 : decode (ax_code 84) 40 = .ok (.aload_n 3, 1) := by decide +kernel
theorem dc_84_41 : decode (ax_code 84) 41 = .ok (.getfield 27, 3) := by decide +kernel
theorem dc_84_44 : decode (ax_code 84) 44 = .ok (.if_icmp .ge 50, 3) := by decide +kernel
theorem dc_84_47 : decode (ax_code 84) 47 = .ok (.aload_n 3, 1) := by decide +kernel
theorem dc_84_48 : decode (ax_code 84) 48 = .ok (.getfield 37, 3) := by decide +kernel
theorem dc_84_51 : decode (ax_code 84) 51 = .ok (.iload 4, 2) := by decide +kernel
theorem dc_84_53 : decode (ax_code 84) 53 = .ok (.aload_n 1, 1) := by decide +kernel
theorem dc_84_54 : decode (ax_code 84) 54 = .ok (.iconst 1, 1) := by decide +kernel
theorem dc_84_55 : decode (ax_code 84) 55 = .ok (.invokestatic 23, 3) := by decide +kernel
theorem dc_84_58 : decode (ax_code 84) 58 = .ok (.iconst 5, 1) := by decide +kernel
theorem dc_84_59 : decode (ax_code 84) 59 = .ok (.iload 4, 2) := by decide +kernel
theorem dc_84_61 : decode (ax_code 84) 61 = .ok (.imul, 1) := by decide +kernel
theorem dc_84_62 : decode (ax_code 84) 62 = .ok (.iushr, 1) := by decide +kernel
theorem dc_84_63 : decode (ax_code 84) 63 = .ok (.bipush 19, 2) := by decide +kernel
theorem dc_84_65 : decode (ax_code 84) 65 = .ok (.irem, 1) := by decide +kernel
theorem dc_84_66 : decode (ax_code 84) 66 = .ok (.bipush 9, 2) := by decide +kernel
theorem dc_84_68 : decode (ax_code 84) 68 = .ok (.isub, 1) := by decide +kernel
theorem dc_84_69 : decode (ax_code 84) 69 = .ok (.iastore, 1) := by decide +kernel
theorem dc_84_70 : decode (ax_code 84) 70 = .ok (.aload_n 0, 1) := by decide +kernel
theorem dc_84_71 : decode (ax_code 84) 71 = .ok (.iload 4, 2) := by decide +kernel
theorem dc_84_73 : decode (ax_code 84) 73 = .ok (.aload_n 3, 1) := by decide +kernel
theorem dc_84_74 : decode (ax_code 84) 74 = .ok (.getfield 37, 3) := by decide +kernel
theorem dc_84_77 : decode (ax_code 84) 77 = .ok (.iload 4, 2) := by decide +kernel
theorem dc_84_79 : decode (ax_code 84) 79 = .ok (.iaload, 1) := by decide +kernel
theorem dc_84_80 : decode (ax_code 84) 80 = .ok (.invokevirtual 41, 3) := by decide +kernel
theorem dc_84_83 : decode (ax_code 84) 83 = .ok (.ifCond .eq 5, 3) := by decide +kernel
theorem dc_84_86 : decode (ax_code 84) 86 = .ok (.aconst_null, 1) := by decide +kernel
theorem dc_84_87 : decode (ax_code 84) 87 = .ok (.areturn, 1) := by decide +kernel
theorem dc_84_88 : decode (ax_code 84) 88 = .ok (.iinc 4 1, 3) := by decide +kernel
theorem dc_84_91 : decode (ax_code 84) 91 = .ok (.goto (-53), 3) := by decide +kernel
theorem dc_84_94 : decode (ax_code 84) 94 = .ok (.iconst 1, 1) := by decide +kernel
theorem dc_84_95 : decode (ax_code 84) 95 = .ok (.aload_n 1, 1) := by decide +kernel
theorem dc_84_96 : decode (ax_code 84) 96 = .ok (.iconst 0, 1) := by decide +kernel
theorem dc_84_97 : decode (ax_code 84) 97 = .ok (.invokestatic 23, 3) := by decide +kernel
theorem dc_84_100 : decode (ax_code 84) 100 = .ok (.iconst 4, 1) := by decide +kernel
theorem dc_84_101 : decode (ax_code 84) 101 = .ok (.iushr, 1) := by decide +kernel
theorem dc_84_102 : decode (ax_code 84) 102 = .ok (.iload_n 2, 1) := by decide +kernel
theorem dc_84_103 : decode (ax_code 84) 103 = .ok (.irem, 1) := by decide +kernel
theorem dc_84_104 : decode (ax_code 84) 104 = .ok (.iadd, 1) := by decide +kernel
theorem dc_84_105 : decode (ax_code 84) 105 = .ok (.istore 4, 2) := by decide +kernel
theorem dc_84_107 : decode (ax_code 84) 107 = .ok (.iconst 0, 1) := by decide +kernel
theorem dc_84_108 : decode (ax_code 84) 108 = .ok (.istore 5, 2) := by decide +kernel
theorem dc_84_110 : decode (ax_code 84) 110 = .ok (.iload 5, 2) := by decide +kernel
theorem dc_84_112 : decode (ax_code 84) 112 = .ok (.iload 4, 2) := by decide +kernel
theorem dc_84_114 : decode (ax_code 84) 114 = .ok (.if_icmp .ge 184, 3) := by decide +kernel
theorem dc_84_117 : decode (ax_code 84) 117 = .ok (.aload_n 1, 1) := by decide +kernel
theorem dc_84_118 : decode (ax_code 84) 118 = .ok (.iconst 2, 1) := by decide +kernel
theorem dc_84_119 : decode (ax_code 84) 119 = .ok (.iload 5, 2) := by decide +kernel
theorem dc_84_121 : decode (ax_code 84) 121 = .ok (.iadd, 1) := by decide +kernel
theorem dc_84_122 : decode (ax_code 84) 122 = .ok (.invokestatic 23, 3) := by decide +kernel
theorem dc_84_125 : decode (ax_code 84) 125 = .ok (.istore 6, 2) := by decide +kernel
theorem dc_84_127 : decode (ax_code 84) 127 = .ok (.iload 6, 2) := by decide +kernel
theorem dc_84_129 : decode (ax_code 84) 129 = .ok (.bipush 8, 2) := by decide +kernel
theorem dc_84_131 : decode (ax_code 84) 131 = .ok (.irem, 1) := by decide +kernel
theorem dc_84_132 : decode (ax_code 84) 132 = .ok (.istore 7, 2) := by decide +kernel
theorem dc_84_134 : decode (ax_code 84) 134 = .ok (.iload 7, 2) := by decide +kernel
theorem dc_84_136 : decode (ax_code 84) 136 = .ok (.iconst 1, 1) := by decide +kernel
theorem dc_84_137 : decode (ax_code 84) 137 = .ok (.if_icmp .eq 10, 3) := by decide +kernel
theorem dc_84_140 : decode (ax_code 84) 140 = .ok (.iload 7, 2) := by decide +kernel
theorem dc_84_142 : decode (ax_code 84) 142 = .ok (.bipush 6, 2) := by decide +kernel
theorem dc_84_144 : decode (ax_code 84) 144 = .ok (.if_icmp .ne 7, 3) := by decide +kernel
theorem dc_84_147 : decode (ax_code 84) 147 = .ok (.iconst 0, 1) := by decide +kernel
theorem dc_84_148 : decode (ax_code 84) 148 = .ok (.goto 9, 3) := by decide +kernel
theorem dc_84_151 : decode (ax_code 84) 151 = .ok (.iload 6, 2) := by decide +kernel
theorem dc_84_153 : decode (ax_code 84) 153 = .ok (.iconst 3, 1) := by decide +kernel
theorem dc_84_154 : decode (ax_code 84) 154 = .ok (.iushr, 1) := by decide +kernel
theorem dc_84_155 : decode (ax_code 84) 155 = .ok (.iconst 3, 1) := by decide +kernel
theorem dc_84_156 : decode (ax_code 84) 156 = .ok (.irem, 1) := by decide +kernel
theorem dc_84_157 : decode (ax_code 84) 157 = .ok (.istore 8, 2) := by decide +kernel
theorem dc_84_159 : decode (ax_code 84) 159 = .ok (.iload 7, 2) := by decide +kernel
theorem dc_84_161 : decode (ax_code 84) 161 = .ok (.iconst 2, 1) := by decide +kernel
theorem dc_84_162 : decode (ax_code 84) 162 = .ok (.if_icmp .eq 15, 3) := by decide +kernel
theorem dc_84_165 : decode (ax_code 84) 165 = .ok (.iload 7, 2) := by decide +kernel
theorem dc_84_167 : decode (ax_code 84) 167 = .ok (.iconst 3, 1) := by decide +kernel
theorem dc_84_168 : decode (ax_code 84) 168 = .ok (.if_icmp .eq 9, 3) := by decide +kernel
theorem dc_84_171 : decode (ax_code 84) 171 = .ok (.iload 7, 2) := by decide +kernel
theorem dc_84_173 : decode (ax_code 84) 173 = .ok (.iconst 5, 1) := by decide +kernel
theorem dc_84_174 : decode (ax_code 84) 174 = .ok (.if_icmp .le 15, 3) := by decide +kernel
theorem dc_84_177 : decode (ax_code 84) 177 = .ok (.iconst 2, 1) := by decide +kernel
theorem dc_84_178 : decode (ax_code 84) 178 = .ok (.iload 6, 2) := by decide +kernel
theorem dc_84_180 : decode (ax_code 84) 180 = .ok (.bipush 6, 2) := by decide +kernel
theorem dc_84_182 : decode (ax_code 84) 182 = .ok (.iushr, 1) := by decide +kernel
theorem dc_84_183 : decode (ax_code 84) 183 = .ok (.iconst 2, 1) := by decide +kernel
theorem dc_84_184 : decode (ax_code 84) 184 = .ok (.irem, 1) := by decide +kernel
theorem dc_84_185 : decode (ax_code 84) 185 = .ok (.iadd, 1) := by decide +kernel
theorem dc_84_186 : decode (ax_code 84) 186 = .ok (.goto 4, 3) := by decide +kernel
theorem dc_84_189 : decode (ax_code 84) 189 = .ok (.iconst 0, 1) := by decide +kernel
theorem dc_84_190 : decode (ax_code 84) 190 = .ok (.istore 9, 2) := by decide +kernel
theorem dc_84_192 : decode (ax_code 84) 192 = .ok (.iload 7, 2) := by decide +kernel
theorem dc_84_194 : decode (ax_code 84) 194 = .ok (.iconst 1, 1) := by decide +kernel
theorem dc_84_195 : decode (ax_code 84) 195 = .ok (.if_icmp .gt 10, 3) := by decide +kernel
theorem dc_84_198 : decode (ax_code 84) 198 = .ok (.aload_n 3, 1) := by decide +kernel
theorem dc_84_199 : decode (ax_code 84) 199 = .ok (.invokevirtual 44, 3) := by decide +kernel
theorem dc_84_202 : decode (ax_code 84) 202 = .ok (.ifCond .le 7, 3) := by decide +kernel
theorem dc_84_205 : decode (ax_code 84) 205 = .ok (.iconst 1, 1) := by decide +kernel
theorem dc_84_206 : decode (ax_code 84) 206 = .ok (.goto 4, 3) := by decide +kernel
theorem dc_84_209 : decode (ax_code 84) 209 = .ok (.iconst 0, 1) := by decide +kernel
theorem dc_84_210 : decode (ax_code 84) 210 = .ok (.istore 10, 2) := by decide +kernel
theorem dc_84_212 : decode (ax_code 84) 212 = .ok (.aload_n 0, 1) := by decide +kernel
theorem dc_84_213 : decode (ax_code 84) 213 = .ok (.iload 7, 2) := by decide +kernel
theorem dc_84_215 : decode (ax_code 84) 215 = .ok (.iload 8, 2) := by decide +kernel
theorem dc_84_217 : decode (ax_code 84) 217 = .ok (.iload 9, 2) := by decide +kernel
theorem dc_84_219 : decode (ax_code 84) 219 = .ok (.invokevirtual 48, 3) := by decide +kernel
theorem dc_84_222 : decode (ax_code 84) 222 = .ok (.iload 10, 2) := by decide +kernel
theorem dc_84_224 : decode (ax_code 84) 224 = .ok (.ifCond .eq 10, 3) := by decide +kernel
theorem dc_84_227 : decode (ax_code 84) 227 = .ok (.aload_n 3, 1) := by decide +kernel
theorem dc_84_228 : decode (ax_code 84) 228 = .ok (.getfield 52, 3) := by decide +kernel
theorem dc_84_231 : decode (ax_code 84) 231 = .ok (.goto 5, 3) := by decide +kernel
theorem dc_84_234 : decode (ax_code 84) 234 = .ok (.bipush (-3), 2) := by decide +kernel
theorem dc_84_236 : decode (ax_code 84) 236 = .ok (.if_icmp .eq 5, 3) := by decide +kernel
theorem dc_84_239 : decode (ax_code 84) 239 = .ok (.aconst_null, 1) := by decide +kernel
theorem dc_84_240 : decode (ax_code 84) 240 = .ok (.areturn, 1) := by decide +kernel
theorem dc_84_241 : decode (ax_code 84) 241 = .ok (.iload 10, 2) := by decide +kernel
theorem dc_84_243 : decode (ax_code 84) 243 = .ok (.ifCond .ne 6, 3) := by decide +kernel
theorem dc_84_246 : decode (ax_code 84) 246 = .ok (.goto 46, 3) := by decide +kernel
theorem dc_84_249 : decode (ax_code 84) 249 = .ok (.aload_n 3, 1) := by decide +kernel
theorem dc_84_250 : decode (ax_code 84) 250 = .ok (.getfield 55, 3) := by decide +kernel
theorem dc_84_253 : decode (ax_code 84) 253 = .ok (.aload_n 3, 1) := by decide +kernel
theorem dc_84_254 : decode (ax_code 84) 254 = .ok (.getfield 52, 3) := by decide +kernel
theorem dc_84_257 : decode (ax_code 84) 257 = .ok (.iload 7, 2) := by decide +kernel
theorem dc_84_259 : decode (ax_code 84) 259 = .ok (.iastore, 1) := by decide +kernel
theorem dc_84_260 : decode (ax_code 84) 260 = .ok (.aload_n 3, 1) := by decide +kernel
theorem dc_84_261 : decode (ax_code 84) 261 = .ok (.getfield 58, 3) := by decide +kernel
theorem dc_84_264 : decode (ax_code 84) 264 = .ok (.aload_n 3, 1) := by decide +kernel
theorem dc_84_265 : decode (ax_code 84) 265 = .ok (.getfield 52, 3) := by decide +kernel
theorem dc_84_268 : decode (ax_code 84) 268 = .ok (.iload 8, 2) := by decide +kernel
theorem dc_84_270 : decode (ax_code 84) 270 = .ok (.iastore, 1) := by decide +kernel
theorem dc_84_271 : decode (ax_code 84) 271 = .ok (.aload_n 3, 1) := by decide +kernel
theorem dc_84_272 : decode (ax_code 84) 272 = .ok (.getfield 61, 3) := by decide +kernel
theorem dc_84_275 : decode (ax_code 84) 275 = .ok (.aload_n 3, 1) := by decide +kernel
theorem dc_84_276 : decode (ax_code 84) 276 = .ok (.getfield 52, 3) := by decide +kernel
theorem dc_84_279 : decode (ax_code 84) 279 = .ok (.iload 9, 2) := by decide +kernel
theorem dc_84_281 : decode (ax_code 84) 281 = .ok (.iastore, 1) := by decide +kernel
theorem dc_84_282 : decode (ax_code 84) 282 = .ok (.aload_n 3, 1) := by decide +kernel
theorem dc_84_283 : decode (ax_code 84) 283 = .ok (.dup, 1) := by decide +kernel
theorem dc_84_284 : decode (ax_code 84) 284 = .ok (.getfield 52, 3) := by decide +kernel
theorem dc_84_287 : decode (ax_code 84) 287 = .ok (.iconst 1, 1) := by decide +kernel
theorem dc_84_288 : decode (ax_code 84) 288 = .ok (.iadd, 1) := by decide +kernel
theorem dc_84_289 : decode (ax_code 84) 289 = .ok (.putfield 52, 3) := by decide +kernel
theorem dc_84_292 : decode (ax_code 84) 292 = .ok (.iinc 5 1, 3) := by decide +kernel
theorem dc_84_295 : decode (ax_code 84) 295 = .ok (.goto (-185), 3) := by decide +kernel
theorem dc_84_298 : decode (ax_code 84) 298 = .ok (.aload_n 1, 1) := by decide +kernel
theorem dc_84_299 : decode (ax_code 84) 299 = .ok (.iconst 0, 1) := by decide +kernel
theorem dc_84_300 : decode (ax_code 84) 300 = .ok (.invokestatic 23, 3) := by decide +kernel
theorem dc_84_303 : decode (ax_code 84) 303 = .ok (.bipush 8, 2) := by decide +kernel
theorem dc_84_305 : decode (ax_code 84) 305 = .ok (.iushr, 1) := by decide +kernel
theorem dc_84_306 : decode (ax_code 84) 306 = .ok (.bipush 6, 2) := by decide +kernel
theorem dc_84_308 : decode (ax_code 84) 308 = .ok (.irem, 1) := by decide +kernel
theorem dc_84_309 : decode (ax_code 84) 309 = .ok (.istore 5, 2) := by decide +kernel
theorem dc_84_311 : decode (ax_code 84) 311 = .ok (.iconst 0, 1) := by decide +kernel
theorem dc_84_312 : decode (ax_code 84) 312 = .ok (.istore 6, 2) := by decide +kernel
theorem dc_84_314 : decode (ax_code 84) 314 = .ok (.iload 6, 2) := by decide +kernel
theorem dc_84_316 : decode (ax_code 84) 316 = .ok (.iload 5, 2) := by decide +kernel
theorem dc_84_318 : decode (ax_code 84) 318 = .ok (.if_icmp .ge 208, 3) := by decide +kernel
theorem dc_84_321 : decode (ax_code 84) 321 = .ok (.aload_n 1, 1) := by decide +kernel
theorem dc_84_322 : decode (ax_code 84) 322 = .ok (.bipush 8, 2) := by decide +kernel
theorem dc_84_324 : decode (ax_code 84) 324 = .ok (.iconst 2, 1) := by decide +kernel
theorem dc_84_325 : decode (ax_code 84) 325 = .ok (.iload 6, 2) := by decide +kernel
theorem dc_84_327 : decode (ax_code 84) 327 = .ok (.imul, 1) := by decide +kernel
theorem dc_84_328 : decode (ax_code 84) 328 = .ok (.iadd, 1) := by decide +kernel
theorem dc_84_329 : decode (ax_code 84) 329 = .ok (.invokestatic 23, 3) := by decide +kernel
theorem dc_84_332 : decode (ax_code 84) 332 = .ok (.istore 7, 2) := by decide +kernel
theorem dc_84_334 : decode (ax_code 84) 334 = .ok (.aload_n 1, 1) := by decide +kernel
theorem dc_84_335 : decode (ax_code 84) 335 = .ok (.bipush 9, 2) := by decide +kernel
theorem dc_84_337 : decode (ax_code 84) 337 = .ok (.iconst 2, 1) := by decide +kernel
theorem dc_84_338 : decode (ax_code 84) 338 = .ok (.iload 6, 2) := by decide +kernel
theorem dc_84_340 : decode (ax_code 84) 340 = .ok (.imul, 1) := by decide +kernel
theorem dc_84_341 : decode (ax_code 84) 341 = .ok (.iadd, 1) := by decide +kernel
theorem dc_84_342 : decode (ax_code 84) 342 = .ok (.invokestatic 23, 3) := by decide +kernel
theorem dc_84_345 : decode (ax_code 84) 345 = .ok (.istore 8, 2) := by decide +kernel
theorem dc_84_347 : decode (ax_code 84) 347 = .ok (.iload 7, 2) := by decide +kernel
theorem dc_84_349 : decode (ax_code 84) 349 = .ok (.bipush 10, 2) := by decide +kernel
theorem dc_84_351 : decode (ax_code 84) 351 = .ok (.iushr, 1) := by decide +kernel
theorem dc_84_352 : decode (ax_code 84) 352 = .ok (.iconst 3, 1) := by decide +kernel
theorem dc_84_353 : decode (ax_code 84) 353 = .ok (.irem, 1) := by decide +kernel
theorem dc_84_354 : decode (ax_code 84) 354 = .ok (.istore 9, 2) := by decide +kernel
theorem dc_84_356 : decode (ax_code 84) 356 = .ok (.bipush 7, 2) := by decide +kernel
theorem dc_84_358 : decode (ax_code 84) 358 = .ok (.newarray .int, 2) := by decide +kernel
theorem dc_84_360 : decode (ax_code 84) 360 = .ok (.dup, 1) := by decide +kernel
theorem dc_84_361 : decode (ax_code 84) 361 = .ok (.iconst 0, 1) := by decide +kernel
theorem dc_84_362 : decode (ax_code 84) 362 = .ok (.iload 7, 2) := by decide +kernel
theorem dc_84_364 : decode (ax_code 84) 364 = .ok (.iconst 5, 1) := by decide +kernel
theorem dc_84_365 : decode (ax_code 84) 365 = .ok (.irem, 1) := by decide +kernel
theorem dc_84_366 : decode (ax_code 84) 366 = .ok (.iastore, 1) := by decide +kernel
theorem dc_84_367 : decode (ax_code 84) 367 = .ok (.dup, 1) := by decide +kernel
theorem dc_84_368 : decode (ax_code 84) 368 = .ok (.iconst 1, 1) := by decide +kernel
theorem dc_84_369 : decode (ax_code 84) 369 = .ok (.iload 7, 2) := by decide +kernel
theorem dc_84_371 : decode (ax_code 84) 371 = .ok (.iconst 3, 1) := by decide +kernel
theorem dc_84_372 : decode (ax_code 84) 372 = .ok (.iushr, 1) := by decide +kernel
theorem dc_84_373 : decode (ax_code 84) 373 = .ok (.iload 7, 2) := by decide +kernel
theorem dc_84_375 : decode (ax_code 84) 375 = .ok (.bipush 25, 2) := by decide +kernel
theorem dc_84_377 : decode (ax_code 84) 377 = .ok (.iushr, 1) := by decide +kernel
theorem dc_84_378 : decode (ax_code 84) 378 = .ok (.iconst 3, 1) := by decide +kernel
theorem dc_84_379 : decode (ax_code 84) 379 = .ok (.iand, 1) := by decide +kernel
theorem dc_84_380 : decode (ax_code 84) 380 = .ok (.ifCond .ne 8, 3) := by decide +kernel
theorem dc_84_383 : decode (ax_code 84) 383 = .ok (.bipush 8, 2) := by decide +kernel
theorem dc_84_385 : decode (ax_code 84) 385 = .ok (.goto 11, 3) := by decide +kernel
theorem dc_84_388 : decode (ax_code 84) 388 = .ok (.iconst 1, 1) := by decide +kernel
theorem dc_84_389 : decode (ax_code 84) 389 = .ok (.aload_n 3, 1) := by decide +kernel
theorem dc_84_390 : decode (ax_code 84) 390 = .ok (.getfield 52, 3) := by decide +kernel
theorem dc_84_393 : decode (ax_code 84) 393 = .ok (.invokestatic 64, 3) := by decide +kernel
theorem dc_84_396 : decode (ax_code 84) 396 = .ok (.irem, 1) := by decide +kernel
theorem dc_84_397 : decode (ax_code 84) 397 = .ok (.iastore, 1) := by decide +kernel
theorem dc_84_398 : decode (ax_code 84) 398 = .ok (.dup, 1) := by decide +kernel
theorem dc_84_399 : decode (ax_code 84) 399 = .ok (.iconst 2, 1) := by decide +kernel
theorem dc_84_400 : decode (ax_code 84) 400 = .ok (.iload 7, 2) := by decide +kernel
theorem dc_84_402 : decode (ax_code 84) 402 = .ok (.bipush 6, 2) := by decide +kernel
theorem dc_84_404 : decode (ax_code 84) 404 = .ok (.iushr, 1) := by decide +kernel
theorem dc_84_405 : decode (ax_code 84) 405 = .ok (.iconst 1, 1) := by decide +kernel
theorem dc_84_406 : decode (ax_code 84) 406 = .ok (.aload_n 3, 1) := by decide +kernel
theorem dc_84_407 : decode (ax_code 84) 407 = .ok (.getfield 52, 3) := by decide +kernel
theorem dc_84_410 : decode (ax_code 84) 410 = .ok (.invokestatic 64, 3) := by decide +kernel
theorem dc_84_413 : decode (ax_code 84) 413 = .ok (.irem, 1) := by decide +kernel
theorem dc_84_414 : decode (ax_code 84) 414 = .ok (.iastore, 1) := by decide +kernel
theorem dc_84_415 : decode (ax_code 84) 415 = .ok (.dup, 1) := by decide +kernel
theorem dc_84_416 : decode (ax_code 84) 416 = .ok (.iconst 3, 1) := by decide +kernel
theorem dc_84_417 : decode (ax_code 84) 417 = .ok (.iload 9, 2) := by decide +kernel
theorem dc_84_419 : decode (ax_code 84) 419 = .ok (.iastore, 1) := by decide +kernel
theorem dc_84_420 : decode (ax_code 84) 420 = .ok (.dup, 1) := by decide +kernel
theorem dc_84_421 : decode (ax_code 84) 421 = .ok (.iconst 4, 1) := by decide +kernel
theorem dc_84_422 : decode (ax_code 84) 422 = .ok (.iload 9, 2) := by decide +kernel
theorem dc_84_424 : decode (ax_code 84) 424 = .ok (.iconst 1, 1) := by decide +kernel
theorem dc_84_425 : decode (ax_code 84) 425 = .ok (.iadd, 1) := by decide +kernel
theorem dc_84_426 : decode (ax_code 84) 426 = .ok (.iload 7, 2) := by decide +kernel
theorem dc_84_428 : decode (ax_code 84) 428 = .ok (.bipush 13, 2) := by decide +kernel
theorem dc_84_430 : decode (ax_code 84) 430 = .ok (.iushr, 1) := by decide +kernel
theorem dc_84_431 : decode (ax_code 84) 431 = .ok (.iconst 1, 1) := by decide +kernel
theorem dc_84_432 : decode (ax_code 84) 432 = .ok (.iand, 1) := by decide +kernel
theorem dc_84_433 : decode (ax_code 84) 433 = .ok (.iadd, 1) := by decide +kernel
theorem dc_84_434 : decode (ax_code 84) 434 = .ok (.iconst 3, 1) := by decide +kernel
theorem dc_84_435 : decode (ax_code 84) 435 = .ok (.irem, 1) := by decide +kernel
theorem dc_84_436 : decode (ax_code 84) 436 = .ok (.iastore, 1) := by decide +kernel
theorem dc_84_437 : decode (ax_code 84) 437 = .ok (.dup, 1) := by decide +kernel
theorem dc_84_438 : decode (ax_code 84) 438 = .ok (.iconst 5, 1) := by decide +kernel
theorem dc_84_439 : decode (ax_code 84) 439 = .ok (.iload 8, 2) := by decide +kernel
theorem dc_84_441 : decode (ax_code 84) 441 = .ok (.iconst 5, 1) := by decide +kernel
theorem dc_84_442 : decode (ax_code 84) 442 = .ok (.irem, 1) := by decide +kernel
theorem dc_84_443 : decode (ax_code 84) 443 = .ok (.iastore, 1) := by decide +kernel
theorem dc_84_444 : decode (ax_code 84) 444 = .ok (.dup, 1) := by decide +kernel
theorem dc_84_445 : decode (ax_code 84) 445 = .ok (.bipush 6, 2) := by decide +kernel
theorem dc_84_447 : decode (ax_code 84) 447 = .ok (.iload 8, 2) := by decide +kernel
theorem dc_84_449 : decode (ax_code 84) 449 = .ok (.iconst 3, 1) := by decide +kernel
theorem dc_84_450 : decode (ax_code 84) 450 = .ok (.iushr, 1) := by decide +kernel
theorem dc_84_451 : decode (ax_code 84) 451 = .ok (.sipush 199, 3) := by decide +kernel
theorem dc_84_454 : decode (ax_code 84) 454 = .ok (.irem, 1) := by decide +kernel
theorem dc_84_455 : decode (ax_code 84) 455 = .ok (.bipush 99, 2) := by decide +kernel
theorem dc_84_457 : decode (ax_code 84) 457 = .ok (.isub, 1) := by decide +kernel
theorem dc_84_458 : decode (ax_code 84) 458 = .ok (.iastore, 1) := by decide +kernel
theorem dc_84_459 : decode (ax_code 84) 459 = .ok (.astore 10, 2) := by decide +kernel
theorem dc_84_461 : decode (ax_code 84) 461 = .ok (.aload_n 0, 1) := by decide +kernel
theorem dc_84_462 : decode (ax_code 84) 462 = .ok (.aload 10, 2) := by decide +kernel
theorem dc_84_464 : decode (ax_code 84) 464 = .ok (.iconst 0, 1) := by decide +kernel
theorem dc_84_465 : decode (ax_code 84) 465 = .ok (.iaload, 1) := by decide +kernel
theorem dc_84_466 : decode (ax_code 84) 466 = .ok (.aload 10, 2) := by decide +kernel
theorem dc_84_468 : decode (ax_code 84) 468 = .ok (.iconst 1, 1) := by decide +kernel
theorem dc_84_469 : decode (ax_code 84) 469 = .ok (.iaload, 1) := by decide +kernel
theorem dc_84_470 : decode (ax_code 84) 470 = .ok (.aload 10, 2) := by decide +kernel
theorem dc_84_472 : decode (ax_code 84) 472 = .ok (.iconst 2, 1) := by decide +kernel
theorem dc_84_473 : decode (ax_code 84) 473 = .ok (.iaload, 1) := by decide +kernel
theorem dc_84_474 : decode (ax_code 84) 474 = .ok (.aload 10, 2) := by decide +kernel
theorem dc_84_476 : decode (ax_code 84) 476 = .ok (.iconst 3, 1) := by decide +kernel
theorem dc_84_477 : decode (ax_code 84) 477 = .ok (.iaload, 1) := by decide +kernel
theorem dc_84_478 : decode (ax_code 84) 478 = .ok (.aload 10, 2) := by decide +kernel
theorem dc_84_480 : decode (ax_code 84) 480 = .ok (.iconst 4, 1) := by decide +kernel
theorem dc_84_481 : decode (ax_code 84) 481 = .ok (.iaload, 1) := by decide +kernel
theorem dc_84_482 : decode (ax_code 84) 482 = .ok (.aload 10, 2) := by decide +kernel
theorem dc_84_484 : decode (ax_code 84) 484 = .ok (.iconst 5, 1) := by decide +kernel
theorem dc_84_485 : decode (ax_code 84) 485 = .ok (.iaload, 1) := by decide +kernel
theorem dc_84_486 : decode (ax_code 84) 486 = .ok (.aload 10, 2) := by decide +kernel
theorem dc_84_488 : decode (ax_code 84) 488 = .ok (.bipush 6, 2) := by decide +kernel
theorem dc_84_490 : decode (ax_code 84) 490 = .ok (.iaload, 1) := by decide +kernel
theorem dc_84_491 : decode (ax_code 84) 491 = .ok (.invokevirtual 67, 3) := by decide +kernel
theorem dc_84_494 : decode (ax_code 84) 494 = .ok (.iload 6, 2) := by decide +kernel
theorem dc_84_496 : decode (ax_code 84) 496 = .ok (.if_icmp .eq 5, 3) := by decide +kernel
theorem dc_84_499 : decode (ax_code 84) 499 = .ok (.aconst_null, 1) := by decide +kernel
theorem dc_84_500 : decode (ax_code 84) 500 = .ok (.areturn, 1) := by decide +kernel
theorem dc_84_501 : decode (ax_code 84) 501 = .ok (.aload_n 3, 1) := by decide +kernel
theorem dc_84_502 : decode (ax_code 84) 502 = .ok (.getfield 71, 3) := by decide +kernel
theorem dc_84_505 : decode (ax_code 84) 505 = .ok (.iload 6, 2) := by decide +kernel
theorem dc_84_507 : decode (ax_code 84) 507 = .ok (.aload 10, 2) := by decide +kernel
theorem dc_84_509 : decode (ax_code 84) 509 = .ok (.aastore, 1) := by decide +kernel
theorem dc_84_510 : decode (ax_code 84) 510 = .ok (.aload_n 3, 1) := by decide +kernel
theorem dc_84_511 : decode (ax_code 84) 511 = .ok (.dup, 1) := by decide +kernel
theorem dc_84_512 : decode (ax_code 84) 512 = .ok (.getfield 74, 3) := by decide +kernel
theorem dc_84_515 : decode (ax_code 84) 515 = .ok (.iconst 1, 1) := by decide +kernel
theorem dc_84_516 : decode (ax_code 84) 516 = .ok (.iadd, 1) := by decide +kernel
theorem dc_84_517 : decode (ax_code 84) 517 = .ok (.putfield 74, 3) := by decide +kernel
theorem dc_84_520 : decode (ax_code 84) 520 = .ok (.iinc 6 1, 3) := by decide +kernel
theorem dc_84_523 : decode (ax_code 84) 523 = .ok (.goto (-209), 3) := by decide +kernel
theorem dc_84_526 : decode (ax_code 84) 526 = .ok (.aload_n 3, 1) := by decide +kernel
theorem dc_84_527 : decode (ax_code 84) 527 = .ok (.areturn, 1) := by decide +kernel
theorem dc_86_0 : decode (ax_code 86) 0 = .ok (.iload_n 1, 1) := by decide +kernel
theorem dc_86_1 : decode (ax_code 86) 1 = .ok (.iconst 1, 1) := by decide +kernel
theorem dc_86_2 : decode (ax_code 86) 2 = .ok (.if_icmp .lt 8, 3) := by decide +kernel
theorem dc_86_5 : decode (ax_code 86) 5 = .ok (.iload_n 1, 1) := by decide +kernel
theorem dc_86_6 : decode (ax_code 86) 6 = .ok (.iconst 5, 1) := by decide +kernel
theorem dc_86_7 : decode (ax_code 86) 7 = .ok (.if_icmp .le 6, 3) := by decide +kernel
theorem dc_86_10 : decode (ax_code 86) 10 = .ok (.bipush (-2), 2) := by decide +kernel
theorem dc_86_12 : decode (ax_code 86) 12 = .ok (.ireturn, 1) := by decide +kernel
theorem dc_86_13 : decode (ax_code 86) 13 = .ok (.aload_n 0, 1) := by decide +kernel
theorem dc_86_14 : decode (ax_code 86) 14 = .ok (.getfield 10, 3) := by decide +kernel
theorem dc_86_17 : decode (ax_code 86) 17 = .ok (.getfield 77, 3) := by decide +kernel
theorem dc_86_20 : decode (ax_code 86) 20 = .ok (.getfield 81, 3) := by decide +kernel
theorem dc_86_23 : decode (ax_code 86) 23 = .ok (.istore_n 2, 1) := by decide +kernel
theorem dc_86_24 : decode (ax_code 86) 24 = .ok (.aload_n 0, 1) := by decide +kernel
theorem dc_86_25 : decode (ax_code 86) 25 = .ok (.getfield 10, 3) := by decide +kernel
theorem dc_86_28 : decode (ax_code 86) 28 = .ok (.iload_n 1, 1) := by decide +kernel
theorem dc_86_29 : decode (ax_code 86) 29 = .ok (.invokevirtual 87, 3) := by decide +kernel
theorem dc_86_32 : decode (ax_code 86) 32 = .ok (.iload_n 2, 1) := by decide +kernel
theorem dc_86_33 : decode (ax_code 86) 33 = .ok (.ireturn, 1) := by decide +kernel
theorem dc_87_0 : decode (ax_code 87) 0 = .ok (.aload_n 0, 1) := by decide +kernel
theorem dc_87_1 : decode (ax_code 87) 1 = .ok (.getfield 12, 3) := by decide +kernel
theorem dc_87_4 : decode (ax_code 87) 4 = .ok (.iload_n 1, 1) := by decide +kernel
theorem dc_87_5 : decode (ax_code 87) 5 = .ok (.invokevirtual 52, 3) := by decide +kernel
theorem dc_87_8 : decode (ax_code 87) 8 = .ok (.aload_n 0, 1) := by decide +kernel
theorem dc_87_9 : decode (ax_code 87) 9 = .ok (.getfield 21, 3) := by decide +kernel
theorem dc_87_12 : decode (ax_code 87) 12 = .ok (.iconst 0, 1) := by decide +kernel
theorem dc_87_13 : decode (ax_code 87) 13 = .ok (.putfield 56, 3) := by decide +kernel
theorem dc_87_16 : decode (ax_code 87) 16 = .ok (.aload_n 0, 1) := by decide +kernel
theorem dc_87_17 : decode (ax_code 87) 17 = .ok (.iconst 0, 1) := by decide +kernel
theorem dc_87_18 : decode (ax_code 87) 18 = .ok (.putfield 44, 3) := by decide +kernel
theorem dc_87_21 : decode (ax_code 87) 21 = .ok (.aload_n 0, 1) := by decide +kernel
theorem dc_87_22 : decode (ax_code 87) 22 = .ok (.lconst 1, 1) := by decide +kernel
theorem dc_87_23 : decode (ax_code 87) 23 = .ok (.putfield 48, 3) := by decide +kernel
theorem dc_87_26 : decode (ax_code 87) 26 = .ok (.return_, 1) := by decide +kernel
theorem dc_88_0 : decode (ax_code 88) 0 = .ok (.aload_n 0, 1) := by decide +kernel
theorem dc_88_1 : decode (ax_code 88) 1 = .ok (.iload_n 1, 1) := by decide +kernel
theorem dc_88_2 : decode (ax_code 88) 2 = .ok (.putfield 9, 3) := by decide +kernel
theorem dc_88_5 : decode (ax_code 88) 5 = .ok (.aload_n 0, 1) := by decide +kernel
theorem dc_88_6 : decode (ax_code 88) 6 = .ok (.iconst 0, 1) := by decide +kernel
theorem dc_88_7 : decode (ax_code 88) 7 = .ok (.putfield 25, 3) := by decide +kernel
theorem dc_88_10 : decode (ax_code 88) 10 = .ok (.iconst 0, 1) := by decide +kernel
theorem dc_88_11 : decode (ax_code 88) 11 = .ok (.istore_n 2, 1) := by decide +kernel
theorem dc_88_12 : decode (ax_code 88) 12 = .ok (.iload_n 2, 1) := by decide +kernel
theorem dc_88_13 : decode (ax_code 88) 13 = .ok (.iconst 5, 1) := by decide +kernel
theorem dc_88_14 : decode (ax_code 88) 14 = .ok (.if_icmp .ge 16, 3) := by decide +kernel
theorem dc_88_17 : decode (ax_code 88) 17 = .ok (.aload_n 0, 1) := by decide +kernel
theorem dc_88_18 : decode (ax_code 88) 18 = .ok (.getfield 15, 3) := by decide +kernel
theorem dc_88_21 : decode (ax_code 88) 21 = .ok (.iload_n 2, 1) := by decide +kernel
theorem dc_88_22 : decode (ax_code 88) 22 = .ok (.iconst 0, 1) := by decide +kernel
theorem dc_88_23 : decode (ax_code 88) 23 = .ok (.iastore, 1) := by decide +kernel
theorem dc_88_24 : decode (ax_code 88) 24 = .ok (.iinc 2 1, 3) := by decide +kernel
theorem dc_88_27 : decode (ax_code 88) 27 = .ok (.goto (-15), 3) := by decide +kernel
theorem dc_88_30 : decode (ax_code 88) 30 = .ok (.return_, 1) := by decide +kernel
theorem dc_89_0 : decode (ax_code 89) 0 = .ok (.iload_n 1, 1) := by decide +kernel
theorem dc_89_1 : decode (ax_code 89) 1 = .ok (.ifCond .lt 29, 3) := by decide +kernel
theorem dc_89_4 : decode (ax_code 89) 4 = .ok (.iload_n 1, 1) := by decide +kernel
theorem dc_89_5 : decode (ax_code 89) 5 = .ok (.aload_n 0, 1) := by decide +kernel
theorem dc_89_6 : decode (ax_code 89) 6 = .ok (.getfield 10, 3) := by decide +kernel
theorem dc_89_9 : decode (ax_code 89) 9 = .ok (.getfield 77, 3) := by decide +kernel
theorem dc_89_12 : decode (ax_code 89) 12 = .ok (.getfield 81, 3) := by decide +kernel
theorem dc_89_15 : decode (ax_code 89) 15 = .ok (.if_icmp .ge 15, 3) := by decide +kernel
theorem dc_89_18 : decode (ax_code 89) 18 = .ok (.iload_n 2, 1) := by decide +kernel
theorem dc_89_19 : decode (ax_code 89) 19 = .ok (.bipush (-9), 2) := by decide +kernel
theorem dc_89_21 : decode (ax_code 89) 21 = .ok (.if_icmp .lt 9, 3) := by decide +kernel
theorem dc_89_24 : decode (ax_code 89) 24 = .ok (.iload_n 2, 1) := by decide +kernel
theorem dc_89_25 : decode (ax_code 89) 25 = .ok (.bipush 9, 2) := by decide +kernel
theorem dc_89_27 : decode (ax_code 89) 27 = .ok (.if_icmp .le 6, 3) := by decide +kernel
theorem dc_89_30 : decode (ax_code 89) 30 = .ok (.bipush (-2), 2) := by decide +kernel
theorem dc_89_32 : decode (ax_code 89) 32 = .ok (.ireturn, 1) := by decide +kernel
theorem dc_89_33 : decode (ax_code 89) 33 = .ok (.aload_n 0, 1) := by decide +kernel
theorem dc_89_34 : decode (ax_code 89) 34 = .ok (.getfield 10, 3) := by decide +kernel
theorem dc_89_37 : decode (ax_code 89) 37 = .ok (.getfield 77, 3) := by decide +kernel
theorem dc_89_40 : decode (ax_code 89) 40 = .ok (.getfield 91, 3) := by decide +kernel
theorem dc_89_43 : decode (ax_code 89) 43 = .ok (.iload_n 1, 1) := by decide +kernel
theorem dc_89_44 : decode (ax_code 89) 44 = .ok (.iaload, 1) := by decide +kernel
theorem dc_89_45 : decode (ax_code 89) 45 = .ok (.istore_n 3, 1) := by decide +kernel
theorem dc_89_46 : decode (ax_code 89) 46 = .ok (.aload_n 0, 1) := by decide +kernel
theorem dc_89_47 : decode (ax_code 89) 47 = .ok (.getfield 10, 3) := by decide +kernel
theorem dc_89_50 : decode (ax_code 89) 50 = .ok (.getfield 77, 3) := by decide +kernel
theorem dc_89_53 : decode (ax_code 89) 53 = .ok (.getfield 91, 3) := by decide +kernel
theorem dc_89_56 : decode (ax_code 89) 56 = .ok (.iload_n 1, 1) := by decide +kernel
theorem dc_89_57 : decode (ax_code 89) 57 = .ok (.iload_n 2, 1) := by decide +kernel
theorem dc_89_58 : decode (ax_code 89) 58 = .ok (.iastore, 1) := by decide +kernel
theorem dc_89_59 : decode (ax_code 89) 59 = .ok (.iload_n 3, 1) := by decide +kernel
theorem dc_89_60 : decode (ax_code 89) 60 = .ok (.ireturn, 1) := by decide +kernel
theorem dc_90_0 : decode (ax_code 90) 0 = .ok (.aload_n 0, 1) := by decide +kernel
theorem dc_90_1 : decode (ax_code 90) 1 = .ok (.getfield 7, 3) := by decide +kernel
theorem dc_90_4 : decode (ax_code 90) 4 = .ok (.istore_n 1, 1) := by decide +kernel
theorem dc_90_5 : decode (ax_code 90) 5 = .ok (.iconst 0, 1) := by decide +kernel
theorem dc_90_6 : decode (ax_code 90) 6 = .ok (.istore_n 2, 1) := by decide +kernel
theorem dc_90_7 : decode (ax_code 90) 7 = .ok (.iload_n 2, 1) := by decide +kernel
theorem dc_90_8 : decode (ax_code 90) 8 = .ok (.aload_n 0, 1) := by decide +kernel
theorem dc_90_9 : decode (ax_code 90) 9 = .ok (.getfield 53, 3) := by decide +kernel
theorem dc_90_12 : decode (ax_code 90) 12 = .ok (.if_icmp .ge 27, 3) := by decide +kernel
theorem dc_90_15 : decode (ax_code 90) 15 = .ok (.iload_n 1, 1) := by decide +kernel
theorem dc_90_16 : decode (ax_code 90) 16 = .ok (.aload_n 0, 1) := by decide +kernel
theorem dc_90_17 : decode (ax_code 90) 17 = .ok (.getfield 17, 3) := by decide +kernel
theorem dc_90_20 : decode (ax_code 90) 20 = .ok (.iload_n 2, 1) := by decide +kernel
theorem dc_90_21 : decode (ax_code 90) 21 = .ok (.iaload, 1) := by decide +kernel
theorem dc_90_22 : decode (ax_code 90) 22 = .ok (.iconst 2, 1) := by decide +kernel
theorem dc_90_23 : decode (ax_code 90) 23 = .ok (.if_icmp .ge 7, 3) := by decide +kernel
theorem dc_90_26 : decode (ax_code 90) 26 = .ok (.iconst 1, 1) := by decide +kernel
theorem dc_90_27 : decode (ax_code 90) 27 = .ok (.goto 4, 3) := by decide +kernel
theorem dc_90_30 : decode (ax_code 90) 30 = .ok (.iconst 0, 1) := by decide +kernel
theorem dc_90_31 : decode (ax_code 90) 31 = .ok (.isub, 1) := by decide +kernel
theorem dc_90_32 : decode (ax_code 90) 32 = .ok (.istore_n 1, 1) := by decide +kernel
theorem dc_90_33 : decode (ax_code 90) 33 = .ok (.iinc 2 1, 3) := by decide +kernel
theorem dc_90_36 : decode (ax_code 90) 36 = .ok (.goto (-29), 3) := by decide +kernel
theorem dc_90_39 : decode (ax_code 90) 39 = .ok (.iload_n 1, 1) := by decide +kernel
theorem dc_90_40 : decode (ax_code 90) 40 = .ok (.ireturn, 1) := by decide +kernel
theorem dc_91_0 : decode (ax_code 91) 0 = .ok (.iload_n 1, 1) := by decide +kernel
theorem dc_91_1 : decode (ax_code 91) 1 = .ok (.iload_n 2, 1) := by decide +kernel
theorem dc_91_2 : decode (ax_code 91) 2 = .ok (.iload_n 3, 1) := by decide +kernel
theorem dc_91_3 : decode (ax_code 91) 3 = .ok (.invokestatic 94, 3) := by decide +kernel
theorem dc_91_6 : decode (ax_code 91) 6 = .ok (.ifCond .ne 6, 3) := by decide +kernel
theorem dc_91_9 : decode (ax_code 91) 9 = .ok (.bipush (-2), 2) := by decide +kernel
theorem dc_91_11 : decode (ax_code 91) 11 = .ok (.ireturn, 1) := by decide +kernel
theorem dc_91_12 : decode (ax_code 91) 12 = .ok (.aload_n 0, 1) := by decide +kernel
theorem dc_91_13 : decode (ax_code 91) 13 = .ok (.getfield 10, 3) := by decide +kernel
theorem dc_91_16 : decode (ax_code 91) 16 = .ok (.getfield 77, 3) := by decide +kernel
theorem dc_91_19 : decode (ax_code 91) 19 = .ok (.invokevirtual 98, 3) := by decide +kernel
theorem dc_91_22 : decode (ax_code 91) 22 = .ok (.ifCond .ne 6, 3) := by decide +kernel
theorem dc_91_25 : decode (ax_code 91) 25 = .ok (.bipush (-4), 2) := by decide +kernel
theorem dc_91_27 : decode (ax_code 91) 27 = .ok (.ireturn, 1) := by decide +kernel
theorem dc_91_28 : decode (ax_code 91) 28 = .ok (.aload_n 0, 1) := by decide +kernel
theorem dc_91_29 : decode (ax_code 91) 29 = .ok (.getfield 10, 3) := by decide +kernel
theorem dc_91_32 : decode (ax_code 91) 32 = .ok (.getfield 77, 3) := by decide +kernel
theorem dc_91_35 : decode (ax_code 91) 35 = .ok (.getstatic 102, 3) := by decide +kernel
theorem dc_91_38 : decode (ax_code 91) 38 = .ok (.iload_n 1, 1) := by decide +kernel
theorem dc_91_39 : decode (ax_code 91) 39 = .ok (.aaload, 1) := by decide +kernel
theorem dc_91_40 : decode (ax_code 91) 40 = .ok (.invokevirtual 106, 3) := by decide +kernel
theorem dc_91_43 : decode (ax_code 91) 43 = .ok (.ifCond .ne 6, 3) := by decide +kernel
theorem dc_91_46 : decode (ax_code 91) 46 = .ok (.bipush (-3), 2) := by decide +kernel
theorem dc_91_48 : decode (ax_code 91) 48 = .ok (.ireturn, 1) := by decide +kernel
theorem dc_91_49 : decode (ax_code 91) 49 = .ok (.aload_n 0, 1) := by decide +kernel
theorem dc_91_50 : decode (ax_code 91) 50 = .ok (.getfield 10, 3) := by decide +kernel
theorem dc_91_53 : decode (ax_code 91) 53 = .ok (.getfield 77, 3) := by decide +kernel
theorem dc_91_56 : decode (ax_code 91) 56 = .ok (.new 44, 3) := by decide +kernel
theorem dc_91_59 : decode (ax_code 91) 59 = .ok (.dup, 1) := by decide +kernel
theorem dc_91_60 : decode (ax_code 91) 60 = .ok (.getstatic 102, 3) := by decide +kernel
theorem dc_91_63 : decode (ax_code 91) 63 = .ok (.iload_n 1, 1) := by decide +kernel
theorem dc_91_64 : decode (ax_code 91) 64 = .ok (.aaload, 1) := by decide +kernel
theorem dc_91_65 : decode (ax_code 91) 65 = .ok (.iload_n 2, 1) := by decide +kernel
theorem dc_91_66 : decode (ax_code 91) 66 = .ok (.iload_n 3, 1) := by decide +kernel
theorem dc_91_67 : decode (ax_code 91) 67 = .ok (.invokespecial 110, 3) := by decide +kernel
theorem dc_91_70 : decode (ax_code 91) 70 = .ok (.invokevirtual 113, 3) := by decide +kernel
theorem dc_91_73 : decode (ax_code 91) 73 = .ok (.aload_n 0, 1) := by decide +kernel
theorem dc_91_74 : decode (ax_code 91) 74 = .ok (.getfield 10, 3) := by decide +kernel
theorem dc_91_77 : decode (ax_code 91) 77 = .ok (.getfield 77, 3) := by decide +kernel
theorem dc_91_80 : decode (ax_code 91) 80 = .ok (.getfield 117, 3) := by decide +kernel
theorem dc_91_83 : decode (ax_code 91) 83 = .ok (.iconst 1, 1) := by decide +kernel
theorem dc_91_84 : decode (ax_code 91) 84 = .ok (.isub, 1) := by decide +kernel
theorem dc_91_85 : decode (ax_code 91) 85 = .ok (.ireturn, 1) := by decide +kernel
theorem dc_92_0 : decode (ax_code 92) 0 = .ok (.iload_n 0, 1) := by decide +kernel
theorem dc_92_1 : decode (ax_code 92) 1 = .ok (.ifCond .lt 11, 3) := by decide +kernel
theorem dc_92_4 : decode (ax_code 92) 4 = .ok (.iload_n 0, 1) := by decide +kernel
theorem dc_92_5 : decode (ax_code 92) 5 = .ok (.getstatic 102, 3) := by decide +kernel
theorem dc_92_8 : decode (ax_code 92) 8 = .ok (.arraylength, 1) := by decide +kernel
theorem dc_92_9 : decode (ax_code 92) 9 = .ok (.if_icmp .lt 5, 3) := by decide +kernel
theorem dc_92_12 : decode (ax_code 92) 12 = .ok (.iconst 0, 1) := by decide +kernel
theorem dc_92_13 : decode (ax_code 92) 13 = .ok (.ireturn, 1) := by decide +kernel
theorem dc_92_14 : decode (ax_code 92) 14 = .ok (.getstatic 102, 3) := by decide +kernel
theorem dc_92_17 : decode (ax_code 92) 17 = .ok (.iload_n 0, 1) := by decide +kernel
theorem dc_92_18 : decode (ax_code 92) 18 = .ok (.aaload, 1) := by decide +kernel
theorem dc_92_19 : decode (ax_code 92) 19 = .ok (.getfield 372, 3) := by decide +kernel
theorem dc_92_22 : decode (ax_code 92) 22 = .ok (.ifCond .eq 10, 3) := by decide +kernel
theorem dc_92_25 : decode (ax_code 92) 25 = .ok (.iload_n 1, 1) := by decide +kernel
theorem dc_92_26 : decode (ax_code 92) 26 = .ok (.invokestatic 173, 3) := by decide +kernel
theorem dc_92_29 : decode (ax_code 92) 29 = .ok (.goto 12, 3) := by decide +kernel
theorem dc_92_32 : decode (ax_code 92) 32 = .ok (.iload_n 1, 1) := by decide +kernel
theorem dc_92_33 : decode (ax_code 92) 33 = .ok (.ifCond .ne 7, 3) := by decide +kernel
theorem dc_92_36 : decode (ax_code 92) 36 = .ok (.iconst 1, 1) := by decide +kernel
theorem dc_92_37 : decode (ax_code 92) 37 = .ok (.goto 4, 3) := by decide +kernel
theorem dc_92_40 : decode (ax_code 92) 40 = .ok (.iconst 0, 1) := by decide +kernel
theorem dc_92_41 : decode (ax_code 92) 41 = .ok (.istore_n 3, 1) := by decide +kernel
theorem dc_92_42 : decode (ax_code 92) 42 = .ok (.getstatic 102, 3) := by decide +kernel
theorem dc_92_45 : decode (ax_code 92) 45 = .ok (.iload_n 0, 1) := by decide +kernel
theorem dc_92_46 : decode (ax_code 92) 46 = .ok (.aaload, 1) := by decide +kernel
theorem dc_92_47 : decode (ax_code 92) 47 = .ok (.getfield 375, 3) := by decide +kernel
theorem dc_92_50 : decode (ax_code 92) 50 = .ok (.ifCond .eq 21, 3) := by decide +kernel
theorem dc_92_53 : decode (ax_code 92) 53 = .ok (.iload_n 2, 1) := by decide +kernel
theorem dc_92_54 : decode (ax_code 92) 54 = .ok (.iconst 2, 1) := by decide +kernel
theorem dc_92_55 : decode (ax_code 92) 55 = .ok (.if_icmp .eq 8, 3) := by decide +kernel
theorem dc_92_58 : decode (ax_code 92) 58 = .ok (.iload_n 2, 1) := by decide +kernel
theorem dc_92_59 : decode (ax_code 92) 59 = .ok (.iconst 3, 1) := by decide +kernel
theorem dc_92_60 : decode (ax_code 92) 60 = .ok (.if_icmp .ne 7, 3) := by decide +kernel
theorem dc_92_63 : decode (ax_code 92) 63 = .ok (.iconst 1, 1) := by decide +kernel
theorem dc_92_64 : decode (ax_code 92) 64 = .ok (.goto 16, 3) := by decide +kernel
theorem dc_92_67 : decode (ax_code 92) 67 = .ok (.iconst 0, 1) := by decide +kernel
theorem dc_92_68 : decode (ax_code 92) 68 = .ok (.goto 12, 3) := by decide +kernel
theorem dc_92_71 : decode (ax_code 92) 71 = .ok (.iload_n 2, 1) := by decide +kernel
theorem dc_92_72 : decode (ax_code 92) 72 = .ok (.ifCond .ne 7, 3) := by decide +kernel
theorem dc_92_75 : decode (ax_code 92) 75 = .ok (.iconst 1, 1) := by decide +kernel
theorem dc_92_76 : decode (ax_code 92) 76 = .ok (.goto 4, 3) := by decide +kernel
theorem dc_92_79 : decode (ax_code 92) 79 = .ok (.iconst 0, 1) := by decide +kernel
theorem dc_92_80 : decode (ax_code 92) 80 = .ok (.istore 4, 2) := by decide +kernel
theorem dc_92_82 : decode (ax_code 92) 82 = .ok (.iload_n 3, 1) := by decide +kernel
theorem dc_92_83 : decode (ax_code 92) 83 = .ok (.ifCond .eq 12, 3) := by decide +kernel
theorem dc_92_86 : decode (ax_code 92) 86 = .ok (.iload 4, 2) := by decide +kernel
theorem dc_92_88 : decode (ax_code 92) 88 = .ok (.ifCond .eq 7, 3) := by decide +kernel
theorem dc_92_91 : decode (ax_code 92) 91 = .ok (.iconst 1, 1) := by decide +kernel
theorem dc_92_92 : decode (ax_code 92) 92 = .ok (.goto 4, 3) := by decide +kernel
theorem dc_92_95 : decode (ax_code 92) 95 = .ok (.iconst 0, 1) := by decide +kernel
theorem dc_92_96 : decode (ax_code 92) 96 = .ok (.ireturn, 1) := by decide +kernel
theorem dc_93_0 : decode (ax_code 93) 0 = .ok (.aload_n 0, 1) := by decide +kernel
theorem dc_93_1 : decode (ax_code 93) 1 = .ok (.getfield 25, 3) := by decide +kernel
theorem dc_93_4 : decode (ax_code 93) 4 = .ok (.bipush 6, 2) := by decide +kernel
theorem dc_93_6 : decode (ax_code 93) 6 = .ok (.if_icmp .ge 7, 3) := by decide +kernel
theorem dc_93_9 : decode (ax_code 93) 9 = .ok (.iconst 1, 1) := by decide +kernel
theorem dc_93_10 : decode (ax_code 93) 10 = .ok (.goto 4, 3) := by decide +kernel
theorem dc_93_13 : decode (ax_code 93) 13 = .ok (.iconst 0, 1) := by decide +kernel
theorem dc_93_14 : decode (ax_code 93) 14 = .ok (.ireturn, 1) := by decide +kernel
theorem dc_94_0 : decode (ax_code 94) 0 = .ok (.aload_n 1, 1) := by decide +kernel
theorem dc_94_1 : decode (ax_code 94) 1 = .ok (.invokevirtual 53, 3) := by decide +kernel
theorem dc_94_4 : decode (ax_code 94) 4 = .ok (.ifCond .eq 10, 3) := by decide +kernel
theorem dc_94_7 : decode (ax_code 94) 7 = .ok (.aload_n 0, 1) := by decide +kernel
theorem dc_94_8 : decode (ax_code 94) 8 = .ok (.invokevirtual 59, 3) := by decide +kernel
theorem dc_94_11 : decode (ax_code 94) 11 = .ok (.ifCond .le 7, 3) := by decide +kernel
theorem dc_94_14 : decode (ax_code 94) 14 = .ok (.iconst 1, 1) := by decide +kernel
theorem dc_94_15 : decode (ax_code 94) 15 = .ok (.goto 4, 3) := by decide +kernel
theorem dc_94_18 : decode (ax_code 94) 18 = .ok (.iconst 0, 1) := by decide +kernel
theorem dc_94_19 : decode (ax_code 94) 19 = .ok (.ireturn, 1) := by decide +kernel
theorem dc_95_0 : decode (ax_code 95) 0 = .ok (.aload_n 0, 1) := by decide +kernel
theorem dc_95_1 : decode (ax_code 95) 1 = .ok (.getfield 9, 3) := by decide +kernel
theorem dc_95_4 : decode (ax_code 95) 4 = .ok (.istore_n 1, 1) := by decide +kernel
theorem dc_95_5 : decode (ax_code 95) 5 = .ok (.iconst 0, 1) := by decide +kernel
theorem dc_95_6 : decode (ax_code 95) 6 = .ok (.istore_n 2, 1) := by decide +kernel
theorem dc_95_7 : decode (ax_code 95) 7 = .ok (.iload_n 2, 1) := by decide +kernel
theorem dc_95_8 : decode (ax_code 95) 8 = .ok (.aload_n 0, 1) := by decide +kernel
theorem dc_95_9 : decode (ax_code 95) 9 = .ok (.getfield 25, 3) := by decide +kernel
theorem dc_95_12 : decode (ax_code 95) 12 = .ok (.if_icmp .ge 20, 3) := by decide +kernel
theorem dc_95_15 : decode (ax_code 95) 15 = .ok (.aload_n 0, 1) := by decide +kernel
theorem dc_95_16 : decode (ax_code 95) 16 = .ok (.iload_n 2, 1) := by decide +kernel
theorem dc_95_17 : decode (ax_code 95) 17 = .ok (.invokevirtual 63, 3) := by decide +kernel
theorem dc_95_20 : decode (ax_code 95) 20 = .ok (.ifCond .eq 6, 3) := by decide +kernel
theorem dc_95_23 : decode (ax_code 95) 23 = .ok (.iinc 1 (-1), 3) := by decide +kernel
theorem dc_95_26 : decode (ax_code 95) 26 = .ok (.iinc 2 1, 3) := by decide +kernel
theorem dc_95_29 : decode (ax_code 95) 29 = .ok (.goto (-22), 3) := by decide +kernel
theorem dc_95_32 : decode (ax_code 95) 32 = .ok (.iload_n 1, 1) := by decide +kernel
theorem dc_95_33 : decode (ax_code 95) 33 = .ok (.ireturn, 1) := by decide +kernel
theorem dc_96_0 : decode (ax_code 96) 0 = .ok (.aload_n 0, 1) := by decide +kernel
theorem dc_96_1 : decode (ax_code 96) 1 = .ok (.iload_n 1, 1) := by decide +kernel
theorem dc_96_2 : decode (ax_code 96) 2 = .ok (.invokevirtual 67, 3) := by decide +kernel
theorem dc_96_5 : decode (ax_code 96) 5 = .ok (.astore_n 2, 1) := by decide +kernel
theorem dc_96_6 : decode (ax_code 96) 6 = .ok (.aload_n 2, 1) := by decide +kernel
theorem dc_96_7 : decode (ax_code 96) 7 = .ok (.ifnull 17, 3) := by decide +kernel
theorem dc_96_10 : decode (ax_code 96) 10 = .ok (.aload_n 2, 1) := by decide +kernel
theorem dc_96_11 : decode (ax_code 96) 11 = .ok (.getfield 71, 3) := by decide +kernel
theorem dc_96_14 : decode (ax_code 96) 14 = .ok (.invokevirtual 53, 3) := by decide +kernel
theorem dc_96_17 : decode (ax_code 96) 17 = .ok (.ifCond .eq 7, 3) := by decide +kernel
theorem dc_96_20 : decode (ax_code 96) 20 = .ok (.iconst 1, 1) := by decide +kernel
theorem dc_96_21 : decode (ax_code 96) 21 = .ok (.goto 4, 3) := by decide +kernel
theorem dc_96_24 : decode (ax_code 96) 24 = .ok (.iconst 0, 1) := by decide +kernel
theorem dc_96_25 : decode (ax_code 96) 25 = .ok (.ireturn, 1) := by decide +kernel
theorem dc_97_0 : decode (ax_code 97) 0 = .ok (.aload_n 0, 1) := by decide +kernel
theorem dc_97_1 : decode (ax_code 97) 1 = .ok (.invokespecial 1, 3) := by decide +kernel
theorem dc_97_4 : decode (ax_code 97) 4 = .ok (.aload_n 0, 1) := by decide +kernel
theorem dc_97_5 : decode (ax_code 97) 5 = .ok (.aload_n 1, 1) := by decide +kernel
theorem dc_97_6 : decode (ax_code 97) 6 = .ok (.putfield 7, 3) := by decide +kernel
theorem dc_97_9 : decode (ax_code 97) 9 = .ok (.aload_n 0, 1) := by decide +kernel
theorem dc_97_10 : decode (ax_code 97) 10 = .ok (.iload_n 2, 1) := by decide +kernel
theorem dc_97_11 : decode (ax_code 97) 11 = .ok (.putfield 13, 3) := by decide +kernel
theorem dc_97_14 : decode (ax_code 97) 14 = .ok (.aload_n 0, 1) := by decide +kernel
theorem dc_97_15 : decode (ax_code 97) 15 = .ok (.iload_n 3, 1) := by decide +kernel
theorem dc_97_16 : decode (ax_code 97) 16 = .ok (.putfield 17, 3) := by decide +kernel
theorem dc_97_19 : decode (ax_code 97) 19 = .ok (.return_, 1) := by decide +kernel
theorem dc_98_0 : decode (ax_code 98) 0 = .ok (.aload_n 1, 1) := by decide +kernel
theorem dc_98_1 : decode (ax_code 98) 1 = .ok (.ifnull 21, 3) := by decide +kernel
theorem dc_98_4 : decode (ax_code 98) 4 = .ok (.aload_n 0, 1) := by decide +kernel
theorem dc_98_5 : decode (ax_code 98) 5 = .ok (.invokevirtual 84, 3) := by decide +kernel
theorem dc_98_8 : decode (ax_code 98) 8 = .ok (.ifCond .eq 14, 3) := by decide +kernel
theorem dc_98_11 : decode (ax_code 98) 11 = .ok (.aload_n 0, 1) := by decide +kernel
theorem dc_98_12 : decode (ax_code 98) 12 = .ok (.aload_n 1, 1) := by decide +kernel
theorem dc_98_13 : decode (ax_code 98) 13 = .ok (.getfield 71, 3) := by decide +kernel
theorem dc_98_16 : decode (ax_code 98) 16 = .ok (.invokevirtual 87, 3) := by decide +kernel
theorem dc_98_19 : decode (ax_code 98) 19 = .ok (.ifCond .ne 4, 3) := by decide +kernel
theorem dc_98_22 : decode (ax_code 98) 22 = .ok (.return_, 1) := by decide +kernel
theorem dc_98_23 : decode (ax_code 98) 23 = .ok (.aload_n 0, 1) := by decide +kernel
theorem dc_98_24 : decode (ax_code 98) 24 = .ok (.getfield 25, 3) := by decide +kernel
theorem dc_98_27 : decode (ax_code 98) 27 = .ok (.istore_n 2, 1) := by decide +kernel
theorem dc_98_28 : decode (ax_code 98) 28 = .ok (.aload_n 0, 1) := by decide +kernel
theorem dc_98_29 : decode (ax_code 98) 29 = .ok (.getfield 21, 3) := by decide +kernel
theorem dc_98_32 : decode (ax_code 98) 32 = .ok (.iload_n 2, 1) := by decide +kernel
theorem dc_98_33 : decode (ax_code 98) 33 = .ok (.aload_n 1, 1) := by decide +kernel
theorem dc_98_34 : decode (ax_code 98) 34 = .ok (.aastore, 1) := by decide +kernel
theorem dc_98_35 : decode (ax_code 98) 35 = .ok (.aload_n 0, 1) := by decide +kernel
theorem dc_98_36 : decode (ax_code 98) 36 = .ok (.getfield 28, 3) := by decide +kernel
theorem dc_98_39 : decode (ax_code 98) 39 = .ok (.iload_n 2, 1) := by decide +kernel
theorem dc_98_40 : decode (ax_code 98) 40 = .ok (.aload_n 1, 1) := by decide +kernel
theorem dc_98_41 : decode (ax_code 98) 41 = .ok (.getfield 71, 3) := by decide +kernel
theorem dc_98_44 : decode (ax_code 98) 44 = .ok (.invokevirtual 53, 3) := by decide +kernel
theorem dc_98_47 : decode (ax_code 98) 47 = .ok (.ifCond .eq 10, 3) := by decide +kernel
theorem dc_98_50 : decode (ax_code 98) 50 = .ok (.aload_n 0, 1) := by decide +kernel
theorem dc_98_51 : decode (ax_code 98) 51 = .ok (.invokevirtual 59, 3) := by decide +kernel
theorem dc_98_54 : decode (ax_code 98) 54 = .ok (.goto 11, 3) := by decide +kernel
theorem dc_98_57 : decode (ax_code 98) 57 = .ok (.iconst 1, 1) := by decide +kernel
theorem dc_98_58 : decode (ax_code 98) 58 = .ok (.aload_n 1, 1) := by decide +kernel
theorem dc_98_59 : decode (ax_code 98) 59 = .ok (.getfield 91, 3) := by decide +kernel
theorem dc_98_62 : decode (ax_code 98) 62 = .ok (.invokestatic 94, 3) := by decide +kernel
theorem dc_98_65 : decode (ax_code 98) 65 = .ok (.iastore, 1) := by decide +kernel
theorem dc_98_66 : decode (ax_code 98) 66 = .ok (.aload_n 0, 1) := by decide +kernel
theorem dc_98_67 : decode (ax_code 98) 67 = .ok (.getfield 31, 3) := by decide +kernel
theorem dc_98_70 : decode (ax_code 98) 70 = .ok (.iload_n 2, 1) := by decide +kernel
theorem dc_98_71 : decode (ax_code 98) 71 = .ok (.iconst 1, 1) := by decide +kernel
theorem dc_98_72 : decode (ax_code 98) 72 = .ok (.iadd, 1) := by decide +kernel
theorem dc_98_73 : decode (ax_code 98) 73 = .ok (.aload_n 0, 1) := by decide +kernel
theorem dc_98_74 : decode (ax_code 98) 74 = .ok (.getfield 31, 3) := by decide +kernel
theorem dc_98_77 : decode (ax_code 98) 77 = .ok (.iload_n 2, 1) := by decide +kernel
theorem dc_98_78 : decode (ax_code 98) 78 = .ok (.iaload, 1) := by decide +kernel
theorem dc_98_79 : decode (ax_code 98) 79 = .ok (.aload_n 0, 1) := by decide +kernel
theorem dc_98_80 : decode (ax_code 98) 80 = .ok (.getfield 28, 3) := by decide +kernel
theorem dc_98_83 : decode (ax_code 98) 83 = .ok (.iload_n 2, 1) := by decide +kernel
theorem dc_98_84 : decode (ax_code 98) 84 = .ok (.iaload, 1) := by decide +kernel
theorem dc_98_85 : decode (ax_code 98) 85 = .ok (.imul, 1) := by decide +kernel
theorem dc_98_86 : decode (ax_code 98) 86 = .ok (.iastore, 1) := by decide +kernel
theorem dc_98_87 : decode (ax_code 98) 87 = .ok (.aload_n 0, 1) := by decide +kernel
theorem dc_98_88 : decode (ax_code 98) 88 = .ok (.aload_n 1, 1) := by decide +kernel
theorem dc_98_89 : decode (ax_code 98) 89 = .ok (.getfield 71, 3) := by decide +kernel
theorem dc_98_92 : decode (ax_code 98) 92 = .ok (.iload_n 2, 1) := by decide +kernel
theorem dc_98_93 : decode (ax_code 98) 93 = .ok (.invokevirtual 100, 3) := by decide +kernel
theorem dc_98_96 : decode (ax_code 98) 96 = .ok (.aload_n 0, 1) := by decide +kernel
theorem dc_98_97 : decode (ax_code 98) 97 = .ok (.aload_n 1, 1) := by decide +kernel
theorem dc_98_98 : decode (ax_code 98) 98 = .ok (.iload_n 2, 1) := by decide +kernel
theorem dc_98_99 : decode (ax_code 98) 99 = .ok (.invokevirtual 104, 3) := by decide +kernel
theorem dc_98_102 : decode (ax_code 98) 102 = .ok (.aload_n 0, 1) := by decide +kernel
theorem dc_98_103 : decode (ax_code 98) 103 = .ok (.dup, 1) := by decide +kernel
theorem dc_98_104 : decode (ax_code 98) 104 = .ok (.getfield 25, 3) := by decide +kernel
theorem dc_98_107 : decode (ax_code 98) 107 = .ok (.iconst 1, 1) := by decide +kernel
theorem dc_98_108 : decode (ax_code 98) 108 = .ok (.iadd, 1) := by decide +kernel
theorem dc_98_109 : decode (ax_code 98) 109 = .ok (.putfield 25, 3) := by decide +kernel
theorem dc_98_112 : decode (ax_code 98) 112 = .ok (.return_, 1) := by decide +kernel
theorem dc_99_0 : decode (ax_code 99) 0 = .ok (.aload_n 1, 1) := by decide +kernel
theorem dc_99_1 : decode (ax_code 99) 1 = .ok (.invokevirtual 53, 3) := by decide +kernel
theorem dc_99_4 : decode (ax_code 99) 4 = .ok (.ifCond .eq 10, 3) := by decide +kernel
theorem dc_99_7 : decode (ax_code 99) 7 = .ok (.aload_n 0, 1) := by decide +kernel
theorem dc_99_8 : decode (ax_code 99) 8 = .ok (.getfield 9, 3) := by decide +kernel
theorem dc_99_11 : decode (ax_code 99) 11 = .ok (.goto 9, 3) := by decide +kernel
theorem dc_99_14 : decode (ax_code 99) 14 = .ok (.aload_n 0, 1) := by decide +kernel
theorem dc_99_15 : decode (ax_code 99) 15 = .ok (.getfield 28, 3) := by decide +kernel
theorem dc_99_18 : decode (ax_code 99) 18 = .ok (.iload_n 2, 1) := by decide +kernel
theorem dc_99_19 : decode (ax_code 99) 19 = .ok (.iaload, 1) := by decide +kernel
theorem dc_99_20 : decode (ax_code 99) 20 = .ok (.istore_n 3, 1) := by decide +kernel
theorem dc_99_21 : decode (ax_code 99) 21 = .ok (.iconst 0, 1) := by decide +kernel
theorem dc_99_22 : decode (ax_code 99) 22 = .ok (.istore 4, 2) := by decide +kernel
theorem dc_99_24 : decode (ax_code 99) 24 = .ok (.iconst 0, 1) := by decide +kernel
theorem dc_99_25 : decode (ax_code 99) 25 = .ok (.istore 5, 2) := by decide +kernel
theorem dc_99_27 : decode (ax_code 99) 27 = .ok (.iload 5, 2) := by decide +kernel
theorem dc_99_29 : decode (ax_code 99) 29 = .ok (.aload_n 0, 1) := by decide +kernel
theorem dc_99_30 : decode (ax_code 99) 30 = .ok (.getfield 31, 3) := by decide +kernel
theorem dc_99_33 : decode (ax_code 99) 33 = .ok (.iload_n 2, 1) := by decide +kernel
theorem dc_99_34 : decode (ax_code 99) 34 = .ok (.iaload, 1) := by decide +kernel
theorem dc_99_35 : decode (ax_code 99) 35 = .ok (.if_icmp .ge 76, 3) := by decide +kernel
theorem dc_99_38 : decode (ax_code 99) 38 = .ok (.aload_n 1, 1) := by decide +kernel
theorem dc_99_39 : decode (ax_code 99) 39 = .ok (.invokevirtual 53, 3) := by decide +kernel
theorem dc_99_42 : decode (ax_code 99) 42 = .ok (.ifCond .eq 13, 3) := by decide +kernel
theorem dc_99_45 : decode (ax_code 99) 45 = .ok (.aload_n 0, 1) := by decide +kernel
theorem dc_99_46 : decode (ax_code 99) 46 = .ok (.iload 5, 2) := by decide +kernel
theorem dc_99_48 : decode (ax_code 99) 48 = .ok (.iload_n 2, 1) := by decide +kernel
theorem dc_99_49 : decode (ax_code 99) 49 = .ok (.invokevirtual 108, 3) := by decide +kernel
theorem dc_99_52 : decode (ax_code 99) 52 = .ok (.goto 4, 3) := by decide +kernel
theorem dc_99_55 : decode (ax_code 99) 55 = .ok (.iconst 0, 1) := by decide +kernel
theorem dc_99_56 : decode (ax_code 99) 56 = .ok (.istore 6, 2) := by decide +kernel
theorem dc_99_58 : decode (ax_code 99) 58 = .ok (.iconst 0, 1) := by decide +kernel
theorem dc_99_59 : decode (ax_code 99) 59 = .ok (.istore 7, 2) := by decide +kernel
theorem dc_99_61 : decode (ax_code 99) 61 = .ok (.iload 7, 2) := by decide +kernel
theorem dc_99_63 : decode (ax_code 99) 63 = .ok (.iload_n 3, 1) := by decide +kernel
theorem dc_99_64 : decode (ax_code 99) 64 = .ok (.if_icmp .ge 41, 3) := by decide +kernel
theorem dc_99_67 : decode (ax_code 99) 67 = .ok (.iload 6, 2) := by decide +kernel
theorem dc_99_69 : decode (ax_code 99) 69 = .ok (.iload 7, 2) := by decide +kernel
theorem dc_99_71 : decode (ax_code 99) 71 = .ok (.ishr, 1) := by decide +kernel
theorem dc_99_72 : decode (ax_code 99) 72 = .ok (.iconst 1, 1) := by decide +kernel
theorem dc_99_73 : decode (ax_code 99) 73 = .ok (.iand, 1) := by decide +kernel
theorem dc_99_74 : decode (ax_code 99) 74 = .ok (.ifCond .ne 25, 3) := by decide +kernel
theorem dc_99_77 : decode (ax_code 99) 77 = .ok (.iload 4, 2) := by decide +kernel
theorem dc_99_79 : decode (ax_code 99) 79 = .ok (.sipush 1620, 3) := by decide +kernel
theorem dc_99_82 : decode (ax_code 99) 82 = .ok (.if_icmp .ge 17, 3) := by decide +kernel
theorem dc_99_85 : decode (ax_code 99) 85 = .ok (.aload_n 0, 1) := by decide +kernel
theorem dc_99_86 : decode (ax_code 99) 86 = .ok (.getfield 39, 3) := by decide +kernel
theorem dc_99_89 : decode (ax_code 99) 89 = .ok (.iload_n 2, 1) := by decide +kernel
theorem dc_99_90 : decode (ax_code 99) 90 = .ok (.aaload, 1) := by decide +kernel
theorem dc_99_91 : decode (ax_code 99) 91 = .ok (.iload 4, 2) := by decide +kernel
theorem dc_99_93 : decode (ax_code 99) 93 = .ok (.iinc 4 1, 3) := by decide +kernel
theorem dc_99_96 : decode (ax_code 99) 96 = .ok (.iload 7, 2) := by decide +kernel
theorem dc_99_98 : decode (ax_code 99) 98 = .ok (.iastore, 1) := by decide +kernel
theorem dc_99_99 : decode (ax_code 99) 99 = .ok (.iinc 7 1, 3) := by decide +kernel
theorem dc_99_102 : decode (ax_code 99) 102 = .ok (.goto (-41), 3) := by decide +kernel
theorem dc_99_105 : decode (ax_code 99) 105 = .ok (.iinc 5 1, 3) := by decide +kernel
theorem dc_99_108 : decode (ax_code 99) 108 = .ok (.goto (-81), 3) := by decide +kernel
theorem dc_99_111 : decode (ax_code 99) 111 = .ok (.return_, 1) := by decide +kernel
theorem dc_100_0 : decode (ax_code 100) 0 = .ok (.aload_n 0, 1) := by decide +kernel
theorem dc_100_1 : decode (ax_code 100) 1 = .ok (.iload_n 1, 1) := by decide +kernel
theorem dc_100_2 : decode (ax_code 100) 2 = .ok (.iload_n 2, 1) := by decide +kernel
theorem dc_100_3 : decode (ax_code 100) 3 = .ok (.invokevirtual 111, 3) := by decide +kernel
theorem dc_100_6 : decode (ax_code 100) 6 = .ok (.iconst 0, 1) := by decide +kernel
theorem dc_100_7 : decode (ax_code 100) 7 = .ok (.istore_n 3, 1) := by decide +kernel
theorem dc_100_8 : decode (ax_code 100) 8 = .ok (.iconst 0, 1) := by decide +kernel
theorem dc_100_9 : decode (ax_code 100) 9 = .ok (.istore 4, 2) := by decide +kernel
theorem dc_100_11 : decode (ax_code 100) 11 = .ok (.iload 4, 2) := by decide +kernel
theorem dc_100_13 : decode (ax_code 100) 13 = .ok (.iload_n 2, 1) := by decide +kernel
theorem dc_100_14 : decode (ax_code 100) 14 = .ok (.if_icmp .ge 30, 3) := by decide +kernel
theorem dc_100_17 : decode (ax_code 100) 17 = .ok (.aload_n 0, 1) := by decide +kernel
theorem dc_100_18 : decode (ax_code 100) 18 = .ok (.iload 4, 2) := by decide +kernel
theorem dc_100_20 : decode (ax_code 100) 20 = .ok (.invokevirtual 63, 3) := by decide +kernel
theorem dc_100_23 : decode (ax_code 100) 23 = .ok (.ifCond .eq 15, 3) := by decide +kernel
theorem dc_100_26 : decode (ax_code 100) 26 = .ok (.iload_n 3, 1) := by decide +kernel
theorem dc_100_27 : decode (ax_code 100) 27 = .ok (.iconst 1, 1) := by decide +kernel
theorem dc_100_28 : decode (ax_code 100) 28 = .ok (.aload_n 0, 1) := by decide +kernel
theorem dc_100_29 : decode (ax_code 100) 29 = .ok (.getfield 42, 3) := by decide +kernel
theorem dc_100_32 : decode (ax_code 100) 32 = .ok (.iload 4, 2) := by decide +kernel
theorem dc_100_34 : decode (ax_code 100) 34 = .ok (.iaload, 1) := by decide +kernel
theorem dc_100_35 : decode (ax_code 100) 35 = .ok (.ishl, 1) := by decide +kernel
theorem dc_100_36 : decode (ax_code 100) 36 = .ok (.ior, 1) := by decide +kernel
theorem dc_100_37 : decode (ax_code 100) 37 = .ok (.istore_n 3, 1) := by decide +kernel
theorem dc_100_38 : decode (ax_code 100) 38 = .ok (.iinc 4 1, 3) := by decide +kernel
theorem dc_100_41 : decode (ax_code 100) 41 = .ok (.goto (-30), 3) := by decide +kernel
theorem dc_100_44 : decode (ax_code 100) 44 = .ok (.iload_n 3, 1) := by decide +kernel
theorem dc_100_45 : decode (ax_code 100) 45 = .ok (.ireturn, 1) := by decide +kernel
theorem dc_101_0 : decode (ax_code 101) 0 = .ok (.iconst 1, 1) := by decide +kernel
theorem dc_101_1 : decode (ax_code 101) 1 = .ok (.aload_n 1, 1) := by decide +kernel
theorem dc_101_2 : decode (ax_code 101) 2 = .ok (.getfield 81, 3) := by decide +kernel
theorem dc_101_5 : decode (ax_code 101) 5 = .ok (.ishl, 1) := by decide +kernel
theorem dc_101_6 : decode (ax_code 101) 6 = .ok (.istore_n 3, 1) := by decide +kernel
theorem dc_101_7 : decode (ax_code 101) 7 = .ok (.iconst 0, 1) := by decide +kernel
theorem dc_101_8 : decode (ax_code 101) 8 = .ok (.istore 4, 2) := by decide +kernel
theorem dc_101_10 : decode (ax_code 101) 10 = .ok (.iload 4, 2) := by decide +kernel
theorem dc_101_12 : decode (ax_code 101) 12 = .ok (.iload_n 2, 1) := by decide +kernel
theorem dc_101_13 : decode (ax_code 101) 13 = .ok (.if_icmp .ge 72, 3) := by decide +kernel
theorem dc_101_16 : decode (ax_code 101) 16 = .ok (.aload_n 0, 1) := by decide +kernel
theorem dc_101_17 : decode (ax_code 101) 17 = .ok (.getfield 36, 3) := by decide +kernel
theorem dc_101_20 : decode (ax_code 101) 20 = .ok (.iload_n 2, 1) := by decide +kernel
theorem dc_101_21 : decode (ax_code 101) 21 = .ok (.aaload, 1) := by decide +kernel
theorem dc_101_22 : decode (ax_code 101) 22 = .ok (.iload 4, 2) := by decide +kernel
theorem dc_101_24 : decode (ax_code 101) 24 = .ok (.iaload, 1) := by decide +kernel
theorem dc_101_25 : decode (ax_code 101) 25 = .ok (.istore 5, 2) := by decide +kernel
theorem dc_101_27 : decode (ax_code 101) 27 = .ok (.aload_n 1, 1) := by decide +kernel
theorem dc_101_28 : decode (ax_code 101) 28 = .ok (.getfield 71, 3) := by decide +kernel
theorem dc_101_31 : decode (ax_code 101) 31 = .ok (.getstatic 115, 3) := by decide +kernel
theorem dc_101_34 : decode (ax_code 101) 34 = .ok (.if_acmp .ne 14, 3) := by decide +kernel
theorem dc_101_37 : decode (ax_code 101) 37 = .ok (.iload 5, 2) := by decide +kernel
theorem dc_101_39 : decode (ax_code 101) 39 = .ok (.iload_n 3, 1) := by decide +kernel
theorem dc_101_40 : decode (ax_code 101) 40 = .ok (.iand, 1) := by decide +kernel
theorem dc_101_41 : decode (ax_code 101) 41 = .ok (.ifCond .eq 7, 3) := by decide +kernel
theorem dc_101_44 : decode (ax_code 101) 44 = .ok (.bipush 7, 2) := by decide +kernel
theorem dc_101_46 : decode (ax_code 101) 46 = .ok (.istore 5, 2) := by decide +kernel
theorem dc_101_48 : decode (ax_code 101) 48 = .ok (.aload_n 1, 1) := by decide +kernel
theorem dc_101_49 : decode (ax_code 101) 49 = .ok (.getfield 71, 3) := by decide +kernel
theorem dc_101_52 : decode (ax_code 101) 52 = .ok (.getstatic 118, 3) := by decide +kernel
theorem dc_101_55 : decode (ax_code 101) 55 = .ok (.if_acmp .ne 11, 3) := by decide +kernel
theorem dc_101_58 : decode (ax_code 101) 58 = .ok (.iload 5, 2) := by decide +kernel
theorem dc_101_60 : decode (ax_code 101) 60 = .ok (.iload_n 3, 1) := by decide +kernel
theorem dc_101_61 : decode (ax_code 101) 61 = .ok (.iconst (-1), 1) := by decide +kernel
theorem dc_101_62 : decode (ax_code 101) 62 = .ok (.ixor, 1) := by decide +kernel
theorem dc_101_63 : decode (ax_code 101) 63 = .ok (.iand, 1) := by decide +kernel
theorem dc_101_64 : decode (ax_code 101) 64 = .ok (.istore 5, 2) := by decide +kernel
theorem dc_101_66 : decode (ax_code 101) 66 = .ok (.aload_n 0, 1) := by decide +kernel
theorem dc_101_67 : decode (ax_code 101) 67 = .ok (.getfield 36, 3) := by decide +kernel
theorem dc_101_70 : decode (ax_code 101) 70 = .ok (.iload_n 2, 1) := by decide +kernel
theorem dc_101_71 : decode (ax_code 101) 71 = .ok (.iconst 1, 1) := by decide +kernel
theorem dc_101_72 : decode (ax_code 101) 72 = .ok (.iadd, 1) := by decide +kernel
theorem dc_101_73 : decode (ax_code 101) 73 = .ok (.aaload, 1) := by decide +kernel
theorem dc_101_74 : decode (ax_code 101) 74 = .ok (.iload 4, 2) := by decide +kernel
theorem dc_101_76 : decode (ax_code 101) 76 = .ok (.iload 5, 2) := by decide +kernel
theorem dc_101_78 : decode (ax_code 101) 78 = .ok (.iastore, 1) := by decide +kernel
theorem dc_101_79 : decode (ax_code 101) 79 = .ok (.iinc 4 1, 3) := by decide +kernel
theorem dc_101_82 : decode (ax_code 101) 82 = .ok (.goto (-72), 3) := by decide +kernel
theorem dc_101_85 : decode (ax_code 101) 85 = .ok (.aload_n 0, 1) := by decide +kernel
theorem dc_101_86 : decode (ax_code 101) 86 = .ok (.getfield 36, 3) := by decide +kernel
theorem dc_101_89 : decode (ax_code 101) 89 = .ok (.iload_n 2, 1) := by decide +kernel
theorem dc_101_90 : decode (ax_code 101) 90 = .ok (.iconst 1, 1) := by decide +kernel
theorem dc_101_91 : decode (ax_code 101) 91 = .ok (.iadd, 1) := by decide +kernel
theorem dc_101_92 : decode (ax_code 101) 92 = .ok (.aaload, 1) := by decide +kernel
theorem dc_101_93 : decode (ax_code 101) 93 = .ok (.iload_n 2, 1) := by decide +kernel
theorem dc_101_94 : decode (ax_code 101) 94 = .ok (.aload_n 1, 1) := by decide +kernel
theorem dc_101_95 : decode (ax_code 101) 95 = .ok (.getfield 71, 3) := by decide +kernel
theorem dc_101_98 : decode (ax_code 101) 98 = .ok (.invokevirtual 121, 3) := by decide +kernel
theorem dc_101_101 : decode (ax_code 101) 101 = .ok (.ifCond .eq 7, 3) := by decide +kernel
theorem dc_101_104 : decode (ax_code 101) 104 = .ok (.iload_n 3, 1) := by decide +kernel
theorem dc_101_105 : decode (ax_code 101) 105 = .ok (.goto 5, 3) := by decide +kernel
theorem dc_101_108 : decode (ax_code 101) 108 = .ok (.bipush 7, 2) := by decide +kernel
theorem dc_101_110 : decode (ax_code 101) 110 = .ok (.iastore, 1) := by decide +kernel
theorem dc_101_111 : decode (ax_code 101) 111 = .ok (.return_, 1) := by decide +kernel
theorem dc_102_0 : decode (ax_code 102) 0 = .ok (.aload_n 0, 1) := by decide +kernel
theorem dc_102_1 : decode (ax_code 102) 1 = .ok (.getstatic 3, 3) := by decide +kernel
theorem dc_102_4 : decode (ax_code 102) 4 = .ok (.if_acmp .eq 17, 3) := by decide +kernel
theorem dc_102_7 : decode (ax_code 102) 7 = .ok (.aload_n 0, 1) := by decide +kernel
theorem dc_102_8 : decode (ax_code 102) 8 = .ok (.getstatic 13, 3) := by decide +kernel
theorem dc_102_11 : decode (ax_code 102) 11 = .ok (.if_acmp .eq 10, 3) := by decide +kernel
theorem dc_102_14 : decode (ax_code 102) 14 = .ok (.aload_n 0, 1) := by decide +kernel
theorem dc_102_15 : decode (ax_code 102) 15 = .ok (.getstatic 25, 3) := by decide +kernel
theorem dc_102_18 : decode (ax_code 102) 18 = .ok (.if_acmp .ne 7, 3) := by decide +kernel
theorem dc_102_21 : decode (ax_code 102) 21 = .ok (.iconst 1, 1) := by decide +kernel
theorem dc_102_22 : decode (ax_code 102) 22 = .ok (.goto 4, 3) := by decide +kernel
theorem dc_102_25 : decode (ax_code 102) 25 = .ok (.iconst 0, 1) := by decide +kernel
theorem dc_102_26 : decode (ax_code 102) 26 = .ok (.ireturn, 1) := by decide +kernel
theorem dc_103_0 : decode (ax_code 103) 0 = .ok (.iload_n 1, 1) := by decide +kernel
theorem dc_103_1 : decode (ax_code 103) 1 = .ok (.ifCond .lt 19, 3) := by decide +kernel
theorem dc_103_4 : decode (ax_code 103) 4 = .ok (.iload_n 1, 1) := by decide +kernel
theorem dc_103_5 : decode (ax_code 103) 5 = .ok (.iconst 4, 1) := by decide +kernel
theorem dc_103_6 : decode (ax_code 103) 6 = .ok (.if_icmp .gt 14, 3) := by decide +kernel
theorem dc_103_9 : decode (ax_code 103) 9 = .ok (.iload 6, 2) := by decide +kernel
theorem dc_103_11 : decode (ax_code 103) 11 = .ok (.ifCond .lt 9, 3) := by decide +kernel
theorem dc_103_14 : decode (ax_code 103) 14 = .ok (.iload 6, 2) := by decide +kernel
theorem dc_103_16 : decode (ax_code 103) 16 = .ok (.iconst 4, 1) := by decide +kernel
theorem dc_103_17 : decode (ax_code 103) 17 = .ok (.if_icmp .le 6, 3) := by decide +kernel
theorem dc_103_20 : decode (ax_code 103) 20 = .ok (.bipush (-2), 2) := by decide +kernel
theorem dc_103_22 : decode (ax_code 103) 22 = .ok (.ireturn, 1) := by decide +kernel
theorem dc_103_23 : decode (ax_code 103) 23 = .ok (.iload_n 2, 1) := by decide +kernel
theorem dc_103_24 : decode (ax_code 103) 24 = .ok (.ifCond .lt 19, 3) := by decide +kernel
theorem dc_103_27 : decode (ax_code 103) 27 = .ok (.iload_n 2, 1) := by decide +kernel
theorem dc_103_28 : decode (ax_code 103) 28 = .ok (.bipush 8, 2) := by decide +kernel
theorem dc_103_30 : decode (ax_code 103) 30 = .ok (.if_icmp .ge 13, 3) := by decide +kernel
theorem dc_103_33 : decode (ax_code 103) 33 = .ok (.iload_n 3, 1) := by decide +kernel
theorem dc_103_34 : decode (ax_code 103) 34 = .ok (.ifCond .lt 9, 3) := by decide +kernel
theorem dc_103_37 : decode (ax_code 103) 37 = .ok (.iload_n 3, 1) := by decide +kernel
theorem dc_103_38 : decode (ax_code 103) 38 = .ok (.bipush 8, 2) := by decide +kernel
theorem dc_103_40 : decode (ax_code 103) 40 = .ok (.if_icmp .lt 6, 3) := by decide +kernel
theorem dc_103_43 : decode (ax_code 103) 43 = .ok (.bipush (-2), 2) := by decide +kernel
theorem dc_103_45 : decode (ax_code 103) 45 = .ok (.ireturn, 1) := by decide +kernel
theorem dc_103_46 : decode (ax_code 103) 46 = .ok (.iload 4, 2) := by decide +kernel
theorem dc_103_48 : decode (ax_code 103) 48 = .ok (.invokestatic 173, 3) := by decide +kernel
theorem dc_103_51 : decode (ax_code 103) 51 = .ok (.ifCond .eq 32, 3) := by decide +kernel
theorem dc_103_54 : decode (ax_code 103) 54 = .ok (.iload 5, 2) := by decide +kernel
theorem dc_103_56 : decode (ax_code 103) 56 = .ok (.invokestatic 173, 3) := by decide +kernel
theorem dc_103_59 : decode (ax_code 103) 59 = .ok (.ifCond .eq 24, 3) := by decide +kernel
theorem dc_103_62 : decode (ax_code 103) 62 = .ok (.iload 4, 2) := by decide +kernel
theorem dc_103_64 : decode (ax_code 103) 64 = .ok (.iload 5, 2) := by decide +kernel
theorem dc_103_66 : decode (ax_code 103) 66 = .ok (.if_icmp .eq 17, 3) := by decide +kernel
theorem dc_103_69 : decode (ax_code 103) 69 = .ok (.iload 7, 2) := by decide +kernel
theorem dc_103_71 : decode (ax_code 103) 71 = .ok (.bipush (-99), 2) := by decide +kernel
theorem dc_103_73 : decode (ax_code 103) 73 = .ok (.if_icmp .lt 10, 3) := by decide +kernel
theorem dc_103_76 : decode (ax_code 103) 76 = .ok (.iload 7, 2) := by decide +kernel
theorem dc_103_78 : decode (ax_code 103) 78 = .ok (.bipush 99, 2) := by decide +kernel
theorem dc_103_80 : decode (ax_code 103) 80 = .ok (.if_icmp .le 6, 3) := by decide +kernel
theorem dc_103_83 : decode (ax_code 103) 83 = .ok (.bipush (-2), 2) := by decide +kernel
theorem dc_103_85 : decode (ax_code 103) 85 = .ok (.ireturn, 1) := by decide +kernel
theorem dc_103_86 : decode (ax_code 103) 86 = .ok (.aload_n 0, 1) := by decide +kernel
theorem dc_103_87 : decode (ax_code 103) 87 = .ok (.getfield 10, 3) := by decide +kernel
theorem dc_103_90 : decode (ax_code 103) 90 = .ok (.getfield 253, 3) := by decide +kernel
theorem dc_103_93 : decode (ax_code 103) 93 = .ok (.bipush 8, 2) := by decide +kernel
theorem dc_103_95 : decode (ax_code 103) 95 = .ok (.if_icmp .lt 6, 3) := by decide +kernel
theorem dc_103_98 : decode (ax_code 103) 98 = .ok (.bipush (-4), 2) := by decide +kernel
theorem dc_103_100 : decode (ax_code 103) 100 = .ok (.ireturn, 1) := by decide +kernel
theorem dc_103_101 : decode (ax_code 103) 101 = .ok (.aload_n 0, 1) := by decide +kernel
theorem dc_103_102 : decode (ax_code 103) 102 = .ok (.getfield 10, 3) := by decide +kernel
theorem dc_103_105 : decode (ax_code 103) 105 = .ok (.getfield 256, 3) := by decide +kernel
theorem dc_103_108 : decode (ax_code 103) 108 = .ok (.aload_n 0, 1) := by decide +kernel
theorem dc_103_109 : decode (ax_code 103) 109 = .ok (.getfield 10, 3) := by decide +kernel
theorem dc_103_112 : decode (ax_code 103) 112 = .ok (.getfield 253, 3) := by decide +kernel
theorem dc_103_115 : decode (ax_code 103) 115 = .ok (.new 251, 3) := by decide +kernel
theorem dc_103_118 : decode (ax_code 103) 118 = .ok (.dup, 1) := by decide +kernel
theorem dc_103_119 : decode (ax_code 103) 119 = .ok (.iload_n 1, 1) := by decide +kernel
theorem dc_103_120 : decode (ax_code 103) 120 = .ok (.iload_n 2, 1) := by decide +kernel
theorem dc_103_121 : decode (ax_code 103) 121 = .ok (.iload_n 3, 1) := by decide +kernel
theorem dc_103_122 : decode (ax_code 103) 122 = .ok (.aload_n 0, 1) := by decide +kernel
theorem dc_103_123 : decode (ax_code 103) 123 = .ok (.getfield 10, 3) := by decide +kernel
theorem dc_103_126 : decode (ax_code 103) 126 = .ok (.iload_n 2, 1) := by decide +kernel
theorem dc_103_127 : decode (ax_code 103) 127 = .ok (.invokevirtual 260, 3) := by decide +kernel
theorem dc_103_130 : decode (ax_code 103) 130 = .ok (.invokespecial 264, 3) := by decide +kernel
theorem dc_103_133 : decode (ax_code 103) 133 = .ok (.aastore, 1) := by decide +kernel
theorem dc_103_134 : decode (ax_code 103) 134 = .ok (.aload_n 0, 1) := by decide +kernel
theorem dc_103_135 : decode (ax_code 103) 135 = .ok (.getfield 10, 3) := by decide +kernel
theorem dc_103_138 : decode (ax_code 103) 138 = .ok (.getfield 267, 3) := by decide +kernel
theorem dc_103_141 : decode (ax_code 103) 141 = .ok (.aload_n 0, 1) := by decide +kernel
theorem dc_103_142 : decode (ax_code 103) 142 = .ok (.getfield 10, 3) := by decide +kernel
theorem dc_103_145 : decode (ax_code 103) 145 = .ok (.getfield 253, 3) := by decide +kernel
theorem dc_103_148 : decode (ax_code 103) 148 = .ok (.new 67, 3) := by decide +kernel
theorem dc_103_151 : decode (ax_code 103) 151 = .ok (.dup, 1) := by decide +kernel
theorem dc_103_152 : decode (ax_code 103) 152 = .ok (.iload 6, 2) := by decide +kernel
theorem dc_103_154 : decode (ax_code 103) 154 = .ok (.iload_n 2, 1) := by decide +kernel
theorem dc_103_155 : decode (ax_code 103) 155 = .ok (.iload_n 3, 1) := by decide +kernel
theorem dc_103_156 : decode (ax_code 103) 156 = .ok (.iload 7, 2) := by decide +kernel
theorem dc_103_158 : decode (ax_code 103) 158 = .ok (.aload_n 0, 1) := by decide +kernel
theorem dc_103_159 : decode (ax_code 103) 159 = .ok (.getfield 10, 3) := by decide +kernel
theorem dc_103_162 : decode (ax_code 103) 162 = .ok (.iload_n 2, 1) := by decide +kernel
theorem dc_103_163 : decode (ax_code 103) 163 = .ok (.invokevirtual 270, 3) := by decide +kernel
theorem dc_103_166 : decode (ax_code 103) 166 = .ok (.invokespecial 274, 3) := by decide +kernel
theorem dc_103_169 : decode (ax_code 103) 169 = .ok (.aastore, 1) := by decide +kernel
theorem dc_103_170 : decode (ax_code 103) 170 = .ok (.aload_n 0, 1) := by decide +kernel
theorem dc_103_171 : decode (ax_code 103) 171 = .ok (.getfield 10, 3) := by decide +kernel
theorem dc_103_174 : decode (ax_code 103) 174 = .ok (.getfield 277, 3) := by decide +kernel
theorem dc_103_177 : decode (ax_code 103) 177 = .ok (.aload_n 0, 1) := by decide +kernel
theorem dc_103_178 : decode (ax_code 103) 178 = .ok (.getfield 10, 3) := by decide +kernel
theorem dc_103_181 : decode (ax_code 103) 181 = .ok (.getfield 253, 3) := by decide +kernel
theorem dc_103_184 : decode (ax_code 103) 184 = .ok (.iload 4, 2) := by decide +kernel
theorem dc_103_186 : decode (ax_code 103) 186 = .ok (.iastore, 1) := by decide +kernel
theorem dc_103_187 : decode (ax_code 103) 187 = .ok (.aload_n 0, 1) := by decide +kernel
theorem dc_103_188 : decode (ax_code 103) 188 = .ok (.getfield 10, 3) := by decide +kernel
theorem dc_103_191 : decode (ax_code 103) 191 = .ok (.getfield 280, 3) := by decide +kernel
theorem dc_103_194 : decode (ax_code 103) 194 = .ok (.aload_n 0, 1) := by decide +kernel
theorem dc_103_195 : decode (ax_code 103) 195 = .ok (.getfield 10, 3) := by decide +kernel
theorem dc_103_198 : decode (ax_code 103) 198 = .ok (.getfield 253, 3) := by decide +kernel
theorem dc_103_201 : decode (ax_code 103) 201 = .ok (.iload 5, 2) := by decide +kernel
theorem dc_103_203 : decode (ax_code 103) 203 = .ok (.iastore, 1) := by decide +kernel
theorem dc_103_204 : decode (ax_code 103) 204 = .ok (.aload_n 0, 1) := by decide +kernel
theorem dc_103_205 : decode (ax_code 103) 205 = .ok (.getfield 10, 3) := by decide +kernel
theorem dc_103_208 : decode (ax_code 103) 208 = .ok (.dup, 1) := by decide +kernel
theorem dc_103_209 : decode (ax_code 103) 209 = .ok (.getfield 253, 3) := by decide +kernel
theorem dc_103_212 : decode (ax_code 103) 212 = .ok (.iconst 1, 1) := by decide +kernel
theorem dc_103_213 : decode (ax_code 103) 213 = .ok (.iadd, 1) := by decide +kernel
theorem dc_103_214 : decode (ax_code 103) 214 = .ok (.putfield 253, 3) := by decide +kernel
theorem dc_103_217 : decode (ax_code 103) 217 = .ok (.aload_n 0, 1) := by decide +kernel
theorem dc_103_218 : decode (ax_code 103) 218 = .ok (.getfield 10, 3) := by decide +kernel
theorem dc_103_221 : decode (ax_code 103) 221 = .ok (.getfield 253, 3) := by decide +kernel
theorem dc_103_224 : decode (ax_code 103) 224 = .ok (.iconst 1, 1) := by decide +kernel
theorem dc_103_225 : decode (ax_code 103) 225 = .ok (.isub, 1) := by decide +kernel
theorem dc_103_226 : decode (ax_code 103) 226 = .ok (.ireturn, 1) := by decide +kernel
theorem dc_104_0 : decode (ax_code 104) 0 = .ok (.aload_n 0, 1) := by decide +kernel
theorem dc_104_1 : decode (ax_code 104) 1 = .ok (.invokespecial 3, 3) := by decide +kernel
theorem dc_104_4 : decode (ax_code 104) 4 = .ok (.aload_n 0, 1) := by decide +kernel
theorem dc_104_5 : decode (ax_code 104) 5 = .ok (.iload_n 1, 1) := by decide +kernel
theorem dc_104_6 : decode (ax_code 104) 6 = .ok (.putfield 9, 3) := by decide +kernel
theorem dc_104_9 : decode (ax_code 104) 9 = .ok (.aload_n 0, 1) := by decide +kernel
theorem dc_104_10 : decode (ax_code 104) 10 = .ok (.iload_n 2, 1) := by decide +kernel
theorem dc_104_11 : decode (ax_code 104) 11 = .ok (.putfield 15, 3) := by decide +kernel
theorem dc_104_14 : decode (ax_code 104) 14 = .ok (.aload_n 0, 1) := by decide +kernel
theorem dc_104_15 : decode (ax_code 104) 15 = .ok (.iload_n 3, 1) := by decide +kernel
theorem dc_104_16 : decode (ax_code 104) 16 = .ok (.putfield 18, 3) := by decide +kernel
theorem dc_104_19 : decode (ax_code 104) 19 = .ok (.aload_n 0, 1) := by decide +kernel
theorem dc_104_20 : decode (ax_code 104) 20 = .ok (.aload 4, 2) := by decide +kernel
theorem dc_104_22 : decode (ax_code 104) 22 = .ok (.putfield 21, 3) := by decide +kernel
theorem dc_104_25 : decode (ax_code 104) 25 = .ok (.return_, 1) := by decide +kernel
theorem dc_105_0 : decode (ax_code 105) 0 = .ok (.aload_n 0, 1) := by decide +kernel
theorem dc_105_1 : decode (ax_code 105) 1 = .ok (.invokespecial 3, 3) := by decide +kernel
theorem dc_105_4 : decode (ax_code 105) 4 = .ok (.aload_n 0, 1) := by decide +kernel
theorem dc_105_5 : decode (ax_code 105) 5 = .ok (.iload_n 1, 1) := by decide +kernel
theorem dc_105_6 : decode (ax_code 105) 6 = .ok (.putfield 9, 3) := by decide +kernel
theorem dc_105_9 : decode (ax_code 105) 9 = .ok (.aload_n 0, 1) := by decide +kernel
theorem dc_105_10 : decode (ax_code 105) 10 = .ok (.iload_n 2, 1) := by decide +kernel
theorem dc_105_11 : decode (ax_code 105) 11 = .ok (.putfield 15, 3) := by decide +kernel
theorem dc_105_14 : decode (ax_code 105) 14 = .ok (.aload_n 0, 1) := by decide +kernel
theorem dc_105_15 : decode (ax_code 105) 15 = .ok (.iload_n 3, 1) := by decide +kernel
theorem dc_105_16 : decode (ax_code 105) 16 = .ok (.putfield 18, 3) := by decide +kernel
theorem dc_105_19 : decode (ax_code 105) 19 = .ok (.aload_n 0, 1) := by decide +kernel
theorem dc_105_20 : decode (ax_code 105) 20 = .ok (.iload 4, 2) := by decide +kernel
theorem dc_105_22 : decode (ax_code 105) 22 = .ok (.putfield 21, 3) := by decide +kernel
theorem dc_105_25 : decode (ax_code 105) 25 = .ok (.aload_n 0, 1) := by decide +kernel
theorem dc_105_26 : decode (ax_code 105) 26 = .ok (.aload 5, 2) := by decide +kernel
theorem dc_105_28 : decode (ax_code 105) 28 = .ok (.putfield 24, 3) := by decide +kernel
theorem dc_105_31 : decode (ax_code 105) 31 = .ok (.return_, 1) := by decide +kernel
theorem dc_106_0 : decode (ax_code 106) 0 = .ok (.iload_n 2, 1) := by decide +kernel
theorem dc_106_1 : decode (ax_code 106) 1 = .ok (.istore_n 3, 1) := by decide +kernel
theorem dc_106_2 : decode (ax_code 106) 2 = .ok (.iconst 0, 1) := by decide +kernel
theorem dc_106_3 : decode (ax_code 106) 3 = .ok (.istore 4, 2) := by decide +kernel
theorem dc_106_5 : decode (ax_code 106) 5 = .ok (.iconst 0, 1) := by decide +kernel
theorem dc_106_6 : decode (ax_code 106) 6 = .ok (.istore 5, 2) := by decide +kernel
theorem dc_106_8 : decode (ax_code 106) 8 = .ok (.iconst 0, 1) := by decide +kernel
theorem dc_106_9 : decode (ax_code 106) 9 = .ok (.istore 6, 2) := by decide +kernel
theorem dc_106_11 : decode (ax_code 106) 11 = .ok (.iload 6, 2) := by decide +kernel
theorem dc_106_13 : decode (ax_code 106) 13 = .ok (.iconst 3, 1) := by decide +kernel
theorem dc_106_14 : decode (ax_code 106) 14 = .ok (.if_icmp .ge 117, 3) := by decide +kernel
theorem dc_106_17 : decode (ax_code 106) 17 = .ok (.iload 5, 2) := by decide +kernel
theorem dc_106_19 : decode (ax_code 106) 19 = .ok (.ifCond .ne 112, 3) := by decide +kernel
theorem dc_106_22 : decode (ax_code 106) 22 = .ok (.aload_n 1, 1) := by decide +kernel
theorem dc_106_23 : decode (ax_code 106) 23 = .ok (.iload 6, 2) := by decide +kernel
theorem dc_106_25 : decode (ax_code 106) 25 = .ok (.invokevirtual 77, 3) := by decide +kernel
theorem dc_106_28 : decode (ax_code 106) 28 = .ok (.astore 7, 2) := by decide +kernel
theorem dc_106_30 : decode (ax_code 106) 30 = .ok (.aload 7, 2) := by decide +kernel
theorem dc_106_32 : decode (ax_code 106) 32 = .ok (.arraylength, 1) := by decide +kernel
theorem dc_106_33 : decode (ax_code 106) 33 = .ok (.istore 8, 2) := by decide +kernel
theorem dc_106_35 : decode (ax_code 106) 35 = .ok (.iconst 0, 1) := by decide +kernel
theorem dc_106_36 : decode (ax_code 106) 36 = .ok (.istore 9, 2) := by decide +kernel
theorem dc_106_38 : decode (ax_code 106) 38 = .ok (.iload 9, 2) := by decide +kernel
theorem dc_106_40 : decode (ax_code 106) 40 = .ok (.iload 8, 2) := by decide +kernel
theorem dc_106_42 : decode (ax_code 106) 42 = .ok (.if_icmp .ge 83, 3) := by decide +kernel
theorem dc_106_45 : decode (ax_code 106) 45 = .ok (.aload 7, 2) := by decide +kernel
theorem dc_106_47 : decode (ax_code 106) 47 = .ok (.iload 9, 2) := by decide +kernel
theorem dc_106_49 : decode (ax_code 106) 49 = .ok (.aaload, 1) := by decide +kernel
theorem dc_106_50 : decode (ax_code 106) 50 = .ok (.astore 10, 2) := by decide +kernel
theorem dc_106_52 : decode (ax_code 106) 52 = .ok (.iload_n 3, 1) := by decide +kernel
theorem dc_106_53 : decode (ax_code 106) 53 = .ok (.ldc 81, 2) := by decide +kernel
theorem dc_106_55 : decode (ax_code 106) 55 = .ok (.imul, 1) := by decide +kernel
theorem dc_106_56 : decode (ax_code 106) 56 = .ok (.sipush 12345, 3) := by decide +kernel
theorem dc_106_59 : decode (ax_code 106) 59 = .ok (.iadd, 1) := by decide +kernel
theorem dc_106_60 : decode (ax_code 106) 60 = .ok (.istore_n 3, 1) := by decide +kernel
theorem dc_106_61 : decode (ax_code 106) 61 = .ok (.iload 5, 2) := by decide +kernel
theorem dc_106_63 : decode (ax_code 106) 63 = .ok (.ifCond .ne 41, 3) := by decide +kernel
theorem dc_106_66 : decode (ax_code 106) 66 = .ok (.aload_n 1, 1) := by decide +kernel
theorem dc_106_67 : decode (ax_code 106) 67 = .ok (.iload 6, 2) := by decide +kernel
theorem dc_106_69 : decode (ax_code 106) 69 = .ok (.aload 10, 2) := by decide +kernel
theorem dc_106_71 : decode (ax_code 106) 71 = .ok (.iconst 0, 1) := by decide +kernel
theorem dc_106_72 : decode (ax_code 106) 72 = .ok (.iaload, 1) := by decide +kernel
theorem dc_106_73 : decode (ax_code 106) 73 = .ok (.aload 10, 2) := by decide +kernel
theorem dc_106_75 : decode (ax_code 106) 75 = .ok (.iconst 1, 1) := by decide +kernel
theorem dc_106_76 : decode (ax_code 106) 76 = .ok (.iaload, 1) := by decide +kernel
theorem dc_106_77 : decode (ax_code 106) 77 = .ok (.iload_n 3, 1) := by decide +kernel
theorem dc_106_78 : decode (ax_code 106) 78 = .ok (.bipush 8, 2) := by decide +kernel
theorem dc_106_80 : decode (ax_code 106) 80 = .ok (.iushr, 1) := by decide +kernel
theorem dc_106_81 : decode (ax_code 106) 81 = .ok (.aload_n 1, 1) := by decide +kernel
theorem dc_106_82 : decode (ax_code 106) 82 = .ok (.getfield 61, 3) := by decide +kernel
theorem dc_106_85 : decode (ax_code 106) 85 = .ok (.aload 10, 2) := by decide +kernel
theorem dc_106_87 : decode (ax_code 106) 87 = .ok (.iconst 0, 1) := by decide +kernel
theorem dc_106_88 : decode (ax_code 106) 88 = .ok (.iaload, 1) := by decide +kernel
theorem dc_106_89 : decode (ax_code 106) 89 = .ok (.iaload, 1) := by decide +kernel
theorem dc_106_90 : decode (ax_code 106) 90 = .ok (.irem, 1) := by decide +kernel
theorem dc_106_91 : decode (ax_code 106) 91 = .ok (.invokevirtual 82, 3) := by decide +kernel
theorem dc_106_94 : decode (ax_code 106) 94 = .ok (.ifCond .ne 7, 3) := by decide +kernel
theorem dc_106_97 : decode (ax_code 106) 97 = .ok (.iconst 1, 1) := by decide +kernel
theorem dc_106_98 : decode (ax_code 106) 98 = .ok (.goto 4, 3) := by decide +kernel
theorem dc_106_101 : decode (ax_code 106) 101 = .ok (.iconst 0, 1) := by decide +kernel
theorem dc_106_102 : decode (ax_code 106) 102 = .ok (.istore 5, 2) := by decide +kernel
theorem dc_106_104 : decode (ax_code 106) 104 = .ok (.iload 4, 2) := by decide +kernel
theorem dc_106_106 : decode (ax_code 106) 106 = .ok (.iload 5, 2) := by decide +kernel
theorem dc_106_108 : decode (ax_code 106) 108 = .ok (.ifCond .eq 7, 3) := by decide +kernel
theorem dc_106_111 : decode (ax_code 106) 111 = .ok (.iconst 0, 1) := by decide +kernel
theorem dc_106_112 : decode (ax_code 106) 112 = .ok (.goto 4, 3) := by decide +kernel
theorem dc_106_115 : decode (ax_code 106) 115 = .ok (.iconst 1, 1) := by decide +kernel
theorem dc_106_116 : decode (ax_code 106) 116 = .ok (.iadd, 1) := by decide +kernel
theorem dc_106_117 : decode (ax_code 106) 117 = .ok (.istore 4, 2) := by decide +kernel
theorem dc_106_119 : decode (ax_code 106) 119 = .ok (.iinc 9 1, 3) := by decide +kernel
theorem dc_106_122 : decode (ax_code 106) 122 = .ok (.goto (-84), 3) := by decide +kernel
theorem dc_106_125 : decode (ax_code 106) 125 = .ok (.iinc 6 1, 3) := by decide +kernel
theorem dc_106_128 : decode (ax_code 106) 128 = .ok (.goto (-117), 3) := by decide +kernel
theorem dc_106_131 : decode (ax_code 106) 131 = .ok (.aload_n 0, 1) := by decide +kernel
theorem dc_106_132 : decode (ax_code 106) 132 = .ok (.iload_n 2, 1) := by decide +kernel
theorem dc_106_133 : decode (ax_code 106) 133 = .ok (.invokevirtual 86, 3) := by decide +kernel
theorem dc_106_136 : decode (ax_code 106) 136 = .ok (.iload 5, 2) := by decide +kernel
theorem dc_106_138 : decode (ax_code 106) 138 = .ok (.ifCond .eq 8, 3) := by decide +kernel
theorem dc_106_141 : decode (ax_code 106) 141 = .ok (.bipush (-4), 2) := by decide +kernel
theorem dc_106_143 : decode (ax_code 106) 143 = .ok (.goto 5, 3) := by decide +kernel
theorem dc_106_146 : decode (ax_code 106) 146 = .ok (.iload 4, 2) := by decide +kernel
theorem dc_106_148 : decode (ax_code 106) 148 = .ok (.if_icmp .ne 7, 3) := by decide +kernel
theorem dc_106_151 : decode (ax_code 106) 151 = .ok (.iconst 1, 1) := by decide +kernel
theorem dc_106_152 : decode (ax_code 106) 152 = .ok (.goto 4, 3) := by decide +kernel
theorem dc_106_155 : decode (ax_code 106) 155 = .ok (.iconst 0, 1) := by decide +kernel
theorem dc_106_156 : decode (ax_code 106) 156 = .ok (.ireturn, 1) := by decide +kernel
theorem dc_107_0 : decode (ax_code 107) 0 = .ok (.sipush 2000, 3) := by decide +kernel
theorem dc_107_3 : decode (ax_code 107) 3 = .ok (.anewarray 31, 3) := by decide +kernel
theorem dc_107_6 : decode (ax_code 107) 6 = .ok (.astore_n 2, 1) := by decide +kernel
theorem dc_107_7 : decode (ax_code 107) 7 = .ok (.iconst 0, 1) := by decide +kernel
theorem dc_107_8 : decode (ax_code 107) 8 = .ok (.istore_n 3, 1) := by decide +kernel
theorem dc_107_9 : decode (ax_code 107) 9 = .ok (.iconst 0, 1) := by decide +kernel
theorem dc_107_10 : decode (ax_code 107) 10 = .ok (.istore 4, 2) := by decide +kernel
theorem dc_107_12 : decode (ax_code 107) 12 = .ok (.iload 4, 2) := by decide +kernel
theorem dc_107_14 : decode (ax_code 107) 14 = .ok (.aload_n 0, 1) := by decide +kernel
theorem dc_107_15 : decode (ax_code 107) 15 = .ok (.getfield 53, 3) := by decide +kernel
theorem dc_107_18 : decode (ax_code 107) 18 = .ok (.if_icmp .ge 183, 3) := by decide +kernel
theorem dc_107_21 : decode (ax_code 107) 21 = .ok (.aload_n 0, 1) := by decide +kernel
theorem dc_107_22 : decode (ax_code 107) 22 = .ok (.iload 4, 2) := by decide +kernel
theorem dc_107_24 : decode (ax_code 107) 24 = .ok (.iload_n 1, 1) := by decide +kernel
theorem dc_107_25 : decode (ax_code 107) 25 = .ok (.invokevirtual 63, 3) := by decide +kernel
theorem dc_107_28 : decode (ax_code 107) 28 = .ok (.ifCond .ne 6, 3) := by decide +kernel
theorem dc_107_31 : decode (ax_code 107) 31 = .ok (.goto 164, 3) := by decide +kernel
theorem dc_107_34 : decode (ax_code 107) 34 = .ok (.iload_n 3, 1) := by decide +kernel
theorem dc_107_35 : decode (ax_code 107) 35 = .ok (.istore 5, 2) := by decide +kernel
theorem dc_107_37 : decode (ax_code 107) 37 = .ok (.aload_n 0, 1) := by decide +kernel
theorem dc_107_38 : decode (ax_code 107) 38 = .ok (.iload 4, 2) := by decide +kernel
theorem dc_107_40 : decode (ax_code 107) 40 = .ok (.invokevirtual 74, 3) := by decide +kernel
theorem dc_107_43 : decode (ax_code 107) 43 = .ok (.astore 6, 2) := by decide +kernel
theorem dc_107_45 : decode (ax_code 107) 45 = .ok (.aload 6, 2) := by decide +kernel
theorem dc_107_47 : decode (ax_code 107) 47 = .ok (.arraylength, 1) := by decide +kernel
theorem dc_107_48 : decode (ax_code 107) 48 = .ok (.istore 7, 2) := by decide +kernel
theorem dc_107_50 : decode (ax_code 107) 50 = .ok (.iconst 0, 1) := by decide +kernel
theorem dc_107_51 : decode (ax_code 107) 51 = .ok (.istore 8, 2) := by decide +kernel
theorem dc_107_53 : decode (ax_code 107) 53 = .ok (.iload 8, 2) := by decide +kernel
theorem dc_107_55 : decode (ax_code 107) 55 = .ok (.iload 7, 2) := by decide +kernel
theorem dc_107_57 : decode (ax_code 107) 57 = .ok (.if_icmp .ge 138, 3) := by decide +kernel
theorem dc_107_60 : decode (ax_code 107) 60 = .ok (.aload 6, 2) := by decide +kernel
theorem dc_107_62 : decode (ax_code 107) 62 = .ok (.iload 8, 2) := by decide +kernel
theorem dc_107_64 : decode (ax_code 107) 64 = .ok (.aaload, 1) := by decide +kernel
theorem dc_107_65 : decode (ax_code 107) 65 = .ok (.astore 9, 2) := by decide +kernel
theorem dc_107_67 : decode (ax_code 107) 67 = .ok (.aload_n 0, 1) := by decide +kernel
theorem dc_107_68 : decode (ax_code 107) 68 = .ok (.iload_n 1, 1) := by decide +kernel
theorem dc_107_69 : decode (ax_code 107) 69 = .ok (.aload 9, 2) := by decide +kernel
theorem dc_107_71 : decode (ax_code 107) 71 = .ok (.iload 4, 2) := by decide +kernel
theorem dc_107_73 : decode (ax_code 107) 73 = .ok (.invokevirtual 66, 3) := by decide +kernel
theorem dc_107_76 : decode (ax_code 107) 76 = .ok (.istore 10, 2) := by decide +kernel
theorem dc_107_78 : decode (ax_code 107) 78 = .ok (.iload 5, 2) := by decide +kernel
theorem dc_107_80 : decode (ax_code 107) 80 = .ok (.istore 11, 2) := by decide +kernel
theorem dc_107_82 : decode (ax_code 107) 82 = .ok (.iload 11, 2) := by decide +kernel
theorem dc_107_84 : decode (ax_code 107) 84 = .ok (.iload_n 3, 1) := by decide +kernel
theorem dc_107_85 : decode (ax_code 107) 85 = .ok (.if_icmp .ge 20, 3) := by decide +kernel
theorem dc_107_88 : decode (ax_code 107) 88 = .ok (.aload_n 2, 1) := by decide +kernel
theorem dc_107_89 : decode (ax_code 107) 89 = .ok (.iload 11, 2) := by decide +kernel
theorem dc_107_91 : decode (ax_code 107) 91 = .ok (.aaload, 1) := by decide +kernel
theorem dc_107_92 : decode (ax_code 107) 92 = .ok (.iconst 1, 1) := by decide +kernel
theorem dc_107_93 : decode (ax_code 107) 93 = .ok (.iaload, 1) := by decide +kernel
theorem dc_107_94 : decode (ax_code 107) 94 = .ok (.iload 10, 2) := by decide +kernel
theorem dc_107_96 : decode (ax_code 107) 96 = .ok (.if_icmp .ge 9, 3) := by decide +kernel
theorem dc_107_99 : decode (ax_code 107) 99 = .ok (.iinc 11 1, 3) := by decide +kernel
theorem dc_107_102 : decode (ax_code 107) 102 = .ok (.goto (-20), 3) := by decide +kernel
theorem dc_107_105 : decode (ax_code 107) 105 = .ok (.iload 11, 2) := by decide +kernel
theorem dc_107_107 : decode (ax_code 107) 107 = .ok (.iload_n 3, 1) := by decide +kernel
theorem dc_107_108 : decode (ax_code 107) 108 = .ok (.if_icmp .ge 27, 3) := by decide +kernel
theorem dc_107_111 : decode (ax_code 107) 111 = .ok (.aload_n 2, 1) := by decide +kernel
theorem dc_107_112 : decode (ax_code 107) 112 = .ok (.iload 11, 2) := by decide +kernel
theorem dc_107_114 : decode (ax_code 107) 114 = .ok (.aaload, 1) := by decide +kernel
theorem dc_107_115 : decode (ax_code 107) 115 = .ok (.iconst 1, 1) := by decide +kernel
theorem dc_107_116 : decode (ax_code 107) 116 = .ok (.iaload, 1) := by decide +kernel
theorem dc_107_117 : decode (ax_code 107) 117 = .ok (.iload 10, 2) := by decide +kernel
theorem dc_107_119 : decode (ax_code 107) 119 = .ok (.if_icmp .ne 16, 3) := by decide +kernel
theorem dc_107_122 : decode (ax_code 107) 122 = .ok (.aload_n 2, 1) := by decide +kernel
theorem dc_107_123 : decode (ax_code 107) 123 = .ok (.iload 11, 2) := by decide +kernel
theorem dc_107_125 : decode (ax_code 107) 125 = .ok (.aaload, 1) := by decide +kernel
theorem dc_107_126 : decode (ax_code 107) 126 = .ok (.iconst 2, 1) := by decide +kernel
theorem dc_107_127 : decode (ax_code 107) 127 = .ok (.dup2, 1) := by decide +kernel
theorem dc_107_128 : decode (ax_code 107) 128 = .ok (.iaload, 1) := by decide +kernel
theorem dc_107_129 : decode (ax_code 107) 129 = .ok (.iconst 1, 1) := by decide +kernel
theorem dc_107_130 : decode (ax_code 107) 130 = .ok (.iadd, 1) := by decide +kernel
theorem dc_107_131 : decode (ax_code 107) 131 = .ok (.iastore, 1) := by decide +kernel
theorem dc_107_132 : decode (ax_code 107) 132 = .ok (.goto 57, 3) := by decide +kernel
theorem dc_107_135 : decode (ax_code 107) 135 = .ok (.iload_n 3, 1) := by decide +kernel
theorem dc_107_136 : decode (ax_code 107) 136 = .ok (.istore 12, 2) := by decide +kernel
theorem dc_107_138 : decode (ax_code 107) 138 = .ok (.iload 12, 2) := by decide +kernel
theorem dc_107_140 : decode (ax_code 107) 140 = .ok (.iload 11, 2) := by decide +kernel
theorem dc_107_142 : decode (ax_code 107) 142 = .ok (.if_icmp .le 19, 3) := by decide +kernel
theorem dc_107_145 : decode (ax_code 107) 145 = .ok (.aload_n 2, 1) := by decide +kernel
theorem dc_107_146 : decode (ax_code 107) 146 = .ok (.iload 12, 2) := by decide +kernel
theorem dc_107_148 : decode (ax_code 107) 148 = .ok (.aload_n 2, 1) := by decide +kernel
theorem dc_107_149 : decode (ax_code 107) 149 = .ok (.iload 12, 2) := by decide +kernel
theorem dc_107_151 : decode (ax_code 107) 151 = .ok (.iconst 1, 1) := by decide +kernel
theorem dc_107_152 : decode (ax_code 107) 152 = .ok (.isub, 1) := by decide +kernel
theorem dc_107_153 : decode (ax_code 107) 153 = .ok (.aaload, 1) := by decide +kernel
theorem dc_107_154 : decode (ax_code 107) 154 = .ok (.aastore, 1) := by decide +kernel
theorem dc_107_155 : decode (ax_code 107) 155 = .ok (.iinc 12 (-1), 3) := by decide +kernel
theorem dc_107_158 : decode (ax_code 107) 158 = .ok (.goto (-20), 3) := by decide +kernel
theorem dc_107_161 : decode (ax_code 107) 161 = .ok (.iconst 3, 1) := by decide +kernel
theorem dc_107_162 : decode (ax_code 107) 162 = .ok (.newarray .int, 2) := by decide +kernel
theorem dc_107_164 : decode (ax_code 107) 164 = .ok (.dup, 1) := by decide +kernel
theorem dc_107_165 : decode (ax_code 107) 165 = .ok (.iconst 0, 1) := by decide +kernel
theorem dc_107_166 : decode (ax_code 107) 166 = .ok (.iload 4, 2) := by decide +kernel
theorem dc_107_168 : decode (ax_code 107) 168 = .ok (.iastore, 1) := by decide +kernel
theorem dc_107_169 : decode (ax_code 107) 169 = .ok (.dup, 1) := by decide +kernel
theorem dc_107_170 : decode (ax_code 107) 170 = .ok (.iconst 1, 1) := by decide +kernel
theorem dc_107_171 : decode (ax_code 107) 171 = .ok (.iload 10, 2) := by decide +kernel
theorem dc_107_173 : decode (ax_code 107) 173 = .ok (.iastore, 1) := by decide +kernel
theorem dc_107_174 : decode (ax_code 107) 174 = .ok (.dup, 1) := by decide +kernel
theorem dc_107_175 : decode (ax_code 107) 175 = .ok (.iconst 2, 1) := by decide +kernel
theorem dc_107_176 : decode (ax_code 107) 176 = .ok (.iconst 1, 1) := by decide +kernel
theorem dc_107_177 : decode (ax_code 107) 177 = .ok (.iastore, 1) := by decide +kernel
theorem dc_107_178 : decode (ax_code 107) 178 = .ok (.astore 12, 2) := by decide +kernel
theorem dc_107_180 : decode (ax_code 107) 180 = .ok (.aload_n 2, 1) := by decide +kernel
theorem dc_107_181 : decode (ax_code 107) 181 = .ok (.iload 11, 2) := by decide +kernel
theorem dc_107_183 : decode (ax_code 107) 183 = .ok (.aload 12, 2) := by decide +kernel
theorem dc_107_185 : decode (ax_code 107) 185 = .ok (.aastore, 1) := by decide +kernel
theorem dc_107_186 : decode (ax_code 107) 186 = .ok (.iinc 3 1, 3) := by decide +kernel
theorem dc_107_189 : decode (ax_code 107) 189 = .ok (.iinc 8 1, 3) := by decide +kernel
theorem dc_107_192 : decode (ax_code 107) 192 = .ok (.goto (-139), 3) := by decide +kernel
theorem dc_107_195 : decode (ax_code 107) 195 = .ok (.iinc 4 1, 3) := by decide +kernel
theorem dc_107_198 : decode (ax_code 107) 198 = .ok (.goto (-186), 3) := by decide +kernel
theorem dc_107_201 : decode (ax_code 107) 201 = .ok (.iload_n 3, 1) := by decide +kernel
theorem dc_107_202 : decode (ax_code 107) 202 = .ok (.anewarray 31, 3) := by decide +kernel
theorem dc_107_205 : decode (ax_code 107) 205 = .ok (.astore 4, 2) := by decide +kernel
theorem dc_107_207 : decode (ax_code 107) 207 = .ok (.iconst 0, 1) := by decide +kernel
theorem dc_107_208 : decode (ax_code 107) 208 = .ok (.istore 5, 2) := by decide +kernel
theorem dc_107_210 : decode (ax_code 107) 210 = .ok (.iload 5, 2) := by decide +kernel
theorem dc_107_212 : decode (ax_code 107) 212 = .ok (.iload_n 3, 1) := by decide +kernel
theorem dc_107_213 : decode (ax_code 107) 213 = .ok (.if_icmp .ge 18, 3) := by decide +kernel
theorem dc_107_216 : decode (ax_code 107) 216 = .ok (.aload 4, 2) := by decide +kernel
theorem dc_107_218 : decode (ax_code 107) 218 = .ok (.iload 5, 2) := by decide +kernel
theorem dc_107_220 : decode (ax_code 107) 220 = .ok (.aload_n 2, 1) := by decide +kernel
theorem dc_107_221 : decode (ax_code 107) 221 = .ok (.iload 5, 2) := by decide +kernel
theorem dc_107_223 : decode (ax_code 107) 223 = .ok (.aaload, 1) := by decide +kernel
theorem dc_107_224 : decode (ax_code 107) 224 = .ok (.aastore, 1) := by decide +kernel
theorem dc_107_225 : decode (ax_code 107) 225 = .ok (.iinc 5 1, 3) := by decide +kernel
theorem dc_107_228 : decode (ax_code 107) 228 = .ok (.goto (-18), 3) := by decide +kernel
theorem dc_107_231 : decode (ax_code 107) 231 = .ok (.aload 4, 2) := by decide +kernel
theorem dc_107_233 : decode (ax_code 107) 233 = .ok (.areturn, 1) := by decide +kernel
theorem dc_108_0 : decode (ax_code 108) 0 = .ok (.aload_n 0, 1) := by decide +kernel
theorem dc_108_1 : decode (ax_code 108) 1 = .ok (.getfield 17, 3) := by decide +kernel
theorem dc_108_4 : decode (ax_code 108) 4 = .ok (.iload_n 1, 1) := by decide +kernel
theorem dc_108_5 : decode (ax_code 108) 5 = .ok (.iaload, 1) := by decide +kernel
theorem dc_108_6 : decode (ax_code 108) 6 = .ok (.iconst 2, 1) := by decide +kernel
theorem dc_108_7 : decode (ax_code 108) 7 = .ok (.if_icmp .eq 13, 3) := by decide +kernel
theorem dc_108_10 : decode (ax_code 108) 10 = .ok (.aload_n 0, 1) := by decide +kernel
theorem dc_108_11 : decode (ax_code 108) 11 = .ok (.getfield 17, 3) := by decide +kernel
theorem dc_108_14 : decode (ax_code 108) 14 = .ok (.iload_n 1, 1) := by decide +kernel
theorem dc_108_15 : decode (ax_code 108) 15 = .ok (.iaload, 1) := by decide +kernel
theorem dc_108_16 : decode (ax_code 108) 16 = .ok (.iconst 3, 1) := by decide +kernel
theorem dc_108_17 : decode (ax_code 108) 17 = .ok (.if_icmp .ne 17, 3) := by decide +kernel
theorem dc_108_20 : decode (ax_code 108) 20 = .ok (.aload_n 0, 1) := by decide +kernel
theorem dc_108_21 : decode (ax_code 108) 21 = .ok (.getfield 20, 3) := by decide +kernel
theorem dc_108_24 : decode (ax_code 108) 24 = .ok (.iload_n 1, 1) := by decide +kernel
theorem dc_108_25 : decode (ax_code 108) 25 = .ok (.iaload, 1) := by decide +kernel
theorem dc_108_26 : decode (ax_code 108) 26 = .ok (.iload_n 2, 1) := by decide +kernel
theorem dc_108_27 : decode (ax_code 108) 27 = .ok (.if_icmp .ne 7, 3) := by decide +kernel
theorem dc_108_30 : decode (ax_code 108) 30 = .ok (.iconst 1, 1) := by decide +kernel
theorem dc_108_31 : decode (ax_code 108) 31 = .ok (.goto 4, 3) := by decide +kernel
theorem dc_108_34 : decode (ax_code 108) 34 = .ok (.iconst 0, 1) := by decide +kernel
theorem dc_108_35 : decode (ax_code 108) 35 = .ok (.ireturn, 1) := by decide +kernel
theorem dc_109_0 : decode (ax_code 109) 0 = .ok (.iconst 0, 1) := by decide +kernel
theorem dc_109_1 : decode (ax_code 109) 1 = .ok (.istore 5, 2) := by decide +kernel
theorem dc_109_3 : decode (ax_code 109) 3 = .ok (.iload 5, 2) := by decide +kernel
theorem dc_109_5 : decode (ax_code 109) 5 = .ok (.aload_n 0, 1) := by decide +kernel
theorem dc_109_6 : decode (ax_code 109) 6 = .ok (.getfield 60, 3) := by decide +kernel
theorem dc_109_9 : decode (ax_code 109) 9 = .ok (.if_icmp .ge 61, 3) := by decide +kernel
theorem dc_109_12 : decode (ax_code 109) 12 = .ok (.aload_n 0, 1) := by decide +kernel
theorem dc_109_13 : decode (ax_code 109) 13 = .ok (.getfield 32, 3) := by decide +kernel
theorem dc_109_16 : decode (ax_code 109) 16 = .ok (.iload 5, 2) := by decide +kernel
theorem dc_109_18 : decode (ax_code 109) 18 = .ok (.aaload, 1) := by decide +kernel
theorem dc_109_19 : decode (ax_code 109) 19 = .ok (.iconst 0, 1) := by decide +kernel
theorem dc_109_20 : decode (ax_code 109) 20 = .ok (.iaload, 1) := by decide +kernel
theorem dc_109_21 : decode (ax_code 109) 21 = .ok (.iload_n 1, 1) := by decide +kernel
theorem dc_109_22 : decode (ax_code 109) 22 = .ok (.if_icmp .ne 42, 3) := by decide +kernel
theorem dc_109_25 : decode (ax_code 109) 25 = .ok (.aload_n 0, 1) := by decide +kernel
theorem dc_109_26 : decode (ax_code 109) 26 = .ok (.getfield 32, 3) := by decide +kernel
theorem dc_109_29 : decode (ax_code 109) 29 = .ok (.iload 5, 2) := by decide +kernel
theorem dc_109_31 : decode (ax_code 109) 31 = .ok (.aaload, 1) := by decide +kernel
theorem dc_109_32 : decode (ax_code 109) 32 = .ok (.iconst 1, 1) := by decide +kernel
theorem dc_109_33 : decode (ax_code 109) 33 = .ok (.iaload, 1) := by decide +kernel
theorem dc_109_34 : decode (ax_code 109) 34 = .ok (.iload_n 2, 1) := by decide +kernel
theorem dc_109_35 : decode (ax_code 109) 35 = .ok (.if_icmp .ne 29, 3) := by decide +kernel
theorem dc_109_38 : decode (ax_code 109) 38 = .ok (.aload_n 0, 1) := by decide +kernel
theorem dc_109_39 : decode (ax_code 109) 39 = .ok (.getfield 32, 3) := by decide +kernel
theorem dc_109_42 : decode (ax_code 109) 42 = .ok (.iload 5, 2) := by decide +kernel
theorem dc_109_44 : decode (ax_code 109) 44 = .ok (.aaload, 1) := by decide +kernel
theorem dc_109_45 : decode (ax_code 109) 45 = .ok (.iconst 2, 1) := by decide +kernel
theorem dc_109_46 : decode (ax_code 109) 46 = .ok (.iaload, 1) := by decide +kernel
theorem dc_109_47 : decode (ax_code 109) 47 = .ok (.iload_n 3, 1) := by decide +kernel
theorem dc_109_48 : decode (ax_code 109) 48 = .ok (.if_icmp .ne 16, 3) := by decide +kernel
theorem dc_109_51 : decode (ax_code 109) 51 = .ok (.aload_n 0, 1) := by decide +kernel
theorem dc_109_52 : decode (ax_code 109) 52 = .ok (.getfield 32, 3) := by decide +kernel
theorem dc_109_55 : decode (ax_code 109) 55 = .ok (.iload 5, 2) := by decide +kernel
theorem dc_109_57 : decode (ax_code 109) 57 = .ok (.aaload, 1) := by decide +kernel
theorem dc_109_58 : decode (ax_code 109) 58 = .ok (.iconst 3, 1) := by decide +kernel
theorem dc_109_59 : decode (ax_code 109) 59 = .ok (.iload 4, 2) := by decide +kernel
theorem dc_109_61 : decode (ax_code 109) 61 = .ok (.iastore, 1) := by decide +kernel
theorem dc_109_62 : decode (ax_code 109) 62 = .ok (.iconst 1, 1) := by decide +kernel
theorem dc_109_63 : decode (ax_code 109) 63 = .ok (.ireturn, 1) := by decide +kernel
theorem dc_109_64 : decode (ax_code 109) 64 = .ok (.iinc 5 1, 3) := by decide +kernel
theorem dc_109_67 : decode (ax_code 109) 67 = .ok (.goto (-64), 3) := by decide +kernel
theorem dc_109_70 : decode (ax_code 109) 70 = .ok (.aload_n 0, 1) := by decide +kernel
theorem dc_109_71 : decode (ax_code 109) 71 = .ok (.getfield 60, 3) := by decide +kernel
theorem dc_109_74 : decode (ax_code 109) 74 = .ok (.bipush 40, 2) := by decide +kernel
theorem dc_109_76 : decode (ax_code 109) 76 = .ok (.if_icmp .ne 5, 3) := by decide +kernel
theorem dc_109_79 : decode (ax_code 109) 79 = .ok (.iconst 0, 1) := by decide +kernel
theorem dc_109_80 : decode (ax_code 109) 80 = .ok (.ireturn, 1) := by decide +kernel
theorem dc_109_81 : decode (ax_code 109) 81 = .ok (.iconst 4, 1) := by decide +kernel
theorem dc_109_82 : decode (ax_code 109) 82 = .ok (.newarray .int, 2) := by decide +kernel
theorem dc_109_84 : decode (ax_code 109) 84 = .ok (.dup, 1) := by decide +kernel
theorem dc_109_85 : decode (ax_code 109) 85 = .ok (.iconst 0, 1) := by decide +kernel
theorem dc_109_86 : decode (ax_code 109) 86 = .ok (.iload_n 1, 1) := by decide +kernel
theorem dc_109_87 : decode (ax_code 109) 87 = .ok (.iastore, 1) := by decide +kernel
theorem dc_109_88 : decode (ax_code 109) 88 = .ok (.dup, 1) := by decide +kernel
theorem dc_109_89 : decode (ax_code 109) 89 = .ok (.iconst 1, 1) := by decide +kernel
theorem dc_109_90 : decode (ax_code 109) 90 = .ok (.iload_n 2, 1) := by decide +kernel
theorem dc_109_91 : decode (ax_code 109) 91 = .ok (.iastore, 1) := by decide +kernel
theorem dc_109_92 : decode (ax_code 109) 92 = .ok (.dup, 1) := by decide +kernel
theorem dc_109_93 : decode (ax_code 109) 93 = .ok (.iconst 2, 1) := by decide +kernel
theorem dc_109_94 : decode (ax_code 109) 94 = .ok (.iload_n 3, 1) := by decide +kernel
theorem dc_109_95 : decode (ax_code 109) 95 = .ok (.iastore, 1) := by decide +kernel
theorem dc_109_96 : decode (ax_code 109) 96 = .ok (.dup, 1) := by decide +kernel
theorem dc_109_97 : decode (ax_code 109) 97 = .ok (.iconst 3, 1) := by decide +kernel
theorem dc_109_98 : decode (ax_code 109) 98 = .ok (.iload 4, 2) := by decide +kernel
theorem dc_109_100 : decode (ax_code 109) 100 = .ok (.iastore, 1) := by decide +kernel
theorem dc_109_101 : decode (ax_code 109) 101 = .ok (.astore 5, 2) := by decide +kernel
theorem dc_109_103 : decode (ax_code 109) 103 = .ok (.aload_n 0, 1) := by decide +kernel
theorem dc_109_104 : decode (ax_code 109) 104 = .ok (.getfield 32, 3) := by decide +kernel
theorem dc_109_107 : decode (ax_code 109) 107 = .ok (.aload_n 0, 1) := by decide +kernel
theorem dc_109_108 : decode (ax_code 109) 108 = .ok (.dup, 1) := by decide +kernel
theorem dc_109_109 : decode (ax_code 109) 109 = .ok (.getfield 60, 3) := by decide +kernel
theorem dc_109_112 : decode (ax_code 109) 112 = .ok (.dup_x1, 1) := by decide +kernel
theorem dc_109_113 : decode (ax_code 109) 113 = .ok (.iconst 1, 1) := by decide +kernel
theorem dc_109_114 : decode (ax_code 109) 114 = .ok (.iadd, 1) := by decide +kernel
theorem dc_109_115 : decode (ax_code 109) 115 = .ok (.putfield 60, 3) := by decide +kernel
theorem dc_109_118 : decode (ax_code 109) 118 = .ok (.aload 5, 2) := by decide +kernel
theorem dc_109_120 : decode (ax_code 109) 120 = .ok (.aastore, 1) := by decide +kernel
theorem dc_109_121 : decode (ax_code 109) 121 = .ok (.iconst 1, 1) := by decide +kernel
theorem dc_109_122 : decode (ax_code 109) 122 = .ok (.ireturn, 1) := by decide +kernel
theorem dc_110_0 : decode (ax_code 110) 0 = .ok (.iconst 0, 1) := by decide +kernel
theorem dc_110_1 : decode (ax_code 110) 1 = .ok (.istore_n 2, 1) := by decide +kernel
theorem dc_110_2 : decode (ax_code 110) 2 = .ok (.iload_n 1, 1) := by decide +kernel
theorem dc_110_3 : decode (ax_code 110) 3 = .ok (.istore_n 3, 1) := by decide +kernel
theorem dc_110_4 : decode (ax_code 110) 4 = .ok (.iconst 0, 1) := by decide +kernel
theorem dc_110_5 : decode (ax_code 110) 5 = .ok (.istore 4, 2) := by decide +kernel
theorem dc_110_7 : decode (ax_code 110) 7 = .ok (.iload 4, 2) := by decide +kernel
theorem dc_110_9 : decode (ax_code 110) 9 = .ok (.iconst 3, 1) := by decide +kernel
theorem dc_110_10 : decode (ax_code 110) 10 = .ok (.if_icmp .ge 130, 3) := by decide +kernel
theorem dc_110_13 : decode (ax_code 110) 13 = .ok (.aload_n 0, 1) := by decide +kernel
theorem dc_110_14 : decode (ax_code 110) 14 = .ok (.getfield 26, 3) := by decide +kernel
theorem dc_110_17 : decode (ax_code 110) 17 = .ok (.aload_n 0, 1) := by decide +kernel
theorem dc_110_18 : decode (ax_code 110) 18 = .ok (.getfield 10, 3) := by decide +kernel
theorem dc_110_21 : decode (ax_code 110) 21 = .ok (.getfield 77, 3) := by decide +kernel
theorem dc_110_24 : decode (ax_code 110) 24 = .ok (.iload 4, 2) := by decide +kernel
theorem dc_110_26 : decode (ax_code 110) 26 = .ok (.invokevirtual 205, 3) := by decide +kernel
theorem dc_110_29 : decode (ax_code 110) 29 = .ok (.iconst 0, 1) := by decide +kernel
theorem dc_110_30 : decode (ax_code 110) 30 = .ok (.istore 5, 2) := by decide +kernel
theorem dc_110_32 : decode (ax_code 110) 32 = .ok (.iload 5, 2) := by decide +kernel
theorem dc_110_34 : decode (ax_code 110) 34 = .ok (.aload_n 0, 1) := by decide +kernel
theorem dc_110_35 : decode (ax_code 110) 35 = .ok (.getfield 26, 3) := by decide +kernel
theorem dc_110_38 : decode (ax_code 110) 38 = .ok (.getfield 209, 3) := by decide +kernel
theorem dc_110_41 : decode (ax_code 110) 41 = .ok (.if_icmp .ge 93, 3) := by decide +kernel
theorem dc_110_44 : decode (ax_code 110) 44 = .ok (.iload_n 3, 1) := by decide +kernel
theorem dc_110_45 : decode (ax_code 110) 45 = .ok (.ldc 244, 2) := by decide +kernel
theorem dc_110_47 : decode (ax_code 110) 47 = .ok (.imul, 1) := by decide +kernel
theorem dc_110_48 : decode (ax_code 110) 48 = .ok (.sipush 12345, 3) := by decide +kernel
theorem dc_110_51 : decode (ax_code 110) 51 = .ok (.iadd, 1) := by decide +kernel
theorem dc_110_52 : decode (ax_code 110) 52 = .ok (.istore_n 3, 1) := by decide +kernel
theorem dc_110_53 : decode (ax_code 110) 53 = .ok (.iconst 1, 1) := by decide +kernel
theorem dc_110_54 : decode (ax_code 110) 54 = .ok (.aload_n 0, 1) := by decide +kernel
theorem dc_110_55 : decode (ax_code 110) 55 = .ok (.getfield 10, 3) := by decide +kernel
theorem dc_110_58 : decode (ax_code 110) 58 = .ok (.getfield 77, 3) := by decide +kernel
theorem dc_110_61 : decode (ax_code 110) 61 = .ok (.getfield 231, 3) := by decide +kernel
theorem dc_110_64 : decode (ax_code 110) 64 = .ok (.aload_n 0, 1) := by decide +kernel
theorem dc_110_65 : decode (ax_code 110) 65 = .ok (.getfield 26, 3) := by decide +kernel
theorem dc_110_68 : decode (ax_code 110) 68 = .ok (.getfield 212, 3) := by decide +kernel
theorem dc_110_71 : decode (ax_code 110) 71 = .ok (.iload 5, 2) := by decide +kernel
theorem dc_110_73 : decode (ax_code 110) 73 = .ok (.iaload, 1) := by decide +kernel
theorem dc_110_74 : decode (ax_code 110) 74 = .ok (.iaload, 1) := by decide +kernel
theorem dc_110_75 : decode (ax_code 110) 75 = .ok (.invokestatic 245, 3) := by decide +kernel
theorem dc_110_78 : decode (ax_code 110) 78 = .ok (.istore 6, 2) := by decide +kernel
theorem dc_110_80 : decode (ax_code 110) 80 = .ok (.aload_n 0, 1) := by decide +kernel
theorem dc_110_81 : decode (ax_code 110) 81 = .ok (.getfield 10, 3) := by decide +kernel
theorem dc_110_84 : decode (ax_code 110) 84 = .ok (.getfield 234, 3) := by decide +kernel
theorem dc_110_87 : decode (ax_code 110) 87 = .ok (.iload 4, 2) := by decide +kernel
theorem dc_110_89 : decode (ax_code 110) 89 = .ok (.aload_n 0, 1) := by decide +kernel
theorem dc_110_90 : decode (ax_code 110) 90 = .ok (.getfield 26, 3) := by decide +kernel
theorem dc_110_93 : decode (ax_code 110) 93 = .ok (.getfield 212, 3) := by decide +kernel
theorem dc_110_96 : decode (ax_code 110) 96 = .ok (.iload 5, 2) := by decide +kernel
theorem dc_110_98 : decode (ax_code 110) 98 = .ok (.iaload, 1) := by decide +kernel
theorem dc_110_99 : decode (ax_code 110) 99 = .ok (.aload_n 0, 1) := by decide +kernel
theorem dc_110_100 : decode (ax_code 110) 100 = .ok (.getfield 26, 3) := by decide +kernel
theorem dc_110_103 : decode (ax_code 110) 103 = .ok (.getfield 215, 3) := by decide +kernel
theorem dc_110_106 : decode (ax_code 110) 106 = .ok (.iload 5, 2) := by decide +kernel
theorem dc_110_108 : decode (ax_code 110) 108 = .ok (.iaload, 1) := by decide +kernel
theorem dc_110_109 : decode (ax_code 110) 109 = .ok (.iload_n 3, 1) := by decide +kernel
theorem dc_110_110 : decode (ax_code 110) 110 = .ok (.bipush 8, 2) := by decide +kernel
theorem dc_110_112 : decode (ax_code 110) 112 = .ok (.iushr, 1) := by decide +kernel
theorem dc_110_113 : decode (ax_code 110) 113 = .ok (.iload 6, 2) := by decide +kernel
theorem dc_110_115 : decode (ax_code 110) 115 = .ok (.irem, 1) := by decide +kernel
theorem dc_110_116 : decode (ax_code 110) 116 = .ok (.invokevirtual 238, 3) := by decide +kernel
theorem dc_110_119 : decode (ax_code 110) 119 = .ok (.ifCond .ne 6, 3) := by decide +kernel
theorem dc_110_122 : decode (ax_code 110) 122 = .ok (.bipush (-4), 2) := by decide +kernel
theorem dc_110_124 : decode (ax_code 110) 124 = .ok (.ireturn, 1) := by decide +kernel
theorem dc_110_125 : decode (ax_code 110) 125 = .ok (.iinc 2 1, 3) := by decide +kernel
theorem dc_110_128 : decode (ax_code 110) 128 = .ok (.iinc 5 1, 3) := by decide +kernel
theorem dc_110_131 : decode (ax_code 110) 131 = .ok (.goto (-99), 3) := by decide +kernel
theorem dc_110_134 : decode (ax_code 110) 134 = .ok (.iinc 4 1, 3) := by decide +kernel
theorem dc_110_137 : decode (ax_code 110) 137 = .ok (.goto (-130), 3) := by decide +kernel
theorem dc_110_140 : decode (ax_code 110) 140 = .ok (.iload_n 2, 1) := by decide +kernel
theorem dc_110_141 : decode (ax_code 110) 141 = .ok (.ireturn, 1) := by decide +kernel
theorem dc_111_0 : decode (ax_code 111) 0 = .ok (.iconst 0, 1) := by decide +kernel
theorem dc_111_1 : decode (ax_code 111) 1 = .ok (.istore_n 3, 1) := by decide +kernel
theorem dc_111_2 : decode (ax_code 111) 2 = .ok (.iload_n 3, 1) := by decide +kernel
theorem dc_111_3 : decode (ax_code 111) 3 = .ok (.iload_n 2, 1) := by decide +kernel
theorem dc_111_4 : decode (ax_code 111) 4 = .ok (.if_icmp .ge 20, 3) := by decide +kernel
theorem dc_111_7 : decode (ax_code 111) 7 = .ok (.aload_n 0, 1) := by decide +kernel
theorem dc_111_8 : decode (ax_code 111) 8 = .ok (.iload_n 3, 1) := by decide +kernel
theorem dc_111_9 : decode (ax_code 111) 9 = .ok (.iaload, 1) := by decide +kernel
theorem dc_111_10 : decode (ax_code 111) 10 = .ok (.aload_n 1, 1) := by decide +kernel
theorem dc_111_11 : decode (ax_code 111) 11 = .ok (.iload_n 3, 1) := by decide +kernel
theorem dc_111_12 : decode (ax_code 111) 12 = .ok (.iaload, 1) := by decide +kernel
theorem dc_111_13 : decode (ax_code 111) 13 = .ok (.if_icmp .eq 5, 3) := by decide +kernel
theorem dc_111_16 : decode (ax_code 111) 16 = .ok (.iconst 0, 1) := by decide +kernel
theorem dc_111_17 : decode (ax_code 111) 17 = .ok (.ireturn, 1) := by decide +kernel
theorem dc_111_18 : decode (ax_code 111) 18 = .ok (.iinc 3 1, 3) := by decide +kernel
theorem dc_111_21 : decode (ax_code 111) 21 = .ok (.goto (-19), 3) := by decide +kernel
theorem dc_111_24 : decode (ax_code 111) 24 = .ok (.iconst 1, 1) := by decide +kernel
theorem dc_111_25 : decode (ax_code 111) 25 = .ok (.ireturn, 1) := by decide +kernel
theorem dc_112_15 : decode (ax_code 112) 15 = .ok (.aload_n 2, 1) := by decide +kernel
theorem dc_112_16 : decode (ax_code 112) 16 = .ok (.ifnull 17, 3) := by decide +kernel
theorem dc_112_19 : decode (ax_code 112) 19 = .ok (.aload_n 1, 1) := by decide +kernel
theorem dc_112_20 : decode (ax_code 112) 20 = .ok (.aload_n 2, 1) := by decide +kernel
theorem dc_112_21 : decode (ax_code 112) 21 = .ok (.aload_n 0, 1) := by decide +kernel
theorem dc_112_22 : decode (ax_code 112) 22 = .ok (.bipush 19, 2) := by decide +kernel
theorem dc_112_24 : decode (ax_code 112) 24 = .ok (.invokestatic 23, 3) := by decide +kernel
theorem dc_112_27 : decode (ax_code 112) 27 = .ok (.invokestatic 112, 3) := by decide +kernel
theorem dc_112_30 : decode (ax_code 112) 30 = .ok (.ifCond .ne 5, 3) := by decide +kernel
theorem dc_112_33 : decode (ax_code 112) 33 = .ok (.iconst 0, 1) := by decide +kernel
theorem dc_112_34 : decode (ax_code 112) 34 = .ok (.ireturn, 1) := by decide +kernel
theorem dc_112_35 : decode (ax_code 112) 35 = .ok (.aload_n 1, 1) := by decide +kernel
theorem dc_112_36 : decode (ax_code 112) 36 = .ok (.aload_n 2, 1) := by decide +kernel
theorem dc_112_37 : decode (ax_code 112) 37 = .ok (.getfield 52, 3) := by decide +kernel
theorem dc_112_40 : decode (ax_code 112) 40 = .ok (.invokevirtual 116, 3) := by decide +kernel
theorem dc_112_43 : decode (ax_code 112) 43 = .ok (.istore_n 3, 1) := by decide +kernel
theorem dc_112_44 : decode (ax_code 112) 44 = .ok (.iconst 0, 1) := by decide +kernel
theorem dc_112_45 : decode (ax_code 112) 45 = .ok (.istore 4, 2) := by decide +kernel
theorem dc_112_47 : decode (ax_code 112) 47 = .ok (.iload 4, 2) := by decide +kernel
theorem dc_112_49 : decode (ax_code 112) 49 = .ok (.bipush 16, 2) := by decide +kernel
theorem dc_112_51 : decode (ax_code 112) 51 = .ok (.if_icmp .ge 279, 3) := by decide +kernel
theorem dc_112_54 : decode (ax_code 112) 54 = .ok (.aload_n 0, 1) := by decide +kernel
theorem dc_112_55 : decode (ax_code 112) 55 = .ok (.bipush 20, 2) := by decide +kernel
theorem dc_112_57 : decode (ax_code 112) 57 = .ok (.iload 4, 2) := by decide +kernel
theorem dc_112_59 : decode (ax_code 112) 59 = .ok (.iadd, 1) := by decide +kernel
theorem dc_112_60 : decode (ax_code 112) 60 = .ok (.invokestatic 23, 3) := by decide +kernel
theorem dc_112_63 : decode (ax_code 112) 63 = .ok (.istore 5, 2) := by decide +kernel
theorem dc_112_65 : decode (ax_code 112) 65 = .ok (.iload 5, 2) := by decide +kernel
theorem dc_112_67 : decode (ax_code 112) 67 = .ok (.iload_n 3, 1) := by decide +kernel
theorem dc_112_68 : decode (ax_code 112) 68 = .ok (.irem, 1) := by decide +kernel
theorem dc_112_69 : decode (ax_code 112) 69 = .ok (.istore 6, 2) := by decide +kernel
theorem dc_112_71 : decode (ax_code 112) 71 = .ok (.iload 5, 2) := by decide +kernel
theorem dc_112_73 : decode (ax_code 112) 73 = .ok (.bipush 9, 2) := by decide +kernel
theorem dc_112_75 : decode (ax_code 112) 75 = .ok (.iushr, 1) := by decide +kernel
theorem dc_112_76 : decode (ax_code 112) 76 = .ok (.iload_n 3, 1) := by decide +kernel
theorem dc_112_77 : decode (ax_code 112) 77 = .ok (.irem, 1) := by decide +kernel
theorem dc_112_78 : decode (ax_code 112) 78 = .ok (.istore 7, 2) := by decide +kernel
theorem dc_112_80 : decode (ax_code 112) 80 = .ok (.iload 5, 2) := by decide +kernel
theorem dc_112_82 : decode (ax_code 112) 82 = .ok (.bipush 18, 2) := by decide +kernel
theorem dc_112_84 : decode (ax_code 112) 84 = .ok (.iushr, 1) := by decide +kernel
theorem dc_112_85 : decode (ax_code 112) 85 = .ok (.aload_n 2, 1) := by decide +kernel
theorem dc_112_86 : decode (ax_code 112) 86 = .ok (.getfield 52, 3) := by decide +kernel
theorem dc_112_89 : decode (ax_code 112) 89 = .ok (.iconst 1, 1) := by decide +kernel
theorem dc_112_90 : decode (ax_code 112) 90 = .ok (.iadd, 1) := by decide +kernel
theorem dc_112_91 : decode (ax_code 112) 91 = .ok (.irem, 1) := by decide +kernel
theorem dc_112_92 : decode (ax_code 112) 92 = .ok (.istore 8, 2) := by decide +kernel
theorem dc_112_94 : decode (ax_code 112) 94 = .ok (.iload 4, 2) := by decide +kernel
theorem dc_112_96 : decode (ax_code 112) 96 = .ok (.iconst 3, 1) := by decide +kernel
theorem dc_112_97 : decode (ax_code 112) 97 = .ok (.irem, 1) := by decide +kernel
theorem dc_112_98 : decode (ax_code 112) 98 = .ok (.istore 9, 2) := by decide +kernel
theorem dc_112_100 : decode (ax_code 112) 100 = .ok (.iconst 1, 1) := by decide +kernel
theorem dc_112_101 : decode (ax_code 112) 101 = .ok (.istore 10, 2) := by decide +kernel
theorem dc_112_103 : decode (ax_code 112) 103 = .ok (.iconst 0, 1) := by decide +kernel
theorem dc_112_104 : decode (ax_code 112) 104 = .ok (.istore 11, 2) := by decide +kernel
theorem dc_112_106 : decode (ax_code 112) 106 = .ok (.iconst 0, 1) := by decide +kernel
theorem dc_112_107 : decode (ax_code 112) 107 = .ok (.istore 12, 2) := by decide +kernel
theorem dc_112_109 : decode (ax_code 112) 109 = .ok (.iload 12, 2) := by decide +kernel
theorem dc_112_111 : decode (ax_code 112) 111 = .ok (.iload 8, 2) := by decide +kernel
theorem dc_112_113 : decode (ax_code 112) 113 = .ok (.if_icmp .ge 60, 3) := by decide +kernel
theorem dc_112_116 : decode (ax_code 112) 116 = .ok (.aload_n 1, 1) := by decide +kernel
theorem dc_112_117 : decode (ax_code 112) 117 = .ok (.iload 12, 2) := by decide +kernel
theorem dc_112_119 : decode (ax_code 112) 119 = .ok (.iload 8, 2) := by decide +kernel
theorem dc_112_121 : decode (ax_code 112) 121 = .ok (.invokevirtual 119, 3) := by decide +kernel
theorem dc_112_124 : decode (ax_code 112) 124 = .ok (.iload 9, 2) := by decide +kernel
theorem dc_112_126 : decode (ax_code 112) 126 = .ok (.invokestatic 121, 3) := by decide +kernel
theorem dc_112_129 : decode (ax_code 112) 129 = .ok (.ifCond .ne 6, 3) := by decide +kernel
theorem dc_112_132 : decode (ax_code 112) 132 = .ok (.goto 35, 3) := by decide +kernel
theorem dc_112_135 : decode (ax_code 112) 135 = .ok (.iinc 11 1, 3) := by decide +kernel
theorem dc_112_138 : decode (ax_code 112) 138 = .ok (.iload 10, 2) := by decide +kernel
theorem dc_112_140 : decode (ax_code 112) 140 = .ok (.aload_n 1, 1) := by decide +kernel
theorem dc_112_141 : decode (ax_code 112) 141 = .ok (.iload 6, 2) := by decide +kernel
theorem dc_112_143 : decode (ax_code 112) 143 = .ok (.iload 12, 2) := by decide +kernel
theorem dc_112_145 : decode (ax_code 112) 145 = .ok (.invokevirtual 125, 3) := by decide +kernel
theorem dc_112_148 : decode (ax_code 112) 148 = .ok (.aload_n 1, 1) := by decide +kernel
theorem dc_112_149 : decode (ax_code 112) 149 = .ok (.iload 7, 2) := by decide +kernel
theorem dc_112_151 : decode (ax_code 112) 151 = .ok (.iload 12, 2) := by decide +kernel
theorem dc_112_153 : decode (ax_code 112) 153 = .ok (.invokevirtual 125, 3) := by decide +kernel
theorem dc_112_156 : decode (ax_code 112) 156 = .ok (.if_icmp .ne 7, 3) := by decide +kernel
theorem dc_112_159 : decode (ax_code 112) 159 = .ok (.iconst 1, 1) := by decide +kernel
theorem dc_112_160 : decode (ax_code 112) 160 = .ok (.goto 4, 3) := by decide +kernel
theorem dc_112_163 : decode (ax_code 112) 163 = .ok (.iconst 0, 1) := by decide +kernel
theorem dc_112_164 : decode (ax_code 112) 164 = .ok (.iand, 1) := by decide +kernel
theorem dc_112_165 : decode (ax_code 112) 165 = .ok (.istore 10, 2) := by decide +kernel
theorem dc_112_167 : decode (ax_code 112) 167 = .ok (.iinc 12 1, 3) := by decide +kernel
theorem dc_112_170 : decode (ax_code 112) 170 = .ok (.goto (-61), 3) := by decide +kernel
theorem dc_112_173 : decode (ax_code 112) 173 = .ok (.aload_n 1, 1) := by decide +kernel
theorem dc_112_174 : decode (ax_code 112) 174 = .ok (.iload 9, 2) := by decide +kernel
theorem dc_112_176 : decode (ax_code 112) 176 = .ok (.iload 6, 2) := by decide +kernel
theorem dc_112_178 : decode (ax_code 112) 178 = .ok (.iload 8, 2) := by decide +kernel
theorem dc_112_180 : decode (ax_code 112) 180 = .ok (.invokevirtual 128, 3) := by decide +kernel
theorem dc_112_183 : decode (ax_code 112) 183 = .ok (.aload_n 1, 1) := by decide +kernel
theorem dc_112_184 : decode (ax_code 112) 184 = .ok (.iload 9, 2) := by decide +kernel
theorem dc_112_186 : decode (ax_code 112) 186 = .ok (.iload 7, 2) := by decide +kernel
theorem dc_112_188 : decode (ax_code 112) 188 = .ok (.iload 8, 2) := by decide +kernel
theorem dc_112_190 : decode (ax_code 112) 190 = .ok (.invokevirtual 128, 3) := by decide +kernel
theorem dc_112_193 : decode (ax_code 112) 193 = .ok (.if_icmp .ne 7, 3) := by decide +kernel
theorem dc_112_196 : decode (ax_code 112) 196 = .ok (.iconst 1, 1) := by decide +kernel
theorem dc_112_197 : decode (ax_code 112) 197 = .ok (.goto 4, 3) := by decide +kernel
theorem dc_112_200 : decode (ax_code 112) 200 = .ok (.iconst 0, 1) := by decide +kernel
theorem dc_112_201 : decode (ax_code 112) 201 = .ok (.iload 10, 2) := by decide +kernel
theorem dc_112_203 : decode (ax_code 112) 203 = .ok (.if_icmp .ne 54, 3) := by decide +kernel
theorem dc_112_206 : decode (ax_code 112) 206 = .ok (.aload_n 1, 1) := by decide +kernel
theorem dc_112_207 : decode (ax_code 112) 207 = .ok (.iload 9, 2) := by decide +kernel
theorem dc_112_209 : decode (ax_code 112) 209 = .ok (.iload 8, 2) := by decide +kernel
theorem dc_112_211 : decode (ax_code 112) 211 = .ok (.aload_n 1, 1) := by decide +kernel
theorem dc_112_212 : decode (ax_code 112) 212 = .ok (.iload 9, 2) := by decide +kernel
theorem dc_112_214 : decode (ax_code 112) 214 = .ok (.iload 6, 2) := by decide +kernel
theorem dc_112_216 : decode (ax_code 112) 216 = .ok (.iload 8, 2) := by decide +kernel
theorem dc_112_218 : decode (ax_code 112) 218 = .ok (.invokevirtual 128, 3) := by decide +kernel
theorem dc_112_221 : decode (ax_code 112) 221 = .ok (.invokevirtual 131, 3) := by decide +kernel
theorem dc_112_224 : decode (ax_code 112) 224 = .ok (.iconst 1, 1) := by decide +kernel
theorem dc_112_225 : decode (ax_code 112) 225 = .ok (.if_icmp .lt 32, 3) := by decide +kernel
theorem dc_112_228 : decode (ax_code 112) 228 = .ok (.iload 11, 2) := by decide +kernel
theorem dc_112_230 : decode (ax_code 112) 230 = .ok (.iload 8, 2) := by decide +kernel
theorem dc_112_232 : decode (ax_code 112) 232 = .ok (.if_icmp .ne 27, 3) := by decide +kernel
theorem dc_112_235 : decode (ax_code 112) 235 = .ok (.aload_n 1, 1) := by decide +kernel
theorem dc_112_236 : decode (ax_code 112) 236 = .ok (.iload 9, 2) := by decide +kernel
theorem dc_112_238 : decode (ax_code 112) 238 = .ok (.iload 8, 2) := by decide +kernel
theorem dc_112_240 : decode (ax_code 112) 240 = .ok (.aload_n 1, 1) := by decide +kernel
theorem dc_112_241 : decode (ax_code 112) 241 = .ok (.iload 9, 2) := by decide +kernel
theorem dc_112_243 : decode (ax_code 112) 243 = .ok (.iload 6, 2) := by decide +kernel
theorem dc_112_245 : decode (ax_code 112) 245 = .ok (.iload 8, 2) := by decide +kernel
theorem dc_112_247 : decode (ax_code 112) 247 = .ok (.invokevirtual 128, 3) := by decide +kernel
theorem dc_112_250 : decode (ax_code 112) 250 = .ok (.invokevirtual 131, 3) := by decide +kernel
theorem dc_112_253 : decode (ax_code 112) 253 = .ok (.iconst 1, 1) := by decide +kernel
theorem dc_112_254 : decode (ax_code 112) 254 = .ok (.if_icmp .eq 5, 3) := by decide +kernel
theorem dc_112_257 : decode (ax_code 112) 257 = .ok (.iconst 0, 1) := by decide +kernel
theorem dc_112_258 : decode (ax_code 112) 258 = .ok (.ireturn, 1) := by decide +kernel
theorem dc_112_259 : decode (ax_code 112) 259 = .ok (.iload 8, 2) := by decide +kernel
theorem dc_112_261 : decode (ax_code 112) 261 = .ok (.ifCond .le 23, 3) := by decide +kernel
theorem dc_112_264 : decode (ax_code 112) 264 = .ok (.aload_n 1, 1) := by decide +kernel
theorem dc_112_265 : decode (ax_code 112) 265 = .ok (.iload 8, 2) := by decide +kernel
theorem dc_112_267 : decode (ax_code 112) 267 = .ok (.invokevirtual 116, 3) := by decide +kernel
theorem dc_112_270 : decode (ax_code 112) 270 = .ok (.aload_n 1, 1) := by decide +kernel
theorem dc_112_271 : decode (ax_code 112) 271 = .ok (.iload 8, 2) := by decide +kernel
theorem dc_112_273 : decode (ax_code 112) 273 = .ok (.iconst 1, 1) := by decide +kernel
theorem dc_112_274 : decode (ax_code 112) 274 = .ok (.isub, 1) := by decide +kernel
theorem dc_112_275 : decode (ax_code 112) 275 = .ok (.invokevirtual 116, 3) := by decide +kernel
theorem dc_112_278 : decode (ax_code 112) 278 = .ok (.irem, 1) := by decide +kernel
theorem dc_112_279 : decode (ax_code 112) 279 = .ok (.ifCond .eq 5, 3) := by decide +kernel
theorem dc_112_282 : decode (ax_code 112) 282 = .ok (.iconst 0, 1) := by decide +kernel
theorem dc_112_283 : decode (ax_code 112) 283 = .ok (.ireturn, 1) := by decide +kernel
theorem dc_112_284 : decode (ax_code 112) 284 = .ok (.lconst 0, 1) := by decide +kernel
theorem dc_112_285 : decode (ax_code 112) 285 = .ok (.lstore 12, 2) := by decide +kernel
theorem dc_112_287 : decode (ax_code 112) 287 = .ok (.iconst 0, 1) := by decide +kernel
theorem dc_112_288 : decode (ax_code 112) 288 = .ok (.istore 14, 2) := by decide +kernel
theorem dc_112_290 : decode (ax_code 112) 290 = .ok (.iload 14, 2) := by decide +kernel
theorem dc_112_292 : decode (ax_code 112) 292 = .ok (.iconst 3, 1) := by decide +kernel
theorem dc_112_293 : decode (ax_code 112) 293 = .ok (.if_icmp .ge 22, 3) := by decide +kernel
theorem dc_112_296 : decode (ax_code 112) 296 = .ok (.lload 12, 2) := by decide +kernel
theorem dc_112_298 : decode (ax_code 112) 298 = .ok (.aload_n 1, 1) := by decide +kernel
theorem dc_112_299 : decode (ax_code 112) 299 = .ok (.iload 14, 2) := by decide +kernel
theorem dc_112_301 : decode (ax_code 112) 301 = .ok (.iload 6, 2) := by decide +kernel
theorem dc_112_303 : decode (ax_code 112) 303 = .ok (.invokevirtual 134, 3) := by decide +kernel
theorem dc_112_306 : decode (ax_code 112) 306 = .ok (.ladd, 1) := by decide +kernel
theorem dc_112_307 : decode (ax_code 112) 307 = .ok (.lstore 12, 2) := by decide +kernel
theorem dc_112_309 : decode (ax_code 112) 309 = .ok (.iinc 14 1, 3) := by decide +kernel
theorem dc_112_312 : decode (ax_code 112) 312 = .ok (.goto (-22), 3) := by decide +kernel
theorem dc_112_315 : decode (ax_code 112) 315 = .ok (.lload 12, 2) := by decide +kernel
theorem dc_112_317 : decode (ax_code 112) 317 = .ok (.lconst 0, 1) := by decide +kernel
theorem dc_112_318 : decode (ax_code 112) 318 = .ok (.lcmp, 1) := by decide +kernel
theorem dc_112_319 : decode (ax_code 112) 319 = .ok (.ifCond .eq 5, 3) := by decide +kernel
theorem dc_112_322 : decode (ax_code 112) 322 = .ok (.iconst 0, 1) := by decide +kernel
theorem dc_112_323 : decode (ax_code 112) 323 = .ok (.ireturn, 1) := by decide +kernel
theorem dc_112_324 : decode (ax_code 112) 324 = .ok (.iinc 4 1, 3) := by decide +kernel
theorem dc_112_327 : decode (ax_code 112) 327 = .ok (.goto (-280), 3) := by decide +kernel
theorem dc_112_330 : decode (ax_code 112) 330 = .ok (.iconst 0, 1) := by decide +kernel
theorem dc_112_331 : decode (ax_code 112) 331 = .ok (.istore 4, 2) := by decide +kernel
theorem dc_112_333 : decode (ax_code 112) 333 = .ok (.iload 4, 2) := by decide +kernel
theorem dc_112_335 : decode (ax_code 112) 335 = .ok (.iconst 3, 1) := by decide +kernel
theorem dc_112_336 : decode (ax_code 112) 336 = .ok (.if_icmp .ge 247, 3) := by decide +kernel
theorem dc_112_339 : decode (ax_code 112) 339 = .ok (.aload_n 0, 1) := by decide +kernel
theorem dc_112_340 : decode (ax_code 112) 340 = .ok (.bipush 40, 2) := by decide +kernel
theorem dc_112_342 : decode (ax_code 112) 342 = .ok (.iload 4, 2) := by decide +kernel
theorem dc_112_344 : decode (ax_code 112) 344 = .ok (.iadd, 1) := by decide +kernel
theorem dc_112_345 : decode (ax_code 112) 345 = .ok (.invokestatic 23, 3) := by decide +kernel
theorem dc_112_348 : decode (ax_code 112) 348 = .ok (.aload_n 2, 1) := by decide +kernel
theorem dc_112_349 : decode (ax_code 112) 349 = .ok (.getfield 52, 3) := by decide +kernel
theorem dc_112_352 : decode (ax_code 112) 352 = .ok (.iconst 1, 1) := by decide +kernel
theorem dc_112_353 : decode (ax_code 112) 353 = .ok (.iadd, 1) := by decide +kernel
theorem dc_112_354 : decode (ax_code 112) 354 = .ok (.irem, 1) := by decide +kernel
theorem dc_112_355 : decode (ax_code 112) 355 = .ok (.istore 5, 2) := by decide +kernel
theorem dc_112_357 : decode (ax_code 112) 357 = .ok (.iconst 0, 1) := by decide +kernel
theorem dc_112_358 : decode (ax_code 112) 358 = .ok (.istore 6, 2) := by decide +kernel
theorem dc_112_360 : decode (ax_code 112) 360 = .ok (.aload_n 2, 1) := by decide +kernel
theorem dc_112_361 : decode (ax_code 112) 361 = .ok (.iload 5, 2) := by decide +kernel
theorem dc_112_363 : decode (ax_code 112) 363 = .ok (.invokevirtual 138, 3) := by decide +kernel
theorem dc_112_366 : decode (ax_code 112) 366 = .ok (.astore 7, 2) := by decide +kernel
theorem dc_112_368 : decode (ax_code 112) 368 = .ok (.aload 7, 2) := by decide +kernel
theorem dc_112_370 : decode (ax_code 112) 370 = .ok (.astore 8, 2) := by decide +kernel
theorem dc_112_372 : decode (ax_code 112) 372 = .ok (.aload 8, 2) := by decide +kernel
theorem dc_112_374 : decode (ax_code 112) 374 = .ok (.arraylength, 1) := by decide +kernel
theorem dc_112_375 : decode (ax_code 112) 375 = .ok (.istore 9, 2) := by decide +kernel
theorem dc_112_377 : decode (ax_code 112) 377 = .ok (.iconst 0, 1) := by decide +kernel
theorem dc_112_378 : decode (ax_code 112) 378 = .ok (.istore 10, 2) := by decide +kernel
theorem dc_112_380 : decode (ax_code 112) 380 = .ok (.iload 10, 2) := by decide +kernel
theorem dc_112_382 : decode (ax_code 112) 382 = .ok (.iload 9, 2) := by decide +kernel
theorem dc_112_384 : decode (ax_code 112) 384 = .ok (.if_icmp .ge 76, 3) := by decide +kernel
theorem dc_112_387 : decode (ax_code 112) 387 = .ok (.aload 8, 2) := by decide +kernel
theorem dc_112_389 : decode (ax_code 112) 389 = .ok (.iload 10, 2) := by decide +kernel
theorem dc_112_391 : decode (ax_code 112) 391 = .ok (.aaload, 1) := by decide +kernel
theorem dc_112_392 : decode (ax_code 112) 392 = .ok (.astore 11, 2) := by decide +kernel
theorem dc_112_394 : decode (ax_code 112) 394 = .ok (.aload_n 2, 1) := by decide +kernel
theorem dc_112_395 : decode (ax_code 112) 395 = .ok (.iload 4, 2) := by decide +kernel
theorem dc_112_397 : decode (ax_code 112) 397 = .ok (.aload 11, 2) := by decide +kernel
theorem dc_112_399 : decode (ax_code 112) 399 = .ok (.iload 5, 2) := by decide +kernel
theorem dc_112_401 : decode (ax_code 112) 401 = .ok (.invokevirtual 140, 3) := by decide +kernel
theorem dc_112_404 : decode (ax_code 112) 404 = .ok (.istore 12, 2) := by decide +kernel
theorem dc_112_406 : decode (ax_code 112) 406 = .ok (.aload_n 1, 1) := by decide +kernel
theorem dc_112_407 : decode (ax_code 112) 407 = .ok (.iload 4, 2) := by decide +kernel
theorem dc_112_409 : decode (ax_code 112) 409 = .ok (.iload 5, 2) := by decide +kernel
theorem dc_112_411 : decode (ax_code 112) 411 = .ok (.iload 12, 2) := by decide +kernel
theorem dc_112_413 : decode (ax_code 112) 413 = .ok (.iconst 0, 1) := by decide +kernel
theorem dc_112_414 : decode (ax_code 112) 414 = .ok (.invokevirtual 143, 3) := by decide +kernel
theorem dc_112_417 : decode (ax_code 112) 417 = .ok (.istore 13, 2) := by decide +kernel
theorem dc_112_419 : decode (ax_code 112) 419 = .ok (.iload 13, 2) := by decide +kernel
theorem dc_112_421 : decode (ax_code 112) 421 = .ok (.ifCond .lt 33, 3) := by decide +kernel
theorem dc_112_424 : decode (ax_code 112) 424 = .ok (.aload 7, 2) := by decide +kernel
theorem dc_112_426 : decode (ax_code 112) 426 = .ok (.iload 13, 2) := by decide +kernel
theorem dc_112_428 : decode (ax_code 112) 428 = .ok (.aaload, 1) := by decide +kernel
theorem dc_112_429 : decode (ax_code 112) 429 = .ok (.aload 11, 2) := by decide +kernel
theorem dc_112_431 : decode (ax_code 112) 431 = .ok (.iload 5, 2) := by decide +kernel
theorem dc_112_433 : decode (ax_code 112) 433 = .ok (.invokestatic 147, 3) := by decide +kernel
theorem dc_112_436 : decode (ax_code 112) 436 = .ok (.ifCond .eq 18, 3) := by decide +kernel
theorem dc_112_439 : decode (ax_code 112) 439 = .ok (.iload 6, 2) := by decide +kernel
theorem dc_112_441 : decode (ax_code 112) 441 = .ok (.aload_n 1, 1) := by decide +kernel
theorem dc_112_442 : decode (ax_code 112) 442 = .ok (.iload 4, 2) := by decide +kernel
theorem dc_112_444 : decode (ax_code 112) 444 = .ok (.iload 5, 2) := by decide +kernel
theorem dc_112_446 : decode (ax_code 112) 446 = .ok (.iload 12, 2) := by decide +kernel
theorem dc_112_448 : decode (ax_code 112) 448 = .ok (.invokevirtual 131, 3) := by decide +kernel
theorem dc_112_451 : decode (ax_code 112) 451 = .ok (.iadd, 1) := by decide +kernel
theorem dc_112_452 : decode (ax_code 112) 452 = .ok (.istore 6, 2) := by decide +kernel
theorem dc_112_454 : decode (ax_code 112) 454 = .ok (.iinc 10 1, 3) := by decide +kernel
theorem dc_112_457 : decode (ax_code 112) 457 = .ok (.goto (-77), 3) := by decide +kernel
theorem dc_112_460 : decode (ax_code 112) 460 = .ok (.iload 6, 2) := by decide +kernel
theorem dc_112_462 : decode (ax_code 112) 462 = .ok (.aload_n 1, 1) := by decide +kernel
theorem dc_112_463 : decode (ax_code 112) 463 = .ok (.iload 5, 2) := by decide +kernel
theorem dc_112_465 : decode (ax_code 112) 465 = .ok (.invokevirtual 116, 3) := by decide +kernel
theorem dc_112_468 : decode (ax_code 112) 468 = .ok (.if_icmp .eq 5, 3) := by decide +kernel
theorem dc_112_471 : decode (ax_code 112) 471 = .ok (.iconst 0, 1) := by decide +kernel
theorem dc_112_472 : decode (ax_code 112) 472 = .ok (.ireturn, 1) := by decide +kernel
theorem dc_112_473 : decode (ax_code 112) 473 = .ok (.aload_n 1, 1) := by decide +kernel
theorem dc_112_474 : decode (ax_code 112) 474 = .ok (.iload 4, 2) := by decide +kernel
theorem dc_112_476 : decode (ax_code 112) 476 = .ok (.invokevirtual 151, 3) := by decide +kernel
theorem dc_112_479 : decode (ax_code 112) 479 = .ok (.istore 8, 2) := by decide +kernel
theorem dc_112_481 : decode (ax_code 112) 481 = .ok (.iconst 1, 1) := by decide +kernel
theorem dc_112_482 : decode (ax_code 112) 482 = .ok (.istore 9, 2) := by decide +kernel
theorem dc_112_484 : decode (ax_code 112) 484 = .ok (.iload 9, 2) := by decide +kernel
theorem dc_112_486 : decode (ax_code 112) 486 = .ok (.iload 8, 2) := by decide +kernel
theorem dc_112_488 : decode (ax_code 112) 488 = .ok (.if_icmp .ge 89, 3) := by decide +kernel
theorem dc_112_491 : decode (ax_code 112) 491 = .ok (.aload_n 1, 1) := by decide +kernel
theorem dc_112_492 : decode (ax_code 112) 492 = .ok (.iload 4, 2) := by decide +kernel
theorem dc_112_494 : decode (ax_code 112) 494 = .ok (.iload 9, 2) := by decide +kernel
theorem dc_112_496 : decode (ax_code 112) 496 = .ok (.iconst 1, 1) := by decide +kernel
theorem dc_112_497 : decode (ax_code 112) 497 = .ok (.isub, 1) := by decide +kernel
theorem dc_112_498 : decode (ax_code 112) 498 = .ok (.iconst 0, 1) := by decide +kernel
theorem dc_112_499 : decode (ax_code 112) 499 = .ok (.invokevirtual 153, 3) := by decide +kernel
theorem dc_112_502 : decode (ax_code 112) 502 = .ok (.aload_n 1, 1) := by decide +kernel
theorem dc_112_503 : decode (ax_code 112) 503 = .ok (.iload 4, 2) := by decide +kernel
theorem dc_112_505 : decode (ax_code 112) 505 = .ok (.iload 9, 2) := by decide +kernel
theorem dc_112_507 : decode (ax_code 112) 507 = .ok (.iconst 0, 1) := by decide +kernel
theorem dc_112_508 : decode (ax_code 112) 508 = .ok (.invokevirtual 153, 3) := by decide +kernel
theorem dc_112_511 : decode (ax_code 112) 511 = .ok (.if_icmp .gt 49, 3) := by decide +kernel
theorem dc_112_514 : decode (ax_code 112) 514 = .ok (.aload_n 1, 1) := by decide +kernel
theorem dc_112_515 : decode (ax_code 112) 515 = .ok (.iload 4, 2) := by decide +kernel
theorem dc_112_517 : decode (ax_code 112) 517 = .ok (.iload 9, 2) := by decide +kernel
theorem dc_112_519 : decode (ax_code 112) 519 = .ok (.iconst 1, 1) := by decide +kernel
theorem dc_112_520 : decode (ax_code 112) 520 = .ok (.isub, 1) := by decide +kernel
theorem dc_112_521 : decode (ax_code 112) 521 = .ok (.iconst 0, 1) := by decide +kernel
theorem dc_112_522 : decode (ax_code 112) 522 = .ok (.invokevirtual 153, 3) := by decide +kernel
theorem dc_112_525 : decode (ax_code 112) 525 = .ok (.aload_n 1, 1) := by decide +kernel
theorem dc_112_526 : decode (ax_code 112) 526 = .ok (.iload 4, 2) := by decide +kernel
theorem dc_112_528 : decode (ax_code 112) 528 = .ok (.iload 9, 2) := by decide +kernel
theorem dc_112_530 : decode (ax_code 112) 530 = .ok (.iconst 0, 1) := by decide +kernel
theorem dc_112_531 : decode (ax_code 112) 531 = .ok (.invokevirtual 153, 3) := by decide +kernel
theorem dc_112_534 : decode (ax_code 112) 534 = .ok (.if_icmp .ne 28, 3) := by decide +kernel
theorem dc_112_537 : decode (ax_code 112) 537 = .ok (.aload_n 1, 1) := by decide +kernel
theorem dc_112_538 : decode (ax_code 112) 538 = .ok (.iload 4, 2) := by decide +kernel
theorem dc_112_540 : decode (ax_code 112) 540 = .ok (.iload 9, 2) := by decide +kernel
theorem dc_112_542 : decode (ax_code 112) 542 = .ok (.iconst 1, 1) := by decide +kernel
theorem dc_112_543 : decode (ax_code 112) 543 = .ok (.isub, 1) := by decide +kernel
theorem dc_112_544 : decode (ax_code 112) 544 = .ok (.iconst 1, 1) := by decide +kernel
theorem dc_112_545 : decode (ax_code 112) 545 = .ok (.invokevirtual 153, 3) := by decide +kernel
theorem dc_112_548 : decode (ax_code 112) 548 = .ok (.aload_n 1, 1) := by decide +kernel
theorem dc_112_549 : decode (ax_code 112) 549 = .ok (.iload 4, 2) := by decide +kernel
theorem dc_112_551 : decode (ax_code 112) 551 = .ok (.iload 9, 2) := by decide +kernel
theorem dc_112_553 : decode (ax_code 112) 553 = .ok (.iconst 1, 1) := by decide +kernel
theorem dc_112_554 : decode (ax_code 112) 554 = .ok (.invokevirtual 153, 3) := by decide +kernel
theorem dc_112_557 : decode (ax_code 112) 557 = .ok (.if_icmp .lt 5, 3) := by decide +kernel
theorem dc_112_560 : decode (ax_code 112) 560 = .ok (.iconst 0, 1) := by decide +kernel
theorem dc_112_561 : decode (ax_code 112) 561 = .ok (.ireturn, 1) := by decide +kernel
theorem dc_112_562 : decode (ax_code 112) 562 = .ok (.iload 9, 2) := by decide +kernel
theorem dc_112_564 : decode (ax_code 112) 564 = .ok (.iconst 1, 1) := by decide +kernel
theorem dc_112_565 : decode (ax_code 112) 565 = .ok (.iload 8, 2) := by decide +kernel
theorem dc_112_567 : decode (ax_code 112) 567 = .ok (.bipush 9, 2) := by decide +kernel
theorem dc_112_569 : decode (ax_code 112) 569 = .ok (.idiv, 1) := by decide +kernel
theorem dc_112_570 : decode (ax_code 112) 570 = .ok (.iadd, 1) := by decide +kernel
theorem dc_112_571 : decode (ax_code 112) 571 = .ok (.iadd, 1) := by decide +kernel
theorem dc_112_572 : decode (ax_code 112) 572 = .ok (.istore 9, 2) := by decide +kernel
theorem dc_112_574 : decode (ax_code 112) 574 = .ok (.goto (-90), 3) := by decide +kernel
theorem dc_112_577 : decode (ax_code 112) 577 = .ok (.iinc 4 1, 3) := by decide +kernel
theorem dc_112_580 : decode (ax_code 112) 580 = .ok (.goto (-247), 3) := by decide +kernel
theorem dc_112_583 : decode (ax_code 112) 583 = .ok (.aload_n 2, 1) := by decide +kernel
theorem dc_112_584 : decode (ax_code 112) 584 = .ok (.getfield 52, 3) := by decide +kernel
theorem dc_112_587 : decode (ax_code 112) 587 = .ok (.ifCond .le 149, 3) := by decide +kernel
theorem dc_112_590 : decode (ax_code 112) 590 = .ok (.aload_n 0, 1) := by decide +kernel
theorem dc_112_591 : decode (ax_code 112) 591 = .ok (.bipush 43, 2) := by decide +kernel
theorem dc_112_593 : decode (ax_code 112) 593 = .ok (.invokestatic 23, 3) := by decide +kernel
theorem dc_112_596 : decode (ax_code 112) 596 = .ok (.iconst 3, 1) := by decide +kernel
theorem dc_112_597 : decode (ax_code 112) 597 = .ok (.irem, 1) := by decide +kernel
theorem dc_112_598 : decode (ax_code 112) 598 = .ok (.istore 4, 2) := by decide +kernel
theorem dc_112_600 : decode (ax_code 112) 600 = .ok (.aload_n 1, 1) := by decide +kernel
theorem dc_112_601 : decode (ax_code 112) 601 = .ok (.iload 4, 2) := by decide +kernel
theorem dc_112_603 : decode (ax_code 112) 603 = .ok (.aload_n 0, 1) := by decide +kernel
theorem dc_112_604 : decode (ax_code 112) 604 = .ok (.bipush 44, 2) := by decide +kernel
theorem dc_112_606 : decode (ax_code 112) 606 = .ok (.invokestatic 23, 3) := by decide +kernel
theorem dc_112_609 : decode (ax_code 112) 609 = .ok (.iload_n 3, 1) := by decide +kernel
theorem dc_112_610 : decode (ax_code 112) 610 = .ok (.irem, 1) := by decide +kernel
theorem dc_112_611 : decode (ax_code 112) 611 = .ok (.aload_n 2, 1) := by decide +kernel
theorem dc_112_612 : decode (ax_code 112) 612 = .ok (.getfield 52, 3) := by decide +kernel
theorem dc_112_615 : decode (ax_code 112) 615 = .ok (.invokevirtual 128, 3) := by decide +kernel
theorem dc_112_618 : decode (ax_code 112) 618 = .ok (.istore 5, 2) := by decide +kernel
theorem dc_112_620 : decode (ax_code 112) 620 = .ok (.aload_n 0, 1) := by decide +kernel
theorem dc_112_621 : decode (ax_code 112) 621 = .ok (.bipush 45, 2) := by decide +kernel
theorem dc_112_623 : decode (ax_code 112) 623 = .ok (.invokestatic 23, 3) := by decide +kernel
theorem dc_112_626 : decode (ax_code 112) 626 = .ok (.aload_n 2, 1) := by decide +kernel
theorem dc_112_627 : decode (ax_code 112) 627 = .ok (.getfield 52, 3) := by decide +kernel
theorem dc_112_630 : decode (ax_code 112) 630 = .ok (.irem, 1) := by decide +kernel
theorem dc_112_631 : decode (ax_code 112) 631 = .ok (.istore 6, 2) := by decide +kernel
theorem dc_112_633 : decode (ax_code 112) 633 = .ok (.aload_n 1, 1) := by decide +kernel
theorem dc_112_634 : decode (ax_code 112) 634 = .ok (.iload 4, 2) := by decide +kernel
theorem dc_112_636 : decode (ax_code 112) 636 = .ok (.aload_n 2, 1) := by decide +kernel
theorem dc_112_637 : decode (ax_code 112) 637 = .ok (.getfield 52, 3) := by decide +kernel
theorem dc_112_640 : decode (ax_code 112) 640 = .ok (.iload 5, 2) := by decide +kernel
theorem dc_112_642 : decode (ax_code 112) 642 = .ok (.iload 6, 2) := by decide +kernel
theorem dc_112_644 : decode (ax_code 112) 644 = .ok (.iconst 0, 1) := by decide +kernel
theorem dc_112_645 : decode (ax_code 112) 645 = .ok (.iconst 0, 1) := by decide +kernel
theorem dc_112_646 : decode (ax_code 112) 646 = .ok (.invokevirtual 156, 3) := by decide +kernel
theorem dc_112_649 : decode (ax_code 112) 649 = .ok (.ldc2_w 160, 3) := by decide +kernel
theorem dc_112_652 : decode (ax_code 112) 652 = .ok (.lcmp, 1) := by decide +kernel
theorem dc_112_653 : decode (ax_code 112) 653 = .ok (.ifCond .eq 83, 3) := by decide +kernel
theorem dc_112_656 : decode (ax_code 112) 656 = .ok (.dconst 0, 1) := by decide +kernel
theorem dc_112_657 : decode (ax_code 112) 657 = .ok (.dstore 7, 2) := by decide +kernel
theorem dc_112_659 : decode (ax_code 112) 659 = .ok (.iconst 0, 1) := by decide +kernel
theorem dc_112_660 : decode (ax_code 112) 660 = .ok (.istore 9, 2) := by decide +kernel
theorem dc_112_662 : decode (ax_code 112) 662 = .ok (.iload 9, 2) := by decide +kernel
theorem dc_112_664 : decode (ax_code 112) 664 = .ok (.iconst 5, 1) := by decide +kernel
theorem dc_112_665 : decode (ax_code 112) 665 = .ok (.if_icmp .ge 51, 3) := by decide +kernel
theorem dc_112_668 : decode (ax_code 112) 668 = .ok (.dload 7, 2) := by decide +kernel
theorem dc_112_670 : decode (ax_code 112) 670 = .ok (.aload_n 1, 1) := by decide +kernel
theorem dc_112_671 : decode (ax_code 112) 671 = .ok (.iload 4, 2) := by decide +kernel
theorem dc_112_673 : decode (ax_code 112) 673 = .ok (.aload_n 2, 1) := by decide +kernel
theorem dc_112_674 : decode (ax_code 112) 674 = .ok (.getfield 52, 3) := by decide +kernel
theorem dc_112_677 : decode (ax_code 112) 677 = .ok (.iload 5, 2) := by decide +kernel
theorem dc_112_679 : decode (ax_code 112) 679 = .ok (.iload 6, 2) := by decide +kernel
theorem dc_112_681 : decode (ax_code 112) 681 = .ok (.iload 9, 2) := by decide +kernel
theorem dc_112_683 : decode (ax_code 112) 683 = .ok (.iconst 0, 1) := by decide +kernel
theorem dc_112_684 : decode (ax_code 112) 684 = .ok (.invokevirtual 156, 3) := by decide +kernel
theorem dc_112_687 : decode (ax_code 112) 687 = .ok (.l2d, 1) := by decide +kernel
theorem dc_112_688 : decode (ax_code 112) 688 = .ok (.aload_n 1, 1) := by decide +kernel
theorem dc_112_689 : decode (ax_code 112) 689 = .ok (.iload 4, 2) := by decide +kernel
theorem dc_112_691 : decode (ax_code 112) 691 = .ok (.aload_n 2, 1) := by decide +kernel
theorem dc_112_692 : decode (ax_code 112) 692 = .ok (.getfield 52, 3) := by decide +kernel
theorem dc_112_695 : decode (ax_code 112) 695 = .ok (.iload 5, 2) := by decide +kernel
theorem dc_112_697 : decode (ax_code 112) 697 = .ok (.iload 6, 2) := by decide +kernel
theorem dc_112_699 : decode (ax_code 112) 699 = .ok (.iload 9, 2) := by decide +kernel
theorem dc_112_701 : decode (ax_code 112) 701 = .ok (.iconst 1, 1) := by decide +kernel
theorem dc_112_702 : decode (ax_code 112) 702 = .ok (.invokevirtual 156, 3) := by decide +kernel
theorem dc_112_705 : decode (ax_code 112) 705 = .ok (.l2d, 1) := by decide +kernel
theorem dc_112_706 : decode (ax_code 112) 706 = .ok (.ddiv, 1) := by decide +kernel
theorem dc_112_707 : decode (ax_code 112) 707 = .ok (.dadd, 1) := by decide +kernel
theorem dc_112_708 : decode (ax_code 112) 708 = .ok (.dstore 7, 2) := by decide +kernel
theorem dc_112_710 : decode (ax_code 112) 710 = .ok (.iinc 9 1, 3) := by decide +kernel
theorem dc_112_713 : decode (ax_code 112) 713 = .ok (.goto (-51), 3) := by decide +kernel
theorem dc_112_716 : decode (ax_code 112) 716 = .ok (.dload 7, 2) := by decide +kernel
theorem dc_112_718 : decode (ax_code 112) 718 = .ok (.ldc2_w 162, 3) := by decide +kernel
theorem dc_112_721 : decode (ax_code 112) 721 = .ok (.dcmp .g, 1) := by decide +kernel
theorem dc_112_722 : decode (ax_code 112) 722 = .ok (.ifCond .lt 12, 3) := by decide +kernel
theorem dc_112_725 : decode (ax_code 112) 725 = .ok (.dload 7, 2) := by decide +kernel
theorem dc_112_727 : decode (ax_code 112) 727 = .ok (.ldc2_w 164, 3) := by decide +kernel
theorem dc_112_730 : decode (ax_code 112) 730 = .ok (.dcmp .l, 1) := by decide +kernel
theorem dc_112_731 : decode (ax_code 112) 731 = .ok (.ifCond .le 5, 3) := by decide +kernel
theorem dc_112_734 : decode (ax_code 112) 734 = .ok (.iconst 0, 1) := by decide +kernel
theorem dc_112_735 : decode (ax_code 112) 735 = .ok (.ireturn, 1) := by decide +kernel
theorem dc_112_736 : decode (ax_code 112) 736 = .ok (.iconst 0, 1) := by decide +kernel
theorem dc_112_737 : decode (ax_code 112) 737 = .ok (.istore 4, 2) := by decide +kernel
theorem dc_112_739 : decode (ax_code 112) 739 = .ok (.iconst 1, 1) := by decide +kernel
theorem dc_112_740 : decode (ax_code 112) 740 = .ok (.istore 5, 2) := by decide +kernel
theorem dc_112_742 : decode (ax_code 112) 742 = .ok (.iconst 0, 1) := by decide +kernel
theorem dc_112_743 : decode (ax_code 112) 743 = .ok (.istore 6, 2) := by decide +kernel
theorem dc_112_745 : decode (ax_code 112) 745 = .ok (.iload 6, 2) := by decide +kernel
theorem dc_112_747 : decode (ax_code 112) 747 = .ok (.iconst 3, 1) := by decide +kernel
theorem dc_112_748 : decode (ax_code 112) 748 = .ok (.if_icmp .ge 139, 3) := by decide +kernel
theorem dc_112_751 : decode (ax_code 112) 751 = .ok (.aload_n 1, 1) := by decide +kernel
theorem dc_112_752 : decode (ax_code 112) 752 = .ok (.iload 6, 2) := by decide +kernel
theorem dc_112_754 : decode (ax_code 112) 754 = .ok (.iconst 1, 1) := by decide +kernel
theorem dc_112_755 : decode (ax_code 112) 755 = .ok (.invokevirtual 166, 3) := by decide +kernel
theorem dc_112_758 : decode (ax_code 112) 758 = .ok (.ldc2_w 169, 3) := by decide +kernel
theorem dc_112_761 : decode (ax_code 112) 761 = .ok (.lcmp, 1) := by decide +kernel
theorem dc_112_762 : decode (ax_code 112) 762 = .ok (.ifCond .ne 9, 3) := by decide +kernel
theorem dc_112_765 : decode (ax_code 112) 765 = .ok (.iconst 1, 1) := by decide +kernel
theorem dc_112_766 : decode (ax_code 112) 766 = .ok (.istore 4, 2) := by decide +kernel
theorem dc_112_768 : decode (ax_code 112) 768 = .ok (.goto 113, 3) := by decide +kernel
theorem dc_112_771 : decode (ax_code 112) 771 = .ok (.aload_n 1, 1) := by decide +kernel
theorem dc_112_772 : decode (ax_code 112) 772 = .ok (.iload 6, 2) := by decide +kernel
theorem dc_112_774 : decode (ax_code 112) 774 = .ok (.iconst 0, 1) := by decide +kernel
theorem dc_112_775 : decode (ax_code 112) 775 = .ok (.invokevirtual 166, 3) := by decide +kernel
theorem dc_112_778 : decode (ax_code 112) 778 = .ok (.l2d, 1) := by decide +kernel
theorem dc_112_779 : decode (ax_code 112) 779 = .ok (.aload_n 1, 1) := by decide +kernel
theorem dc_112_780 : decode (ax_code 112) 780 = .ok (.iload 6, 2) := by decide +kernel
theorem dc_112_782 : decode (ax_code 112) 782 = .ok (.iconst 1, 1) := by decide +kernel
theorem dc_112_783 : decode (ax_code 112) 783 = .ok (.invokevirtual 166, 3) := by decide +kernel
theorem dc_112_786 : decode (ax_code 112) 786 = .ok (.l2d, 1) := by decide +kernel
theorem dc_112_787 : decode (ax_code 112) 787 = .ok (.ddiv, 1) := by decide +kernel
theorem dc_112_788 : decode (ax_code 112) 788 = .ok (.dstore 7, 2) := by decide +kernel
theorem dc_112_790 : decode (ax_code 112) 790 = .ok (.aload_n 1, 1) := by decide +kernel
theorem dc_112_791 : decode (ax_code 112) 791 = .ok (.iload 6, 2) := by decide +kernel
theorem dc_112_793 : decode (ax_code 112) 793 = .ok (.iconst 0, 1) := by decide +kernel
theorem dc_112_794 : decode (ax_code 112) 794 = .ok (.invokevirtual 171, 3) := by decide +kernel
theorem dc_112_797 : decode (ax_code 112) 797 = .ok (.l2d, 1) := by decide +kernel
theorem dc_112_798 : decode (ax_code 112) 798 = .ok (.aload_n 1, 1) := by decide +kernel
theorem dc_112_799 : decode (ax_code 112) 799 = .ok (.iload 6, 2) := by decide +kernel
theorem dc_112_801 : decode (ax_code 112) 801 = .ok (.iconst 1, 1) := by decide +kernel
theorem dc_112_802 : decode (ax_code 112) 802 = .ok (.invokevirtual 171, 3) := by decide +kernel
theorem dc_112_805 : decode (ax_code 112) 805 = .ok (.l2d, 1) := by decide +kernel
theorem dc_112_806 : decode (ax_code 112) 806 = .ok (.ddiv, 1) := by decide +kernel
theorem dc_112_807 : decode (ax_code 112) 807 = .ok (.dstore 9, 2) := by decide +kernel
theorem dc_112_809 : decode (ax_code 112) 809 = .ok (.dload 7, 2) := by decide +kernel
theorem dc_112_811 : decode (ax_code 112) 811 = .ok (.dload 9, 2) := by decide +kernel
theorem dc_112_813 : decode (ax_code 112) 813 = .ok (.ldc2_w 174, 3) := by decide +kernel
theorem dc_112_816 : decode (ax_code 112) 816 = .ok (.dsub, 1) := by decide +kernel
theorem dc_112_817 : decode (ax_code 112) 817 = .ok (.dcmp .g, 1) := by decide +kernel
theorem dc_112_818 : decode (ax_code 112) 818 = .ok (.ifCond .lt 15, 3) := by decide +kernel
theorem dc_112_821 : decode (ax_code 112) 821 = .ok (.aload_n 1, 1) := by decide +kernel
theorem dc_112_822 : decode (ax_code 112) 822 = .ok (.iload 6, 2) := by decide +kernel
theorem dc_112_824 : decode (ax_code 112) 824 = .ok (.iconst 1, 1) := by decide +kernel
theorem dc_112_825 : decode (ax_code 112) 825 = .ok (.invokevirtual 166, 3) := by decide +kernel
theorem dc_112_828 : decode (ax_code 112) 828 = .ok (.lconst 1, 1) := by decide +kernel
theorem dc_112_829 : decode (ax_code 112) 829 = .ok (.lcmp, 1) := by decide +kernel
theorem dc_112_830 : decode (ax_code 112) 830 = .ok (.ifCond .ge 5, 3) := by decide +kernel
theorem dc_112_833 : decode (ax_code 112) 833 = .ok (.iconst 0, 1) := by decide +kernel
theorem dc_112_834 : decode (ax_code 112) 834 = .ok (.ireturn, 1) := by decide +kernel
theorem dc_112_835 : decode (ax_code 112) 835 = .ok (.iload 5, 2) := by decide +kernel
theorem dc_112_837 : decode (ax_code 112) 837 = .ok (.aload_n 1, 1) := by decide +kernel
theorem dc_112_838 : decode (ax_code 112) 838 = .ok (.iload 6, 2) := by decide +kernel
theorem dc_112_840 : decode (ax_code 112) 840 = .ok (.iconst 0, 1) := by decide +kernel
theorem dc_112_841 : decode (ax_code 112) 841 = .ok (.invokevirtual 166, 3) := by decide +kernel
theorem dc_112_844 : decode (ax_code 112) 844 = .ok (.aload_n 1, 1) := by decide +kernel
theorem dc_112_845 : decode (ax_code 112) 845 = .ok (.iload 6, 2) := by decide +kernel
theorem dc_112_847 : decode (ax_code 112) 847 = .ok (.iconst 0, 1) := by decide +kernel
theorem dc_112_848 : decode (ax_code 112) 848 = .ok (.invokevirtual 171, 3) := by decide +kernel
theorem dc_112_851 : decode (ax_code 112) 851 = .ok (.lcmp, 1) := by decide +kernel
theorem dc_112_852 : decode (ax_code 112) 852 = .ok (.ifCond .ne 25, 3) := by decide +kernel
theorem dc_112_855 : decode (ax_code 112) 855 = .ok (.aload_n 1, 1) := by decide +kernel
theorem dc_112_856 : decode (ax_code 112) 856 = .ok (.iload 6, 2) := by decide +kernel
theorem dc_112_858 : decode (ax_code 112) 858 = .ok (.iconst 1, 1) := by decide +kernel
theorem dc_112_859 : decode (ax_code 112) 859 = .ok (.invokevirtual 166, 3) := by decide +kernel
theorem dc_112_862 : decode (ax_code 112) 862 = .ok (.aload_n 1, 1) := by decide +kernel
theorem dc_112_863 : decode (ax_code 112) 863 = .ok (.iload 6, 2) := by decide +kernel
theorem dc_112_865 : decode (ax_code 112) 865 = .ok (.iconst 1, 1) := by decide +kernel
theorem dc_112_866 : decode (ax_code 112) 866 = .ok (.invokevirtual 171, 3) := by decide +kernel
theorem dc_112_869 : decode (ax_code 112) 869 = .ok (.lcmp, 1) := by decide +kernel
theorem dc_112_870 : decode (ax_code 112) 870 = .ok (.ifCond .ne 7, 3) := by decide +kernel
theorem dc_112_873 : decode (ax_code 112) 873 = .ok (.iconst 1, 1) := by decide +kernel
theorem dc_112_874 : decode (ax_code 112) 874 = .ok (.goto 4, 3) := by decide +kernel
theorem dc_112_877 : decode (ax_code 112) 877 = .ok (.iconst 0, 1) := by decide +kernel
theorem dc_112_878 : decode (ax_code 112) 878 = .ok (.iand, 1) := by decide +kernel
theorem dc_112_879 : decode (ax_code 112) 879 = .ok (.istore 5, 2) := by decide +kernel
theorem dc_112_881 : decode (ax_code 112) 881 = .ok (.iinc 6 1, 3) := by decide +kernel
theorem dc_112_884 : decode (ax_code 112) 884 = .ok (.goto (-139), 3) := by decide +kernel
theorem dc_112_887 : decode (ax_code 112) 887 = .ok (.aload_n 1, 1) := by decide +kernel
theorem dc_112_888 : decode (ax_code 112) 888 = .ok (.invokevirtual 176, 3) := by decide +kernel
theorem dc_112_891 : decode (ax_code 112) 891 = .ok (.iload 4, 2) := by decide +kernel
theorem dc_112_893 : decode (ax_code 112) 893 = .ok (.ifCond .eq 8, 3) := by decide +kernel
theorem dc_112_896 : decode (ax_code 112) 896 = .ok (.bipush (-5), 2) := by decide +kernel
theorem dc_112_898 : decode (ax_code 112) 898 = .ok (.goto 13, 3) := by decide +kernel
theorem dc_112_901 : decode (ax_code 112) 901 = .ok (.iload 5, 2) := by decide +kernel
theorem dc_112_903 : decode (ax_code 112) 903 = .ok (.ifCond .eq 7, 3) := by decide +kernel
theorem dc_112_906 : decode (ax_code 112) 906 = .ok (.iconst 1, 1) := by decide +kernel
theorem dc_112_907 : decode (ax_code 112) 907 = .ok (.goto 4, 3) := by decide +kernel
theorem dc_112_910 : decode (ax_code 112) 910 = .ok (.iconst 0, 1) := by decide +kernel
theorem dc_112_911 : decode (ax_code 112) 911 = .ok (.if_icmp .eq 5, 3) := by decide +kernel
theorem dc_112_914 : decode (ax_code 112) 914 = .ok (.iconst 0, 1) := by decide +kernel
theorem dc_112_915 : decode (ax_code 112) 915 = .ok (.ireturn, 1) := by decide +kernel
theorem dc_112_916 : decode (ax_code 112) 916 = .ok (.iconst 0, 1) := by decide +kernel
theorem dc_112_917 : decode (ax_code 112) 917 = .ok (.istore 6, 2) := by decide +kernel
theorem dc_112_919 : decode (ax_code 112) 919 = .ok (.iload 6, 2) := by decide +kernel
theorem dc_112_921 : decode (ax_code 112) 921 = .ok (.iconst 3, 1) := by decide +kernel
theorem dc_112_922 : decode (ax_code 112) 922 = .ok (.if_icmp .ge 105, 3) := by decide +kernel
theorem dc_112_925 : decode (ax_code 112) 925 = .ok (.aload_n 1, 1) := by decide +kernel
theorem dc_112_926 : decode (ax_code 112) 926 = .ok (.iload 6, 2) := by decide +kernel
theorem dc_112_928 : decode (ax_code 112) 928 = .ok (.iconst 1, 1) := by decide +kernel
theorem dc_112_929 : decode (ax_code 112) 929 = .ok (.invokevirtual 166, 3) := by decide +kernel
theorem dc_112_932 : decode (ax_code 112) 932 = .ok (.ldc2_w 169, 3) := by decide +kernel
theorem dc_112_935 : decode (ax_code 112) 935 = .ok (.lcmp, 1) := by decide +kernel
theorem dc_112_936 : decode (ax_code 112) 936 = .ok (.ifCond .ne 6, 3) := by decide +kernel
theorem dc_112_939 : decode (ax_code 112) 939 = .ok (.goto 82, 3) := by decide +kernel
theorem dc_112_942 : decode (ax_code 112) 942 = .ok (.aload_n 1, 1) := by decide +kernel
theorem dc_112_943 : decode (ax_code 112) 943 = .ok (.iload 6, 2) := by decide +kernel
theorem dc_112_945 : decode (ax_code 112) 945 = .ok (.iconst 0, 1) := by decide +kernel
theorem dc_112_946 : decode (ax_code 112) 946 = .ok (.invokevirtual 166, 3) := by decide +kernel
theorem dc_112_949 : decode (ax_code 112) 949 = .ok (.lstore 7, 2) := by decide +kernel
theorem dc_112_951 : decode (ax_code 112) 951 = .ok (.aload_n 1, 1) := by decide +kernel
theorem dc_112_952 : decode (ax_code 112) 952 = .ok (.iload 6, 2) := by decide +kernel
theorem dc_112_954 : decode (ax_code 112) 954 = .ok (.iconst 1, 1) := by decide +kernel
theorem dc_112_955 : decode (ax_code 112) 955 = .ok (.invokevirtual 166, 3) := by decide +kernel
theorem dc_112_958 : decode (ax_code 112) 958 = .ok (.lstore 9, 2) := by decide +kernel
theorem dc_112_960 : decode (ax_code 112) 960 = .ok (.aload_n 1, 1) := by decide +kernel
theorem dc_112_961 : decode (ax_code 112) 961 = .ok (.iload 6, 2) := by decide +kernel
theorem dc_112_963 : decode (ax_code 112) 963 = .ok (.invokevirtual 179, 3) := by decide +kernel
theorem dc_112_966 : decode (ax_code 112) 966 = .ok (.istore 11, 2) := by decide +kernel
theorem dc_112_968 : decode (ax_code 112) 968 = .ok (.iload 11, 2) := by decide +kernel
theorem dc_112_970 : decode (ax_code 112) 970 = .ok (.bipush (-4), 2) := by decide +kernel
theorem dc_112_972 : decode (ax_code 112) 972 = .ok (.if_icmp .eq 49, 3) := by decide +kernel
theorem dc_112_975 : decode (ax_code 112) 975 = .ok (.iload 11, 2) := by decide +kernel
theorem dc_112_977 : decode (ax_code 112) 977 = .ok (.ifCond .lt 42, 3) := by decide +kernel
theorem dc_112_980 : decode (ax_code 112) 980 = .ok (.aload_n 1, 1) := by decide +kernel
theorem dc_112_981 : decode (ax_code 112) 981 = .ok (.iload 6, 2) := by decide +kernel
theorem dc_112_983 : decode (ax_code 112) 983 = .ok (.iconst 0, 1) := by decide +kernel
theorem dc_112_984 : decode (ax_code 112) 984 = .ok (.invokevirtual 171, 3) := by decide +kernel
theorem dc_112_987 : decode (ax_code 112) 987 = .ok (.lload 7, 2) := by decide +kernel
theorem dc_112_989 : decode (ax_code 112) 989 = .ok (.lcmp, 1) := by decide +kernel
theorem dc_112_990 : decode (ax_code 112) 990 = .ok (.ifCond .ne 29, 3) := by decide +kernel
theorem dc_112_993 : decode (ax_code 112) 993 = .ok (.aload_n 1, 1) := by decide +kernel
theorem dc_112_994 : decode (ax_code 112) 994 = .ok (.iload 6, 2) := by decide +kernel
theorem dc_112_996 : decode (ax_code 112) 996 = .ok (.iconst 1, 1) := by decide +kernel
theorem dc_112_997 : decode (ax_code 112) 997 = .ok (.invokevirtual 171, 3) := by decide +kernel
theorem dc_112_1000 : decode (ax_code 112) 1000 = .ok (.lload 9, 2) := by decide +kernel
theorem dc_112_1002 : decode (ax_code 112) 1002 = .ok (.lcmp, 1) := by decide +kernel
theorem dc_112_1003 : decode (ax_code 112) 1003 = .ok (.ifCond .ne 16, 3) := by decide +kernel
theorem dc_112_1006 : decode (ax_code 112) 1006 = .ok (.aload_n 1, 1) := by decide +kernel
theorem dc_112_1007 : decode (ax_code 112) 1007 = .ok (.iload 6, 2) := by decide +kernel
theorem dc_112_1009 : decode (ax_code 112) 1009 = .ok (.iconst 0, 1) := by decide +kernel
theorem dc_112_1010 : decode (ax_code 112) 1010 = .ok (.invokevirtual 166, 3) := by decide +kernel
theorem dc_112_1013 : decode (ax_code 112) 1013 = .ok (.lload 7, 2) := by decide +kernel
theorem dc_112_1015 : decode (ax_code 112) 1015 = .ok (.lcmp, 1) := by decide +kernel
theorem dc_112_1016 : decode (ax_code 112) 1016 = .ok (.ifCond .eq 5, 3) := by decide +kernel
theorem dc_112_1019 : decode (ax_code 112) 1019 = .ok (.iconst 0, 1) := by decide +kernel
theorem dc_112_1020 : decode (ax_code 112) 1020 = .ok (.ireturn, 1) := by decide +kernel
theorem dc_112_1021 : decode (ax_code 112) 1021 = .ok (.iinc 6 1, 3) := by decide +kernel
theorem dc_112_1024 : decode (ax_code 112) 1024 = .ok (.goto (-105), 3) := by decide +kernel
theorem dc_112_1027 : decode (ax_code 112) 1027 = .ok (.aload_n 0, 1) := by decide +kernel
theorem dc_112_1028 : decode (ax_code 112) 1028 = .ok (.bipush 46, 2) := by decide +kernel
theorem dc_112_1030 : decode (ax_code 112) 1030 = .ok (.invokestatic 23, 3) := by decide +kernel
theorem dc_112_1033 : decode (ax_code 112) 1033 = .ok (.iconst 3, 1) := by decide +kernel
theorem dc_112_1034 : decode (ax_code 112) 1034 = .ok (.irem, 1) := by decide +kernel
theorem dc_112_1035 : decode (ax_code 112) 1035 = .ok (.istore 6, 2) := by decide +kernel
theorem dc_112_1037 : decode (ax_code 112) 1037 = .ok (.aload_n 1, 1) := by decide +kernel
theorem dc_112_1038 : decode (ax_code 112) 1038 = .ok (.iload 6, 2) := by decide +kernel
theorem dc_112_1040 : decode (ax_code 112) 1040 = .ok (.iconst 1, 1) := by decide +kernel
theorem dc_112_1041 : decode (ax_code 112) 1041 = .ok (.invokevirtual 166, 3) := by decide +kernel
theorem dc_112_1044 : decode (ax_code 112) 1044 = .ok (.ldc2_w 169, 3) := by decide +kernel
theorem dc_112_1047 : decode (ax_code 112) 1047 = .ok (.lcmp, 1) := by decide +kernel
theorem dc_112_1048 : decode (ax_code 112) 1048 = .ok (.ifCond .eq 140, 3) := by decide +kernel
theorem dc_112_1051 : decode (ax_code 112) 1051 = .ok (.aload_n 1, 1) := by decide +kernel
theorem dc_112_1052 : decode (ax_code 112) 1052 = .ok (.iload 6, 2) := by decide +kernel
theorem dc_112_1054 : decode (ax_code 112) 1054 = .ok (.iconst 0, 1) := by decide +kernel
theorem dc_112_1055 : decode (ax_code 112) 1055 = .ok (.invokevirtual 166, 3) := by decide +kernel
theorem dc_112_1058 : decode (ax_code 112) 1058 = .ok (.l2d, 1) := by decide +kernel
theorem dc_112_1059 : decode (ax_code 112) 1059 = .ok (.aload_n 1, 1) := by decide +kernel
theorem dc_112_1060 : decode (ax_code 112) 1060 = .ok (.iload 6, 2) := by decide +kernel
theorem dc_112_1062 : decode (ax_code 112) 1062 = .ok (.iconst 1, 1) := by decide +kernel
theorem dc_112_1063 : decode (ax_code 112) 1063 = .ok (.invokevirtual 166, 3) := by decide +kernel
theorem dc_112_1066 : decode (ax_code 112) 1066 = .ok (.l2d, 1) := by decide +kernel
theorem dc_112_1067 : decode (ax_code 112) 1067 = .ok (.ddiv, 1) := by decide +kernel
theorem dc_112_1068 : decode (ax_code 112) 1068 = .ok (.dstore 7, 2) := by decide +kernel
theorem dc_112_1070 : decode (ax_code 112) 1070 = .ok (.iconst 0, 1) := by decide +kernel
theorem dc_112_1071 : decode (ax_code 112) 1071 = .ok (.istore 9, 2) := by decide +kernel
theorem dc_112_1073 : decode (ax_code 112) 1073 = .ok (.iload 9, 2) := by decide +kernel
theorem dc_112_1075 : decode (ax_code 112) 1075 = .ok (.iconst 5, 1) := by decide +kernel
theorem dc_112_1076 : decode (ax_code 112) 1076 = .ok (.if_icmp .ge 112, 3) := by decide +kernel
theorem dc_112_1079 : decode (ax_code 112) 1079 = .ok (.aload_n 1, 1) := by decide +kernel
theorem dc_112_1080 : decode (ax_code 112) 1080 = .ok (.iload 6, 2) := by decide +kernel
theorem dc_112_1082 : decode (ax_code 112) 1082 = .ok (.invokevirtual 151, 3) := by decide +kernel
theorem dc_112_1085 : decode (ax_code 112) 1085 = .ok (.istore 10, 2) := by decide +kernel
theorem dc_112_1087 : decode (ax_code 112) 1087 = .ok (.iload 10, 2) := by decide +kernel
theorem dc_112_1089 : decode (ax_code 112) 1089 = .ok (.ifCond .ne 6, 3) := by decide +kernel
theorem dc_112_1092 : decode (ax_code 112) 1092 = .ok (.goto 96, 3) := by decide +kernel
theorem dc_112_1095 : decode (ax_code 112) 1095 = .ok (.aload_n 0, 1) := by decide +kernel
theorem dc_112_1096 : decode (ax_code 112) 1096 = .ok (.bipush 47, 2) := by decide +kernel
theorem dc_112_1098 : decode (ax_code 112) 1098 = .ok (.iload 9, 2) := by decide +kernel
theorem dc_112_1100 : decode (ax_code 112) 1100 = .ok (.iadd, 1) := by decide +kernel
theorem dc_112_1101 : decode (ax_code 112) 1101 = .ok (.invokestatic 23, 3) := by decide +kernel
theorem dc_112_1104 : decode (ax_code 112) 1104 = .ok (.iload 10, 2) := by decide +kernel
theorem dc_112_1106 : decode (ax_code 112) 1106 = .ok (.irem, 1) := by decide +kernel
theorem dc_112_1107 : decode (ax_code 112) 1107 = .ok (.istore 11, 2) := by decide +kernel
theorem dc_112_1109 : decode (ax_code 112) 1109 = .ok (.aload_n 1, 1) := by decide +kernel
theorem dc_112_1110 : decode (ax_code 112) 1110 = .ok (.iload 6, 2) := by decide +kernel
theorem dc_112_1112 : decode (ax_code 112) 1112 = .ok (.aload_n 1, 1) := by decide +kernel
theorem dc_112_1113 : decode (ax_code 112) 1113 = .ok (.iload 6, 2) := by decide +kernel
theorem dc_112_1115 : decode (ax_code 112) 1115 = .ok (.iload 11, 2) := by decide +kernel
theorem dc_112_1117 : decode (ax_code 112) 1117 = .ok (.iconst 0, 1) := by decide +kernel
theorem dc_112_1118 : decode (ax_code 112) 1118 = .ok (.invokevirtual 153, 3) := by decide +kernel
theorem dc_112_1121 : decode (ax_code 112) 1121 = .ok (.aload_n 1, 1) := by decide +kernel
theorem dc_112_1122 : decode (ax_code 112) 1122 = .ok (.iload 6, 2) := by decide +kernel
theorem dc_112_1124 : decode (ax_code 112) 1124 = .ok (.iload 11, 2) := by decide +kernel
theorem dc_112_1126 : decode (ax_code 112) 1126 = .ok (.iconst 1, 1) := by decide +kernel
theorem dc_112_1127 : decode (ax_code 112) 1127 = .ok (.invokevirtual 153, 3) := by decide +kernel
theorem dc_112_1130 : decode (ax_code 112) 1130 = .ok (.aload_n 0, 1) := by decide +kernel
theorem dc_112_1131 : decode (ax_code 112) 1131 = .ok (.bipush 52, 2) := by decide +kernel
theorem dc_112_1133 : decode (ax_code 112) 1133 = .ok (.iload 9, 2) := by decide +kernel
theorem dc_112_1135 : decode (ax_code 112) 1135 = .ok (.iadd, 1) := by decide +kernel
theorem dc_112_1136 : decode (ax_code 112) 1136 = .ok (.invokestatic 23, 3) := by decide +kernel
theorem dc_112_1139 : decode (ax_code 112) 1139 = .ok (.iconst 2, 1) := by decide +kernel
theorem dc_112_1140 : decode (ax_code 112) 1140 = .ok (.irem, 1) := by decide +kernel
theorem dc_112_1141 : decode (ax_code 112) 1141 = .ok (.invokevirtual 182, 3) := by decide +kernel
theorem dc_112_1144 : decode (ax_code 112) 1144 = .ok (.istore 12, 2) := by decide +kernel
theorem dc_112_1146 : decode (ax_code 112) 1146 = .ok (.iload 12, 2) := by decide +kernel
theorem dc_112_1148 : decode (ax_code 112) 1148 = .ok (.bipush (-4), 2) := by decide +kernel
theorem dc_112_1150 : decode (ax_code 112) 1150 = .ok (.if_icmp .eq 32, 3) := by decide +kernel
theorem dc_112_1153 : decode (ax_code 112) 1153 = .ok (.aload_n 1, 1) := by decide +kernel
theorem dc_112_1154 : decode (ax_code 112) 1154 = .ok (.iload 6, 2) := by decide +kernel
theorem dc_112_1156 : decode (ax_code 112) 1156 = .ok (.iconst 0, 1) := by decide +kernel
theorem dc_112_1157 : decode (ax_code 112) 1157 = .ok (.invokevirtual 171, 3) := by decide +kernel
theorem dc_112_1160 : decode (ax_code 112) 1160 = .ok (.l2d, 1) := by decide +kernel
theorem dc_112_1161 : decode (ax_code 112) 1161 = .ok (.aload_n 1, 1) := by decide +kernel
theorem dc_112_1162 : decode (ax_code 112) 1162 = .ok (.iload 6, 2) := by decide +kernel
theorem dc_112_1164 : decode (ax_code 112) 1164 = .ok (.iconst 1, 1) := by decide +kernel
theorem dc_112_1165 : decode (ax_code 112) 1165 = .ok (.invokevirtual 171, 3) := by decide +kernel
theorem dc_112_1168 : decode (ax_code 112) 1168 = .ok (.l2d, 1) := by decide +kernel
theorem dc_112_1169 : decode (ax_code 112) 1169 = .ok (.ddiv, 1) := by decide +kernel
theorem dc_112_1170 : decode (ax_code 112) 1170 = .ok (.dload 7, 2) := by decide +kernel
theorem dc_112_1172 : decode (ax_code 112) 1172 = .ok (.ldc2_w 174, 3) := by decide +kernel
theorem dc_112_1175 : decode (ax_code 112) 1175 = .ok (.dadd, 1) := by decide +kernel
theorem dc_112_1176 : decode (ax_code 112) 1176 = .ok (.dcmp .l, 1) := by decide +kernel
theorem dc_112_1177 : decode (ax_code 112) 1177 = .ok (.ifCond .le 5, 3) := by decide +kernel
theorem dc_112_1180 : decode (ax_code 112) 1180 = .ok (.iconst 0, 1) := by decide +kernel
theorem dc_112_1181 : decode (ax_code 112) 1181 = .ok (.ireturn, 1) := by decide +kernel
theorem dc_112_1182 : decode (ax_code 112) 1182 = .ok (.iinc 9 1, 3) := by decide +kernel
theorem dc_112_1185 : decode (ax_code 112) 1185 = .ok (.goto (-112), 3) := by decide +kernel
theorem dc_112_1188 : decode (ax_code 112) 1188 = .ok (.aload_n 1, 1) := by decide +kernel
theorem dc_112_1189 : decode (ax_code 112) 1189 = .ok (.iconst 1, 1) := by decide +kernel
theorem dc_112_1190 : decode (ax_code 112) 1190 = .ok (.invokevirtual 96, 3) := by decide +kernel
theorem dc_112_1193 : decode (ax_code 112) 1193 = .ok (.aload_n 2, 1) := by decide +kernel
theorem dc_112_1194 : decode (ax_code 112) 1194 = .ok (.getfield 52, 3) := by decide +kernel
theorem dc_112_1197 : decode (ax_code 112) 1197 = .ok (.i2l, 1) := by decide +kernel
theorem dc_112_1198 : decode (ax_code 112) 1198 = .ok (.lcmp, 1) := by decide +kernel
theorem dc_112_1199 : decode (ax_code 112) 1199 = .ok (.ifCond .ne 7, 3) := by decide +kernel
theorem dc_112_1202 : decode (ax_code 112) 1202 = .ok (.iconst 1, 1) := by decide +kernel
theorem dc_112_1203 : decode (ax_code 112) 1203 = .ok (.goto 4, 3) := by decide +kernel
theorem dc_112_1206 : decode (ax_code 112) 1206 = .ok (.iconst 0, 1) := by decide +kernel
theorem dc_112_1207 : decode (ax_code 112) 1207 = .ok (.ireturn, 1) := by decide +kernel
