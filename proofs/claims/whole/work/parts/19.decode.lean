/-! DECODE ROWS of the reference -/
theorem dc_154_0 : decode (ax_code 154) 0 = .ok (.iload_n 1, 1) := by decide +kernel
theorem dc_154_1 : decode (ax_code 154) 1 = .ok (.i2l, 1) := by decide +kernel
theorem dc_154_2 : decode (ax_code 154) 2 = .ok (.lconst 1, 1) := by decide +kernel
theorem dc_154_3 : decode (ax_code 154) 3 = .ok (.ldc2_w 134, 3) := by decide +kernel
theorem dc_154_6 : decode (ax_code 154) 6 = .ok (.invokestatic 123, 3) := by decide +kernel
theorem dc_154_9 : decode (ax_code 154) 9 = .ok (.ifCond .ne 6, 3) := by decide +kernel
theorem dc_154_12 : decode (ax_code 154) 12 = .ok (.bipush (-2), 2) := by decide +kernel
theorem dc_154_14 : decode (ax_code 154) 14 = .ok (.ireturn, 1) := by decide +kernel
theorem dc_154_15 : decode (ax_code 154) 15 = .ok (.aload_n 0, 1) := by decide +kernel
theorem dc_154_16 : decode (ax_code 154) 16 = .ok (.getfield 7, 3) := by decide +kernel
theorem dc_154_19 : decode (ax_code 154) 19 = .ok (.istore_n 2, 1) := by decide +kernel
theorem dc_154_20 : decode (ax_code 154) 20 = .ok (.aload_n 0, 1) := by decide +kernel
theorem dc_154_21 : decode (ax_code 154) 21 = .ok (.iload_n 1, 1) := by decide +kernel
theorem dc_154_22 : decode (ax_code 154) 22 = .ok (.putfield 7, 3) := by decide +kernel
theorem dc_154_25 : decode (ax_code 154) 25 = .ok (.iconst 0, 1) := by decide +kernel
theorem dc_154_26 : decode (ax_code 154) 26 = .ok (.istore_n 3, 1) := by decide +kernel
theorem dc_154_27 : decode (ax_code 154) 27 = .ok (.iload_n 3, 1) := by decide +kernel
theorem dc_154_28 : decode (ax_code 154) 28 = .ok (.iconst 5, 1) := by decide +kernel
theorem dc_154_29 : decode (ax_code 154) 29 = .ok (.if_icmp .ge 16, 3) := by decide +kernel
theorem dc_154_32 : decode (ax_code 154) 32 = .ok (.aload_n 0, 1) := by decide +kernel
theorem dc_154_33 : decode (ax_code 154) 33 = .ok (.getfield 13, 3) := by decide +kernel
theorem dc_154_36 : decode (ax_code 154) 36 = .ok (.iload_n 3, 1) := by decide +kernel
theorem dc_154_37 : decode (ax_code 154) 37 = .ok (.iconst 0, 1) := by decide +kernel
theorem dc_154_38 : decode (ax_code 154) 38 = .ok (.iastore, 1) := by decide +kernel
theorem dc_154_39 : decode (ax_code 154) 39 = .ok (.iinc 3 1, 3) := by decide +kernel
theorem dc_154_42 : decode (ax_code 154) 42 = .ok (.goto (-15), 3) := by decide +kernel
theorem dc_154_45 : decode (ax_code 154) 45 = .ok (.aload_n 0, 1) := by decide +kernel
theorem dc_154_46 : decode (ax_code 154) 46 = .ok (.iconst 0, 1) := by decide +kernel
theorem dc_154_47 : decode (ax_code 154) 47 = .ok (.putfield 127, 3) := by decide +kernel
theorem dc_154_50 : decode (ax_code 154) 50 = .ok (.aload_n 0, 1) := by decide +kernel
theorem dc_154_51 : decode (ax_code 154) 51 = .ok (.iconst 0, 1) := by decide +kernel
theorem dc_154_52 : decode (ax_code 154) 52 = .ok (.putfield 136, 3) := by decide +kernel
theorem dc_154_55 : decode (ax_code 154) 55 = .ok (.aload_n 0, 1) := by decide +kernel
theorem dc_154_56 : decode (ax_code 154) 56 = .ok (.iconst 0, 1) := by decide +kernel
theorem dc_154_57 : decode (ax_code 154) 57 = .ok (.putfield 139, 3) := by decide +kernel
theorem dc_154_60 : decode (ax_code 154) 60 = .ok (.aload_n 0, 1) := by decide +kernel
theorem dc_154_61 : decode (ax_code 154) 61 = .ok (.lconst 1, 1) := by decide +kernel
theorem dc_154_62 : decode (ax_code 154) 62 = .ok (.putfield 32, 3) := by decide +kernel
theorem dc_154_65 : decode (ax_code 154) 65 = .ok (.iload_n 2, 1) := by decide +kernel
theorem dc_154_66 : decode (ax_code 154) 66 = .ok (.ireturn, 1) := by decide +kernel
theorem dc_155_0 : decode (ax_code 155) 0 = .ok (.lload_n 0, 1) := by decide +kernel
theorem dc_155_1 : decode (ax_code 155) 1 = .ok (.lload_n 2, 1) := by decide +kernel
theorem dc_155_2 : decode (ax_code 155) 2 = .ok (.lcmp, 1) := by decide +kernel
theorem dc_155_3 : decode (ax_code 155) 3 = .ok (.ifCond .lt 14, 3) := by decide +kernel
theorem dc_155_6 : decode (ax_code 155) 6 = .ok (.lload_n 0, 1) := by decide +kernel
theorem dc_155_7 : decode (ax_code 155) 7 = .ok (.lload 4, 2) := by decide +kernel
theorem dc_155_9 : decode (ax_code 155) 9 = .ok (.lcmp, 1) := by decide +kernel
theorem dc_155_10 : decode (ax_code 155) 10 = .ok (.ifCond .gt 7, 3) := by decide +kernel
theorem dc_155_13 : decode (ax_code 155) 13 = .ok (.iconst 1, 1) := by decide +kernel
theorem dc_155_14 : decode (ax_code 155) 14 = .ok (.goto 4, 3) := by decide +kernel
theorem dc_155_17 : decode (ax_code 155) 17 = .ok (.iconst 0, 1) := by decide +kernel
theorem dc_155_18 : decode (ax_code 155) 18 = .ok (.ireturn, 1) := by decide +kernel
theorem dc_156_0 : decode (ax_code 156) 0 = .ok (.iload_n 1, 1) := by decide +kernel
theorem dc_156_1 : decode (ax_code 156) 1 = .ok (.i2l, 1) := by decide +kernel
theorem dc_156_2 : decode (ax_code 156) 2 = .ok (.lconst 0, 1) := by decide +kernel
theorem dc_156_3 : decode (ax_code 156) 3 = .ok (.aload_n 0, 1) := by decide +kernel
theorem dc_156_4 : decode (ax_code 156) 4 = .ok (.getfield 7, 3) := by decide +kernel
theorem dc_156_7 : decode (ax_code 156) 7 = .ok (.iconst 1, 1) := by decide +kernel
theorem dc_156_8 : decode (ax_code 156) 8 = .ok (.isub, 1) := by decide +kernel
theorem dc_156_9 : decode (ax_code 156) 9 = .ok (.i2l, 1) := by decide +kernel
theorem dc_156_10 : decode (ax_code 156) 10 = .ok (.invokestatic 123, 3) := by decide +kernel
theorem dc_156_13 : decode (ax_code 156) 13 = .ok (.ifCond .eq 17, 3) := by decide +kernel
theorem dc_156_16 : decode (ax_code 156) 16 = .ok (.iload_n 2, 1) := by decide +kernel
theorem dc_156_17 : decode (ax_code 156) 17 = .ok (.i2l, 1) := by decide +kernel
theorem dc_156_18 : decode (ax_code 156) 18 = .ok (.ldc2_w 142, 3) := by decide +kernel
theorem dc_156_21 : decode (ax_code 156) 21 = .ok (.ldc2_w 144, 3) := by decide +kernel
theorem dc_156_24 : decode (ax_code 156) 24 = .ok (.invokestatic 123, 3) := by decide +kernel
theorem dc_156_27 : decode (ax_code 156) 27 = .ok (.ifCond .ne 6, 3) := by decide +kernel
theorem dc_156_30 : decode (ax_code 156) 30 = .ok (.bipush (-2), 2) := by decide +kernel
theorem dc_156_32 : decode (ax_code 156) 32 = .ok (.ireturn, 1) := by decide +kernel
theorem dc_156_33 : decode (ax_code 156) 33 = .ok (.aload_n 0, 1) := by decide +kernel
theorem dc_156_34 : decode (ax_code 156) 34 = .ok (.getfield 13, 3) := by decide +kernel
theorem dc_156_37 : decode (ax_code 156) 37 = .ok (.iload_n 1, 1) := by decide +kernel
theorem dc_156_38 : decode (ax_code 156) 38 = .ok (.iaload, 1) := by decide +kernel
theorem dc_156_39 : decode (ax_code 156) 39 = .ok (.istore_n 3, 1) := by decide +kernel
theorem dc_156_40 : decode (ax_code 156) 40 = .ok (.aload_n 0, 1) := by decide +kernel
theorem dc_156_41 : decode (ax_code 156) 41 = .ok (.getfield 13, 3) := by decide +kernel
theorem dc_156_44 : decode (ax_code 156) 44 = .ok (.iload_n 1, 1) := by decide +kernel
theorem dc_156_45 : decode (ax_code 156) 45 = .ok (.iload_n 2, 1) := by decide +kernel
theorem dc_156_46 : decode (ax_code 156) 46 = .ok (.iastore, 1) := by decide +kernel
theorem dc_156_47 : decode (ax_code 156) 47 = .ok (.iload_n 3, 1) := by decide +kernel
theorem dc_156_48 : decode (ax_code 156) 48 = .ok (.ireturn, 1) := by decide +kernel
theorem dc_157_0 : decode (ax_code 157) 0 = .ok (.aload_n 0, 1) := by decide +kernel
theorem dc_157_1 : decode (ax_code 157) 1 = .ok (.iload_n 1, 1) := by decide +kernel
theorem dc_157_2 : decode (ax_code 157) 2 = .ok (.iload_n 2, 1) := by decide +kernel
theorem dc_157_3 : decode (ax_code 157) 3 = .ok (.iload_n 3, 1) := by decide +kernel
theorem dc_157_4 : decode (ax_code 157) 4 = .ok (.invokevirtual 163, 3) := by decide +kernel
theorem dc_157_7 : decode (ax_code 157) 7 = .ok (.ifCond .ne 8, 3) := by decide +kernel
theorem dc_157_10 : decode (ax_code 157) 10 = .ok (.bipush (-2), 2) := by decide +kernel
theorem dc_157_12 : decode (ax_code 157) 12 = .ok (.goto 37, 3) := by decide +kernel
theorem dc_157_15 : decode (ax_code 157) 15 = .ok (.aload_n 0, 1) := by decide +kernel
theorem dc_157_16 : decode (ax_code 157) 16 = .ok (.getfield 127, 3) := by decide +kernel
theorem dc_157_19 : decode (ax_code 157) 19 = .ok (.bipush 6, 2) := by decide +kernel
theorem dc_157_21 : decode (ax_code 157) 21 = .ok (.if_icmp .ne 8, 3) := by decide +kernel
theorem dc_157_24 : decode (ax_code 157) 24 = .ok (.bipush (-4), 2) := by decide +kernel
theorem dc_157_26 : decode (ax_code 157) 26 = .ok (.goto 23, 3) := by decide +kernel
theorem dc_157_29 : decode (ax_code 157) 29 = .ok (.aload_n 0, 1) := by decide +kernel
theorem dc_157_30 : decode (ax_code 157) 30 = .ok (.iload_n 1, 1) := by decide +kernel
theorem dc_157_31 : decode (ax_code 157) 31 = .ok (.invokevirtual 167, 3) := by decide +kernel
theorem dc_157_34 : decode (ax_code 157) 34 = .ok (.ifCond .eq 13, 3) := by decide +kernel
theorem dc_157_37 : decode (ax_code 157) 37 = .ok (.aload_n 0, 1) := by decide +kernel
theorem dc_157_38 : decode (ax_code 157) 38 = .ok (.iload_n 1, 1) := by decide +kernel
theorem dc_157_39 : decode (ax_code 157) 39 = .ok (.iload_n 2, 1) := by decide +kernel
theorem dc_157_40 : decode (ax_code 157) 40 = .ok (.iload_n 3, 1) := by decide +kernel
theorem dc_157_41 : decode (ax_code 157) 41 = .ok (.invokevirtual 170, 3) := by decide +kernel
theorem dc_157_44 : decode (ax_code 157) 44 = .ok (.goto 5, 3) := by decide +kernel
theorem dc_157_47 : decode (ax_code 157) 47 = .ok (.bipush (-3), 2) := by decide +kernel
theorem dc_157_49 : decode (ax_code 157) 49 = .ok (.ireturn, 1) := by decide +kernel
theorem dc_158_0 : decode (ax_code 158) 0 = .ok (.iload_n 1, 1) := by decide +kernel
theorem dc_158_1 : decode (ax_code 158) 1 = .ok (.iconst 1, 1) := by decide +kernel
theorem dc_158_2 : decode (ax_code 158) 2 = .ok (.if_icmp .eq 9, 3) := by decide +kernel
theorem dc_158_5 : decode (ax_code 158) 5 = .ok (.iload_n 1, 1) := by decide +kernel
theorem dc_158_6 : decode (ax_code 158) 6 = .ok (.bipush 6, 2) := by decide +kernel
theorem dc_158_8 : decode (ax_code 158) 8 = .ok (.if_icmp .ne 15, 3) := by decide +kernel
theorem dc_158_11 : decode (ax_code 158) 11 = .ok (.iload_n 2, 1) := by decide +kernel
theorem dc_158_12 : decode (ax_code 158) 12 = .ok (.ifCond .ne 7, 3) := by decide +kernel
theorem dc_158_15 : decode (ax_code 158) 15 = .ok (.iconst 1, 1) := by decide +kernel
theorem dc_158_16 : decode (ax_code 158) 16 = .ok (.goto 11, 3) := by decide +kernel
theorem dc_158_19 : decode (ax_code 158) 19 = .ok (.iconst 0, 1) := by decide +kernel
theorem dc_158_20 : decode (ax_code 158) 20 = .ok (.goto 7, 3) := by decide +kernel
theorem dc_158_23 : decode (ax_code 158) 23 = .ok (.iload_n 2, 1) := by decide +kernel
theorem dc_158_24 : decode (ax_code 158) 24 = .ok (.invokestatic 149, 3) := by decide +kernel
theorem dc_158_27 : decode (ax_code 158) 27 = .ok (.istore 4, 2) := by decide +kernel
theorem dc_158_29 : decode (ax_code 158) 29 = .ok (.iload_n 1, 1) := by decide +kernel
theorem dc_158_30 : decode (ax_code 158) 30 = .ok (.i2l, 1) := by decide +kernel
theorem dc_158_31 : decode (ax_code 158) 31 = .ok (.lconst 0, 1) := by decide +kernel
theorem dc_158_32 : decode (ax_code 158) 32 = .ok (.ldc2_w 152, 3) := by decide +kernel
theorem dc_158_35 : decode (ax_code 158) 35 = .ok (.invokestatic 123, 3) := by decide +kernel
theorem dc_158_38 : decode (ax_code 158) 38 = .ok (.ifCond .eq 40, 3) := by decide +kernel
theorem dc_158_41 : decode (ax_code 158) 41 = .ok (.iload 4, 2) := by decide +kernel
theorem dc_158_43 : decode (ax_code 158) 43 = .ok (.ifCond .eq 35, 3) := by decide +kernel
theorem dc_158_46 : decode (ax_code 158) 46 = .ok (.iload_n 1, 1) := by decide +kernel
theorem dc_158_47 : decode (ax_code 158) 47 = .ok (.invokestatic 154, 3) := by decide +kernel
theorem dc_158_50 : decode (ax_code 158) 50 = .ok (.ifCond .eq 20, 3) := by decide +kernel
theorem dc_158_53 : decode (ax_code 158) 53 = .ok (.iload_n 3, 1) := by decide +kernel
theorem dc_158_54 : decode (ax_code 158) 54 = .ok (.i2l, 1) := by decide +kernel
theorem dc_158_55 : decode (ax_code 158) 55 = .ok (.ldc2_w 121, 3) := by decide +kernel
theorem dc_158_58 : decode (ax_code 158) 58 = .ok (.ldc2_w 157, 3) := by decide +kernel
theorem dc_158_61 : decode (ax_code 158) 61 = .ok (.invokestatic 123, 3) := by decide +kernel
theorem dc_158_64 : decode (ax_code 158) 64 = .ok (.ifCond .eq 14, 3) := by decide +kernel
theorem dc_158_67 : decode (ax_code 158) 67 = .ok (.goto 7, 3) := by decide +kernel
theorem dc_158_70 : decode (ax_code 158) 70 = .ok (.iload_n 3, 1) := by decide +kernel
theorem dc_158_71 : decode (ax_code 158) 71 = .ok (.ifCond .ne 7, 3) := by decide +kernel
theorem dc_158_74 : decode (ax_code 158) 74 = .ok (.iconst 1, 1) := by decide +kernel
theorem dc_158_75 : decode (ax_code 158) 75 = .ok (.goto 4, 3) := by decide +kernel
theorem dc_158_78 : decode (ax_code 158) 78 = .ok (.iconst 0, 1) := by decide +kernel
theorem dc_158_79 : decode (ax_code 158) 79 = .ok (.ireturn, 1) := by decide +kernel
theorem dc_159_0 : decode (ax_code 159) 0 = .ok (.iload_n 0, 1) := by decide +kernel
theorem dc_159_1 : decode (ax_code 159) 1 = .ok (.i2l, 1) := by decide +kernel
theorem dc_159_2 : decode (ax_code 159) 2 = .ok (.lconst 0, 1) := by decide +kernel
theorem dc_159_3 : decode (ax_code 159) 3 = .ok (.ldc2_w 121, 3) := by decide +kernel
theorem dc_159_6 : decode (ax_code 159) 6 = .ok (.invokestatic 123, 3) := by decide +kernel
theorem dc_159_9 : decode (ax_code 159) 9 = .ok (.ireturn, 1) := by decide +kernel
theorem dc_160_0 : decode (ax_code 160) 0 = .ok (.iload_n 0, 1) := by decide +kernel
theorem dc_160_1 : decode (ax_code 160) 1 = .ok (.invokestatic 130, 3) := by decide +kernel
theorem dc_160_4 : decode (ax_code 160) 4 = .ok (.ifCond .ne 15, 3) := by decide +kernel
theorem dc_160_7 : decode (ax_code 160) 7 = .ok (.iload_n 0, 1) := by decide +kernel
theorem dc_160_8 : decode (ax_code 160) 8 = .ok (.bipush 6, 2) := by decide +kernel
theorem dc_160_10 : decode (ax_code 160) 10 = .ok (.if_icmp .eq 9, 3) := by decide +kernel
theorem dc_160_13 : decode (ax_code 160) 13 = .ok (.iload_n 0, 1) := by decide +kernel
theorem dc_160_14 : decode (ax_code 160) 14 = .ok (.bipush 7, 2) := by decide +kernel
theorem dc_160_16 : decode (ax_code 160) 16 = .ok (.if_icmp .ne 7, 3) := by decide +kernel
theorem dc_160_19 : decode (ax_code 160) 19 = .ok (.iconst 1, 1) := by decide +kernel
theorem dc_160_20 : decode (ax_code 160) 20 = .ok (.goto 4, 3) := by decide +kernel
theorem dc_160_23 : decode (ax_code 160) 23 = .ok (.iconst 0, 1) := by decide +kernel
theorem dc_160_24 : decode (ax_code 160) 24 = .ok (.ireturn, 1) := by decide +kernel
theorem dc_161_0 : decode (ax_code 161) 0 = .ok (.iload_n 0, 1) := by decide +kernel
theorem dc_161_1 : decode (ax_code 161) 1 = .ok (.iconst 2, 1) := by decide +kernel
theorem dc_161_2 : decode (ax_code 161) 2 = .ok (.if_icmp .eq 8, 3) := by decide +kernel
theorem dc_161_5 : decode (ax_code 161) 5 = .ok (.iload_n 0, 1) := by decide +kernel
theorem dc_161_6 : decode (ax_code 161) 6 = .ok (.iconst 3, 1) := by decide +kernel
theorem dc_161_7 : decode (ax_code 161) 7 = .ok (.if_icmp .ne 7, 3) := by decide +kernel
theorem dc_161_10 : decode (ax_code 161) 10 = .ok (.iconst 1, 1) := by decide +kernel
theorem dc_161_11 : decode (ax_code 161) 11 = .ok (.goto 4, 3) := by decide +kernel
theorem dc_161_14 : decode (ax_code 161) 14 = .ok (.iconst 0, 1) := by decide +kernel
theorem dc_161_15 : decode (ax_code 161) 15 = .ok (.ireturn, 1) := by decide +kernel
theorem dc_162_0 : decode (ax_code 162) 0 = .ok (.iload_n 1, 1) := by decide +kernel
theorem dc_162_1 : decode (ax_code 162) 1 = .ok (.invokestatic 146, 3) := by decide +kernel
theorem dc_162_4 : decode (ax_code 162) 4 = .ok (.ifCond .eq 18, 3) := by decide +kernel
theorem dc_162_7 : decode (ax_code 162) 7 = .ok (.aload_n 0, 1) := by decide +kernel
theorem dc_162_8 : decode (ax_code 162) 8 = .ok (.aload_n 0, 1) := by decide +kernel
theorem dc_162_9 : decode (ax_code 162) 9 = .ok (.getfield 127, 3) := by decide +kernel
theorem dc_162_12 : decode (ax_code 162) 12 = .ok (.invokevirtual 159, 3) := by decide +kernel
theorem dc_162_15 : decode (ax_code 162) 15 = .ok (.aload_n 0, 1) := by decide +kernel
theorem dc_162_16 : decode (ax_code 162) 16 = .ok (.getfield 7, 3) := by decide +kernel
theorem dc_162_19 : decode (ax_code 162) 19 = .ok (.if_icmp .ge 7, 3) := by decide +kernel
theorem dc_162_22 : decode (ax_code 162) 22 = .ok (.iconst 1, 1) := by decide +kernel
theorem dc_162_23 : decode (ax_code 162) 23 = .ok (.goto 4, 3) := by decide +kernel
theorem dc_162_26 : decode (ax_code 162) 26 = .ok (.iconst 0, 1) := by decide +kernel
theorem dc_162_27 : decode (ax_code 162) 27 = .ok (.ireturn, 1) := by decide +kernel
theorem dc_163_0 : decode (ax_code 163) 0 = .ok (.iload_n 0, 1) := by decide +kernel
theorem dc_163_1 : decode (ax_code 163) 1 = .ok (.ifCond .eq 8, 3) := by decide +kernel
theorem dc_163_4 : decode (ax_code 163) 4 = .ok (.iload_n 0, 1) := by decide +kernel
theorem dc_163_5 : decode (ax_code 163) 5 = .ok (.iconst 1, 1) := by decide +kernel
theorem dc_163_6 : decode (ax_code 163) 6 = .ok (.if_icmp .ne 7, 3) := by decide +kernel
theorem dc_163_9 : decode (ax_code 163) 9 = .ok (.iconst 1, 1) := by decide +kernel
theorem dc_163_10 : decode (ax_code 163) 10 = .ok (.goto 4, 3) := by decide +kernel
theorem dc_163_13 : decode (ax_code 163) 13 = .ok (.iconst 0, 1) := by decide +kernel
theorem dc_163_14 : decode (ax_code 163) 14 = .ok (.ireturn, 1) := by decide +kernel
theorem dc_164_0 : decode (ax_code 164) 0 = .ok (.iconst 0, 1) := by decide +kernel
theorem dc_164_1 : decode (ax_code 164) 1 = .ok (.istore_n 2, 1) := by decide +kernel
theorem dc_164_2 : decode (ax_code 164) 2 = .ok (.iconst 0, 1) := by decide +kernel
theorem dc_164_3 : decode (ax_code 164) 3 = .ok (.istore_n 3, 1) := by decide +kernel
theorem dc_164_4 : decode (ax_code 164) 4 = .ok (.iload_n 3, 1) := by decide +kernel
theorem dc_164_5 : decode (ax_code 164) 5 = .ok (.iload_n 1, 1) := by decide +kernel
theorem dc_164_6 : decode (ax_code 164) 6 = .ok (.if_icmp .ge 29, 3) := by decide +kernel
theorem dc_164_9 : decode (ax_code 164) 9 = .ok (.iload_n 2, 1) := by decide +kernel
theorem dc_164_10 : decode (ax_code 164) 10 = .ok (.aload_n 0, 1) := by decide +kernel
theorem dc_164_11 : decode (ax_code 164) 11 = .ok (.getfield 17, 3) := by decide +kernel
theorem dc_164_14 : decode (ax_code 164) 14 = .ok (.iload_n 3, 1) := by decide +kernel
theorem dc_164_15 : decode (ax_code 164) 15 = .ok (.iaload, 1) := by decide +kernel
theorem dc_164_16 : decode (ax_code 164) 16 = .ok (.invokestatic 146, 3) := by decide +kernel
theorem dc_164_19 : decode (ax_code 164) 19 = .ok (.ifCond .eq 7, 3) := by decide +kernel
theorem dc_164_22 : decode (ax_code 164) 22 = .ok (.iconst 1, 1) := by decide +kernel
theorem dc_164_23 : decode (ax_code 164) 23 = .ok (.goto 4, 3) := by decide +kernel
theorem dc_164_26 : decode (ax_code 164) 26 = .ok (.iconst 0, 1) := by decide +kernel
theorem dc_164_27 : decode (ax_code 164) 27 = .ok (.iadd, 1) := by decide +kernel
theorem dc_164_28 : decode (ax_code 164) 28 = .ok (.istore_n 2, 1) := by decide +kernel
theorem dc_164_29 : decode (ax_code 164) 29 = .ok (.iinc 3 1, 3) := by decide +kernel
theorem dc_164_32 : decode (ax_code 164) 32 = .ok (.goto (-28), 3) := by decide +kernel
theorem dc_164_35 : decode (ax_code 164) 35 = .ok (.iload_n 2, 1) := by decide +kernel
theorem dc_164_36 : decode (ax_code 164) 36 = .ok (.ireturn, 1) := by decide +kernel
theorem dc_165_0 : decode (ax_code 165) 0 = .ok (.aload_n 0, 1) := by decide +kernel
theorem dc_165_1 : decode (ax_code 165) 1 = .ok (.getfield 17, 3) := by decide +kernel
theorem dc_165_4 : decode (ax_code 165) 4 = .ok (.aload_n 0, 1) := by decide +kernel
theorem dc_165_5 : decode (ax_code 165) 5 = .ok (.getfield 127, 3) := by decide +kernel
theorem dc_165_8 : decode (ax_code 165) 8 = .ok (.iload_n 1, 1) := by decide +kernel
theorem dc_165_9 : decode (ax_code 165) 9 = .ok (.iastore, 1) := by decide +kernel
theorem dc_165_10 : decode (ax_code 165) 10 = .ok (.aload_n 0, 1) := by decide +kernel
theorem dc_165_11 : decode (ax_code 165) 11 = .ok (.getfield 20, 3) := by decide +kernel
theorem dc_165_14 : decode (ax_code 165) 14 = .ok (.aload_n 0, 1) := by decide +kernel
theorem dc_165_15 : decode (ax_code 165) 15 = .ok (.getfield 127, 3) := by decide +kernel
theorem dc_165_18 : decode (ax_code 165) 18 = .ok (.iload_n 2, 1) := by decide +kernel
theorem dc_165_19 : decode (ax_code 165) 19 = .ok (.iastore, 1) := by decide +kernel
theorem dc_165_20 : decode (ax_code 165) 20 = .ok (.aload_n 0, 1) := by decide +kernel
theorem dc_165_21 : decode (ax_code 165) 21 = .ok (.getfield 23, 3) := by decide +kernel
theorem dc_165_24 : decode (ax_code 165) 24 = .ok (.aload_n 0, 1) := by decide +kernel
theorem dc_165_25 : decode (ax_code 165) 25 = .ok (.getfield 127, 3) := by decide +kernel
theorem dc_165_28 : decode (ax_code 165) 28 = .ok (.iload_n 3, 1) := by decide +kernel
theorem dc_165_29 : decode (ax_code 165) 29 = .ok (.iastore, 1) := by decide +kernel
theorem dc_165_30 : decode (ax_code 165) 30 = .ok (.aload_n 0, 1) := by decide +kernel
theorem dc_165_31 : decode (ax_code 165) 31 = .ok (.dup, 1) := by decide +kernel
theorem dc_165_32 : decode (ax_code 165) 32 = .ok (.getfield 127, 3) := by decide +kernel
theorem dc_165_35 : decode (ax_code 165) 35 = .ok (.iconst 1, 1) := by decide +kernel
theorem dc_165_36 : decode (ax_code 165) 36 = .ok (.iadd, 1) := by decide +kernel
theorem dc_165_37 : decode (ax_code 165) 37 = .ok (.putfield 127, 3) := by decide +kernel
theorem dc_165_40 : decode (ax_code 165) 40 = .ok (.aload_n 0, 1) := by decide +kernel
theorem dc_165_41 : decode (ax_code 165) 41 = .ok (.getfield 127, 3) := by decide +kernel
theorem dc_165_44 : decode (ax_code 165) 44 = .ok (.iconst 1, 1) := by decide +kernel
theorem dc_165_45 : decode (ax_code 165) 45 = .ok (.isub, 1) := by decide +kernel
theorem dc_165_46 : decode (ax_code 165) 46 = .ok (.ireturn, 1) := by decide +kernel
theorem dc_166_0 : decode (ax_code 166) 0 = .ok (.aload_n 0, 1) := by decide +kernel
theorem dc_166_1 : decode (ax_code 166) 1 = .ok (.iload_n 1, 1) := by decide +kernel
theorem dc_166_2 : decode (ax_code 166) 2 = .ok (.invokevirtual 174, 3) := by decide +kernel
theorem dc_166_5 : decode (ax_code 166) 5 = .ok (.ifCond .ne 6, 3) := by decide +kernel
theorem dc_166_8 : decode (ax_code 166) 8 = .ok (.bipush (-2), 2) := by decide +kernel
theorem dc_166_10 : decode (ax_code 166) 10 = .ok (.ireturn, 1) := by decide +kernel
theorem dc_166_11 : decode (ax_code 166) 11 = .ok (.iload_n 2, 1) := by decide +kernel
theorem dc_166_12 : decode (ax_code 166) 12 = .ok (.tableswitch 63 0 3 #[32, 39, 46, 53], 32) := by decide +kernel
theorem dc_166_44 : decode (ax_code 166) 44 = .ok (.aload_n 0, 1) := by decide +kernel
theorem dc_166_45 : decode (ax_code 166) 45 = .ok (.getfield 17, 3) := by decide +kernel
theorem dc_166_48 : decode (ax_code 166) 48 = .ok (.iload_n 1, 1) := by decide +kernel
theorem dc_166_49 : decode (ax_code 166) 49 = .ok (.iaload, 1) := by decide +kernel
theorem dc_166_50 : decode (ax_code 166) 50 = .ok (.ireturn, 1) := by decide +kernel
theorem dc_166_51 : decode (ax_code 166) 51 = .ok (.aload_n 0, 1) := by decide +kernel
theorem dc_166_52 : decode (ax_code 166) 52 = .ok (.getfield 20, 3) := by decide +kernel
theorem dc_166_55 : decode (ax_code 166) 55 = .ok (.iload_n 1, 1) := by decide +kernel
theorem dc_166_56 : decode (ax_code 166) 56 = .ok (.iaload, 1) := by decide +kernel
theorem dc_166_57 : decode (ax_code 166) 57 = .ok (.ireturn, 1) := by decide +kernel
theorem dc_166_58 : decode (ax_code 166) 58 = .ok (.aload_n 0, 1) := by decide +kernel
theorem dc_166_59 : decode (ax_code 166) 59 = .ok (.getfield 23, 3) := by decide +kernel
theorem dc_166_62 : decode (ax_code 166) 62 = .ok (.iload_n 1, 1) := by decide +kernel
theorem dc_166_63 : decode (ax_code 166) 63 = .ok (.iaload, 1) := by decide +kernel
theorem dc_166_64 : decode (ax_code 166) 64 = .ok (.ireturn, 1) := by decide +kernel
theorem dc_166_65 : decode (ax_code 166) 65 = .ok (.aload_n 0, 1) := by decide +kernel
theorem dc_166_66 : decode (ax_code 166) 66 = .ok (.iload_n 1, 1) := by decide +kernel
theorem dc_166_67 : decode (ax_code 166) 67 = .ok (.aload_n 0, 1) := by decide +kernel
theorem dc_166_68 : decode (ax_code 166) 68 = .ok (.getfield 127, 3) := by decide +kernel
theorem dc_166_71 : decode (ax_code 166) 71 = .ok (.invokevirtual 177, 3) := by decide +kernel
theorem dc_166_74 : decode (ax_code 166) 74 = .ok (.ireturn, 1) := by decide +kernel
theorem dc_166_75 : decode (ax_code 166) 75 = .ok (.bipush (-2), 2) := by decide +kernel
theorem dc_166_77 : decode (ax_code 166) 77 = .ok (.ireturn, 1) := by decide +kernel
theorem dc_167_0 : decode (ax_code 167) 0 = .ok (.iload_n 1, 1) := by decide +kernel
theorem dc_167_1 : decode (ax_code 167) 1 = .ok (.i2l, 1) := by decide +kernel
theorem dc_167_2 : decode (ax_code 167) 2 = .ok (.lconst 0, 1) := by decide +kernel
theorem dc_167_3 : decode (ax_code 167) 3 = .ok (.aload_n 0, 1) := by decide +kernel
theorem dc_167_4 : decode (ax_code 167) 4 = .ok (.getfield 127, 3) := by decide +kernel
theorem dc_167_7 : decode (ax_code 167) 7 = .ok (.iconst 1, 1) := by decide +kernel
theorem dc_167_8 : decode (ax_code 167) 8 = .ok (.isub, 1) := by decide +kernel
theorem dc_167_9 : decode (ax_code 167) 9 = .ok (.i2l, 1) := by decide +kernel
theorem dc_167_10 : decode (ax_code 167) 10 = .ok (.invokestatic 123, 3) := by decide +kernel
theorem dc_167_13 : decode (ax_code 167) 13 = .ok (.ireturn, 1) := by decide +kernel
theorem dc_168_0 : decode (ax_code 168) 0 = .ok (.iconst 1, 1) := by decide +kernel
theorem dc_168_1 : decode (ax_code 168) 1 = .ok (.aload_n 0, 1) := by decide +kernel
theorem dc_168_2 : decode (ax_code 168) 2 = .ok (.getfield 20, 3) := by decide +kernel
theorem dc_168_5 : decode (ax_code 168) 5 = .ok (.iload_n 1, 1) := by decide +kernel
theorem dc_168_6 : decode (ax_code 168) 6 = .ok (.iaload, 1) := by decide +kernel
theorem dc_168_7 : decode (ax_code 168) 7 = .ok (.ishl, 1) := by decide +kernel
theorem dc_168_8 : decode (ax_code 168) 8 = .ok (.istore_n 3, 1) := by decide +kernel
theorem dc_168_9 : decode (ax_code 168) 9 = .ok (.aload_n 0, 1) := by decide +kernel
theorem dc_168_10 : decode (ax_code 168) 10 = .ok (.getfield 17, 3) := by decide +kernel
theorem dc_168_13 : decode (ax_code 168) 13 = .ok (.iload_n 1, 1) := by decide +kernel
theorem dc_168_14 : decode (ax_code 168) 14 = .ok (.iaload, 1) := by decide +kernel
theorem dc_168_15 : decode (ax_code 168) 15 = .ok (.ifCond .eq 24, 3) := by decide +kernel
theorem dc_168_18 : decode (ax_code 168) 18 = .ok (.aload_n 0, 1) := by decide +kernel
theorem dc_168_19 : decode (ax_code 168) 19 = .ok (.getfield 17, 3) := by decide +kernel
theorem dc_168_22 : decode (ax_code 168) 22 = .ok (.iload_n 1, 1) := by decide +kernel
theorem dc_168_23 : decode (ax_code 168) 23 = .ok (.iaload, 1) := by decide +kernel
theorem dc_168_24 : decode (ax_code 168) 24 = .ok (.iconst 3, 1) := by decide +kernel
theorem dc_168_25 : decode (ax_code 168) 25 = .ok (.if_icmp .eq 14, 3) := by decide +kernel
theorem dc_168_28 : decode (ax_code 168) 28 = .ok (.aload_n 0, 1) := by decide +kernel
theorem dc_168_29 : decode (ax_code 168) 29 = .ok (.getfield 17, 3) := by decide +kernel
theorem dc_168_32 : decode (ax_code 168) 32 = .ok (.iload_n 1, 1) := by decide +kernel
theorem dc_168_33 : decode (ax_code 168) 33 = .ok (.iaload, 1) := by decide +kernel
theorem dc_168_34 : decode (ax_code 168) 34 = .ok (.bipush 7, 2) := by decide +kernel
theorem dc_168_36 : decode (ax_code 168) 36 = .ok (.if_icmp .ne 7, 3) := by decide +kernel
theorem dc_168_39 : decode (ax_code 168) 39 = .ok (.iload_n 3, 1) := by decide +kernel
theorem dc_168_40 : decode (ax_code 168) 40 = .ok (.goto 5, 3) := by decide +kernel
theorem dc_168_43 : decode (ax_code 168) 43 = .ok (.bipush 7, 2) := by decide +kernel
theorem dc_168_45 : decode (ax_code 168) 45 = .ok (.istore 4, 2) := by decide +kernel
theorem dc_168_47 : decode (ax_code 168) 47 = .ok (.iload_n 1, 1) := by decide +kernel
theorem dc_168_48 : decode (ax_code 168) 48 = .ok (.iconst 1, 1) := by decide +kernel
theorem dc_168_49 : decode (ax_code 168) 49 = .ok (.iadd, 1) := by decide +kernel
theorem dc_168_50 : decode (ax_code 168) 50 = .ok (.istore 5, 2) := by decide +kernel
theorem dc_168_52 : decode (ax_code 168) 52 = .ok (.iload 5, 2) := by decide +kernel
theorem dc_168_54 : decode (ax_code 168) 54 = .ok (.iload_n 2, 1) := by decide +kernel
theorem dc_168_55 : decode (ax_code 168) 55 = .ok (.if_icmp .ge 69, 3) := by decide +kernel
theorem dc_168_58 : decode (ax_code 168) 58 = .ok (.iconst 1, 1) := by decide +kernel
theorem dc_168_59 : decode (ax_code 168) 59 = .ok (.aload_n 0, 1) := by decide +kernel
theorem dc_168_60 : decode (ax_code 168) 60 = .ok (.getfield 20, 3) := by decide +kernel
theorem dc_168_63 : decode (ax_code 168) 63 = .ok (.iload 5, 2) := by decide +kernel
theorem dc_168_65 : decode (ax_code 168) 65 = .ok (.iaload, 1) := by decide +kernel
theorem dc_168_66 : decode (ax_code 168) 66 = .ok (.ishl, 1) := by decide +kernel
theorem dc_168_67 : decode (ax_code 168) 67 = .ok (.istore 6, 2) := by decide +kernel
theorem dc_168_69 : decode (ax_code 168) 69 = .ok (.aload_n 0, 1) := by decide +kernel
theorem dc_168_70 : decode (ax_code 168) 70 = .ok (.getfield 17, 3) := by decide +kernel
theorem dc_168_73 : decode (ax_code 168) 73 = .ok (.iload 5, 2) := by decide +kernel
theorem dc_168_75 : decode (ax_code 168) 75 = .ok (.iaload, 1) := by decide +kernel
theorem dc_168_76 : decode (ax_code 168) 76 = .ok (.iconst 4, 1) := by decide +kernel
theorem dc_168_77 : decode (ax_code 168) 77 = .ok (.if_icmp .ne 16, 3) := by decide +kernel
theorem dc_168_80 : decode (ax_code 168) 80 = .ok (.iload 4, 2) := by decide +kernel
theorem dc_168_82 : decode (ax_code 168) 82 = .ok (.iload 6, 2) := by decide +kernel
theorem dc_168_84 : decode (ax_code 168) 84 = .ok (.iand, 1) := by decide +kernel
theorem dc_168_85 : decode (ax_code 168) 85 = .ok (.ifCond .eq 8, 3) := by decide +kernel
theorem dc_168_88 : decode (ax_code 168) 88 = .ok (.bipush 7, 2) := by decide +kernel
theorem dc_168_90 : decode (ax_code 168) 90 = .ok (.goto 26, 3) := by decide +kernel
theorem dc_168_93 : decode (ax_code 168) 93 = .ok (.aload_n 0, 1) := by decide +kernel
theorem dc_168_94 : decode (ax_code 168) 94 = .ok (.getfield 17, 3) := by decide +kernel
theorem dc_168_97 : decode (ax_code 168) 97 = .ok (.iload 5, 2) := by decide +kernel
theorem dc_168_99 : decode (ax_code 168) 99 = .ok (.iaload, 1) := by decide +kernel
theorem dc_168_100 : decode (ax_code 168) 100 = .ok (.iconst 5, 1) := by decide +kernel
theorem dc_168_101 : decode (ax_code 168) 101 = .ok (.if_icmp .ne 13, 3) := by decide +kernel
theorem dc_168_104 : decode (ax_code 168) 104 = .ok (.iload 4, 2) := by decide +kernel
theorem dc_168_106 : decode (ax_code 168) 106 = .ok (.iload 6, 2) := by decide +kernel
theorem dc_168_108 : decode (ax_code 168) 108 = .ok (.iconst (-1), 1) := by decide +kernel
theorem dc_168_109 : decode (ax_code 168) 109 = .ok (.ixor, 1) := by decide +kernel
theorem dc_168_110 : decode (ax_code 168) 110 = .ok (.iand, 1) := by decide +kernel
theorem dc_168_111 : decode (ax_code 168) 111 = .ok (.goto 5, 3) := by decide +kernel
theorem dc_168_114 : decode (ax_code 168) 114 = .ok (.iload 4, 2) := by decide +kernel
theorem dc_168_116 : decode (ax_code 168) 116 = .ok (.istore 4, 2) := by decide +kernel
theorem dc_168_118 : decode (ax_code 168) 118 = .ok (.iinc 5 1, 3) := by decide +kernel
theorem dc_168_121 : decode (ax_code 168) 121 = .ok (.goto (-69), 3) := by decide +kernel
theorem dc_168_124 : decode (ax_code 168) 124 = .ok (.iload 4, 2) := by decide +kernel
theorem dc_168_126 : decode (ax_code 168) 126 = .ok (.ireturn, 1) := by decide +kernel
theorem dc_169_0 : decode (ax_code 169) 0 = .ok (.aload_n 0, 1) := by decide +kernel
theorem dc_169_1 : decode (ax_code 169) 1 = .ok (.iload_n 2, 1) := by decide +kernel
theorem dc_169_2 : decode (ax_code 169) 2 = .ok (.invokevirtual 181, 3) := by decide +kernel
theorem dc_169_5 : decode (ax_code 169) 5 = .ok (.ifCond .eq 25, 3) := by decide +kernel
theorem dc_169_8 : decode (ax_code 169) 8 = .ok (.iload_n 1, 1) := by decide +kernel
theorem dc_169_9 : decode (ax_code 169) 9 = .ok (.i2l, 1) := by decide +kernel
theorem dc_169_10 : decode (ax_code 169) 10 = .ok (.lconst 0, 1) := by decide +kernel
theorem dc_169_11 : decode (ax_code 169) 11 = .ok (.iload_n 2, 1) := by decide +kernel
theorem dc_169_12 : decode (ax_code 169) 12 = .ok (.iconst 1, 1) := by decide +kernel
theorem dc_169_13 : decode (ax_code 169) 13 = .ok (.isub, 1) := by decide +kernel
theorem dc_169_14 : decode (ax_code 169) 14 = .ok (.i2l, 1) := by decide +kernel
theorem dc_169_15 : decode (ax_code 169) 15 = .ok (.invokestatic 123, 3) := by decide +kernel
theorem dc_169_18 : decode (ax_code 169) 18 = .ok (.ifCond .eq 12, 3) := by decide +kernel
theorem dc_169_21 : decode (ax_code 169) 21 = .ok (.aload_n 0, 1) := by decide +kernel
theorem dc_169_22 : decode (ax_code 169) 22 = .ok (.iload_n 1, 1) := by decide +kernel
theorem dc_169_23 : decode (ax_code 169) 23 = .ok (.iload_n 2, 1) := by decide +kernel
theorem dc_169_24 : decode (ax_code 169) 24 = .ok (.invokevirtual 177, 3) := by decide +kernel
theorem dc_169_27 : decode (ax_code 169) 27 = .ok (.goto 5, 3) := by decide +kernel
theorem dc_169_30 : decode (ax_code 169) 30 = .ok (.bipush (-2), 2) := by decide +kernel
theorem dc_169_32 : decode (ax_code 169) 32 = .ok (.ireturn, 1) := by decide +kernel
theorem dc_170_0 : decode (ax_code 170) 0 = .ok (.iload_n 1, 1) := by decide +kernel
theorem dc_170_1 : decode (ax_code 170) 1 = .ok (.i2l, 1) := by decide +kernel
theorem dc_170_2 : decode (ax_code 170) 2 = .ok (.lconst 0, 1) := by decide +kernel
theorem dc_170_3 : decode (ax_code 170) 3 = .ok (.aload_n 0, 1) := by decide +kernel
theorem dc_170_4 : decode (ax_code 170) 4 = .ok (.getfield 127, 3) := by decide +kernel
theorem dc_170_7 : decode (ax_code 170) 7 = .ok (.i2l, 1) := by decide +kernel
theorem dc_170_8 : decode (ax_code 170) 8 = .ok (.invokestatic 123, 3) := by decide +kernel
theorem dc_170_11 : decode (ax_code 170) 11 = .ok (.ireturn, 1) := by decide +kernel
theorem dc_171_0 : decode (ax_code 171) 0 = .ok (.aload_n 0, 1) := by decide +kernel
theorem dc_171_1 : decode (ax_code 171) 1 = .ok (.getfield 127, 3) := by decide +kernel
theorem dc_171_4 : decode (ax_code 171) 4 = .ok (.ifCond .ne 6, 3) := by decide +kernel
theorem dc_171_7 : decode (ax_code 171) 7 = .ok (.bipush (-3), 2) := by decide +kernel
theorem dc_171_9 : decode (ax_code 171) 9 = .ok (.ireturn, 1) := by decide +kernel
theorem dc_171_10 : decode (ax_code 171) 10 = .ok (.aload_n 0, 1) := by decide +kernel
theorem dc_171_11 : decode (ax_code 171) 11 = .ok (.dup, 1) := by decide +kernel
theorem dc_171_12 : decode (ax_code 171) 12 = .ok (.getfield 127, 3) := by decide +kernel
theorem dc_171_15 : decode (ax_code 171) 15 = .ok (.iconst 1, 1) := by decide +kernel
theorem dc_171_16 : decode (ax_code 171) 16 = .ok (.isub, 1) := by decide +kernel
theorem dc_171_17 : decode (ax_code 171) 17 = .ok (.putfield 127, 3) := by decide +kernel
theorem dc_171_20 : decode (ax_code 171) 20 = .ok (.aload_n 0, 1) := by decide +kernel
theorem dc_171_21 : decode (ax_code 171) 21 = .ok (.getfield 127, 3) := by decide +kernel
theorem dc_171_24 : decode (ax_code 171) 24 = .ok (.ireturn, 1) := by decide +kernel
theorem dc_172_0 : decode (ax_code 172) 0 = .ok (.aload_n 0, 1) := by decide +kernel
theorem dc_172_1 : decode (ax_code 172) 1 = .ok (.iload_n 1, 1) := by decide +kernel
theorem dc_172_2 : decode (ax_code 172) 2 = .ok (.invokevirtual 181, 3) := by decide +kernel
theorem dc_172_5 : decode (ax_code 172) 5 = .ok (.ifCond .eq 11, 3) := by decide +kernel
theorem dc_172_8 : decode (ax_code 172) 8 = .ok (.aload_n 0, 1) := by decide +kernel
theorem dc_172_9 : decode (ax_code 172) 9 = .ok (.iload_n 1, 1) := by decide +kernel
theorem dc_172_10 : decode (ax_code 172) 10 = .ok (.invokevirtual 187, 3) := by decide +kernel
theorem dc_172_13 : decode (ax_code 172) 13 = .ok (.goto 5, 3) := by decide +kernel
theorem dc_172_16 : decode (ax_code 172) 16 = .ok (.bipush (-2), 2) := by decide +kernel
theorem dc_172_18 : decode (ax_code 172) 18 = .ok (.ireturn, 1) := by decide +kernel
theorem dc_173_0 : decode (ax_code 173) 0 = .ok (.iconst 1, 1) := by decide +kernel
theorem dc_173_1 : decode (ax_code 173) 1 = .ok (.istore_n 2, 1) := by decide +kernel
theorem dc_173_2 : decode (ax_code 173) 2 = .ok (.iconst 0, 1) := by decide +kernel
theorem dc_173_3 : decode (ax_code 173) 3 = .ok (.istore_n 3, 1) := by decide +kernel
theorem dc_173_4 : decode (ax_code 173) 4 = .ok (.iload_n 3, 1) := by decide +kernel
theorem dc_173_5 : decode (ax_code 173) 5 = .ok (.iload_n 1, 1) := by decide +kernel
theorem dc_173_6 : decode (ax_code 173) 6 = .ok (.if_icmp .ge 17, 3) := by decide +kernel
theorem dc_173_9 : decode (ax_code 173) 9 = .ok (.iload_n 2, 1) := by decide +kernel
theorem dc_173_10 : decode (ax_code 173) 10 = .ok (.aload_n 0, 1) := by decide +kernel
theorem dc_173_11 : decode (ax_code 173) 11 = .ok (.iload_n 3, 1) := by decide +kernel
theorem dc_173_12 : decode (ax_code 173) 12 = .ok (.invokevirtual 184, 3) := by decide +kernel
theorem dc_173_15 : decode (ax_code 173) 15 = .ok (.imul, 1) := by decide +kernel
theorem dc_173_16 : decode (ax_code 173) 16 = .ok (.istore_n 2, 1) := by decide +kernel
theorem dc_173_17 : decode (ax_code 173) 17 = .ok (.iinc 3 1, 3) := by decide +kernel
theorem dc_173_20 : decode (ax_code 173) 20 = .ok (.goto (-16), 3) := by decide +kernel
theorem dc_173_23 : decode (ax_code 173) 23 = .ok (.iload_n 2, 1) := by decide +kernel
theorem dc_173_24 : decode (ax_code 173) 24 = .ok (.ireturn, 1) := by decide +kernel
theorem dc_174_0 : decode (ax_code 174) 0 = .ok (.aload_n 0, 1) := by decide +kernel
theorem dc_174_1 : decode (ax_code 174) 1 = .ok (.getfield 17, 3) := by decide +kernel
theorem dc_174_4 : decode (ax_code 174) 4 = .ok (.iload_n 1, 1) := by decide +kernel
theorem dc_174_5 : decode (ax_code 174) 5 = .ok (.iaload, 1) := by decide +kernel
theorem dc_174_6 : decode (ax_code 174) 6 = .ok (.invokestatic 146, 3) := by decide +kernel
theorem dc_174_9 : decode (ax_code 174) 9 = .ok (.ifCond .eq 16, 3) := by decide +kernel
theorem dc_174_12 : decode (ax_code 174) 12 = .ok (.aload_n 0, 1) := by decide +kernel
theorem dc_174_13 : decode (ax_code 174) 13 = .ok (.getfield 7, 3) := by decide +kernel
theorem dc_174_16 : decode (ax_code 174) 16 = .ok (.aload_n 0, 1) := by decide +kernel
theorem dc_174_17 : decode (ax_code 174) 17 = .ok (.iload_n 1, 1) := by decide +kernel
theorem dc_174_18 : decode (ax_code 174) 18 = .ok (.invokevirtual 159, 3) := by decide +kernel
theorem dc_174_21 : decode (ax_code 174) 21 = .ok (.isub, 1) := by decide +kernel
theorem dc_174_22 : decode (ax_code 174) 22 = .ok (.goto 25, 3) := by decide +kernel
theorem dc_174_25 : decode (ax_code 174) 25 = .ok (.aload_n 0, 1) := by decide +kernel
theorem dc_174_26 : decode (ax_code 174) 26 = .ok (.getfield 17, 3) := by decide +kernel
theorem dc_174_29 : decode (ax_code 174) 29 = .ok (.iload_n 1, 1) := by decide +kernel
theorem dc_174_30 : decode (ax_code 174) 30 = .ok (.iaload, 1) := by decide +kernel
theorem dc_174_31 : decode (ax_code 174) 31 = .ok (.invokestatic 154, 3) := by decide +kernel
theorem dc_174_34 : decode (ax_code 174) 34 = .ok (.ifCond .eq 12, 3) := by decide +kernel
theorem dc_174_37 : decode (ax_code 174) 37 = .ok (.aload_n 0, 1) := by decide +kernel
theorem dc_174_38 : decode (ax_code 174) 38 = .ok (.getfield 23, 3) := by decide +kernel
theorem dc_174_41 : decode (ax_code 174) 41 = .ok (.iload_n 1, 1) := by decide +kernel
theorem dc_174_42 : decode (ax_code 174) 42 = .ok (.iaload, 1) := by decide +kernel
theorem dc_174_43 : decode (ax_code 174) 43 = .ok (.goto 4, 3) := by decide +kernel
theorem dc_174_46 : decode (ax_code 174) 46 = .ok (.iconst 1, 1) := by decide +kernel
theorem dc_174_47 : decode (ax_code 174) 47 = .ok (.ireturn, 1) := by decide +kernel
theorem dc_175_0 : decode (ax_code 175) 0 = .ok (.aload_n 0, 1) := by decide +kernel
theorem dc_175_1 : decode (ax_code 175) 1 = .ok (.iload_n 1, 1) := by decide +kernel
theorem dc_175_2 : decode (ax_code 175) 2 = .ok (.invokevirtual 190, 3) := by decide +kernel
theorem dc_175_5 : decode (ax_code 175) 5 = .ok (.ifCond .eq 11, 3) := by decide +kernel
theorem dc_175_8 : decode (ax_code 175) 8 = .ok (.aload_n 0, 1) := by decide +kernel
theorem dc_175_9 : decode (ax_code 175) 9 = .ok (.iload_n 2, 1) := by decide +kernel
theorem dc_175_10 : decode (ax_code 175) 10 = .ok (.invokevirtual 174, 3) := by decide +kernel
theorem dc_175_13 : decode (ax_code 175) 13 = .ok (.ifCond .ne 6, 3) := by decide +kernel
theorem dc_175_16 : decode (ax_code 175) 16 = .ok (.bipush (-2), 2) := by decide +kernel
theorem dc_175_18 : decode (ax_code 175) 18 = .ok (.ireturn, 1) := by decide +kernel
theorem dc_175_19 : decode (ax_code 175) 19 = .ok (.aload_n 0, 1) := by decide +kernel
theorem dc_175_20 : decode (ax_code 175) 20 = .ok (.iload_n 1, 1) := by decide +kernel
theorem dc_175_21 : decode (ax_code 175) 21 = .ok (.aload_n 0, 1) := by decide +kernel
theorem dc_175_22 : decode (ax_code 175) 22 = .ok (.getfield 127, 3) := by decide +kernel
theorem dc_175_25 : decode (ax_code 175) 25 = .ok (.invokevirtual 193, 3) := by decide +kernel
theorem dc_175_28 : decode (ax_code 175) 28 = .ok (.aload_n 0, 1) := by decide +kernel
theorem dc_175_29 : decode (ax_code 175) 29 = .ok (.getfield 36, 3) := by decide +kernel
theorem dc_175_32 : decode (ax_code 175) 32 = .ok (.iload_n 2, 1) := by decide +kernel
theorem dc_175_33 : decode (ax_code 175) 33 = .ok (.iaload, 1) := by decide +kernel
theorem dc_175_34 : decode (ax_code 175) 34 = .ok (.ireturn, 1) := by decide +kernel
theorem dc_176_0 : decode (ax_code 176) 0 = .ok (.iload_n 1, 1) := by decide +kernel
theorem dc_176_1 : decode (ax_code 176) 1 = .ok (.i2l, 1) := by decide +kernel
theorem dc_176_2 : decode (ax_code 176) 2 = .ok (.lconst 0, 1) := by decide +kernel
theorem dc_176_3 : decode (ax_code 176) 3 = .ok (.aload_n 0, 1) := by decide +kernel
theorem dc_176_4 : decode (ax_code 176) 4 = .ok (.aload_n 0, 1) := by decide +kernel
theorem dc_176_5 : decode (ax_code 176) 5 = .ok (.getfield 127, 3) := by decide +kernel
theorem dc_176_8 : decode (ax_code 176) 8 = .ok (.invokevirtual 187, 3) := by decide +kernel
theorem dc_176_11 : decode (ax_code 176) 11 = .ok (.iconst 1, 1) := by decide +kernel
theorem dc_176_12 : decode (ax_code 176) 12 = .ok (.isub, 1) := by decide +kernel
theorem dc_176_13 : decode (ax_code 176) 13 = .ok (.i2l, 1) := by decide +kernel
theorem dc_176_14 : decode (ax_code 176) 14 = .ok (.invokestatic 123, 3) := by decide +kernel
theorem dc_176_17 : decode (ax_code 176) 17 = .ok (.ireturn, 1) := by decide +kernel
theorem dc_177_0 : decode (ax_code 177) 0 = .ok (.iload_n 1, 1) := by decide +kernel
theorem dc_177_1 : decode (ax_code 177) 1 = .ok (.istore_n 3, 1) := by decide +kernel
theorem dc_177_2 : decode (ax_code 177) 2 = .ok (.iload_n 2, 1) := by decide +kernel
theorem dc_177_3 : decode (ax_code 177) 3 = .ok (.iconst 1, 1) := by decide +kernel
theorem dc_177_4 : decode (ax_code 177) 4 = .ok (.isub, 1) := by decide +kernel
theorem dc_177_5 : decode (ax_code 177) 5 = .ok (.istore 4, 2) := by decide +kernel
theorem dc_177_7 : decode (ax_code 177) 7 = .ok (.iload 4, 2) := by decide +kernel
theorem dc_177_9 : decode (ax_code 177) 9 = .ok (.ifCond .lt 33, 3) := by decide +kernel
theorem dc_177_12 : decode (ax_code 177) 12 = .ok (.aload_n 0, 1) := by decide +kernel
theorem dc_177_13 : decode (ax_code 177) 13 = .ok (.getfield 36, 3) := by decide +kernel
theorem dc_177_16 : decode (ax_code 177) 16 = .ok (.iload 4, 2) := by decide +kernel
theorem dc_177_18 : decode (ax_code 177) 18 = .ok (.iload_n 3, 1) := by decide +kernel
theorem dc_177_19 : decode (ax_code 177) 19 = .ok (.aload_n 0, 1) := by decide +kernel
theorem dc_177_20 : decode (ax_code 177) 20 = .ok (.iload 4, 2) := by decide +kernel
theorem dc_177_22 : decode (ax_code 177) 22 = .ok (.invokevirtual 184, 3) := by decide +kernel
theorem dc_177_25 : decode (ax_code 177) 25 = .ok (.irem, 1) := by decide +kernel
theorem dc_177_26 : decode (ax_code 177) 26 = .ok (.iastore, 1) := by decide +kernel
theorem dc_177_27 : decode (ax_code 177) 27 = .ok (.iload_n 3, 1) := by decide +kernel
theorem dc_177_28 : decode (ax_code 177) 28 = .ok (.aload_n 0, 1) := by decide +kernel
theorem dc_177_29 : decode (ax_code 177) 29 = .ok (.iload 4, 2) := by decide +kernel
theorem dc_177_31 : decode (ax_code 177) 31 = .ok (.invokevirtual 184, 3) := by decide +kernel
theorem dc_177_34 : decode (ax_code 177) 34 = .ok (.idiv, 1) := by decide +kernel
theorem dc_177_35 : decode (ax_code 177) 35 = .ok (.istore_n 3, 1) := by decide +kernel
theorem dc_177_36 : decode (ax_code 177) 36 = .ok (.iinc 4 (-1), 3) := by decide +kernel
theorem dc_177_39 : decode (ax_code 177) 39 = .ok (.goto (-32), 3) := by decide +kernel
theorem dc_177_42 : decode (ax_code 177) 42 = .ok (.iconst 0, 1) := by decide +kernel
theorem dc_177_43 : decode (ax_code 177) 43 = .ok (.istore 4, 2) := by decide +kernel
theorem dc_177_45 : decode (ax_code 177) 45 = .ok (.iconst 0, 1) := by decide +kernel
theorem dc_177_46 : decode (ax_code 177) 46 = .ok (.istore 5, 2) := by decide +kernel
theorem dc_177_48 : decode (ax_code 177) 48 = .ok (.iload 5, 2) := by decide +kernel
theorem dc_177_50 : decode (ax_code 177) 50 = .ok (.iload_n 2, 1) := by decide +kernel
theorem dc_177_51 : decode (ax_code 177) 51 = .ok (.if_icmp .ge 94, 3) := by decide +kernel
theorem dc_177_54 : decode (ax_code 177) 54 = .ok (.aload_n 0, 1) := by decide +kernel
theorem dc_177_55 : decode (ax_code 177) 55 = .ok (.getfield 17, 3) := by decide +kernel
theorem dc_177_58 : decode (ax_code 177) 58 = .ok (.iload 5, 2) := by decide +kernel
theorem dc_177_60 : decode (ax_code 177) 60 = .ok (.iaload, 1) := by decide +kernel
theorem dc_177_61 : decode (ax_code 177) 61 = .ok (.invokestatic 146, 3) := by decide +kernel
theorem dc_177_64 : decode (ax_code 177) 64 = .ok (.ifCond .eq 75, 3) := by decide +kernel
theorem dc_177_67 : decode (ax_code 177) 67 = .ok (.iconst 0, 1) := by decide +kernel
theorem dc_177_68 : decode (ax_code 177) 68 = .ok (.istore 6, 2) := by decide +kernel
theorem dc_177_70 : decode (ax_code 177) 70 = .ok (.aload_n 0, 1) := by decide +kernel
theorem dc_177_71 : decode (ax_code 177) 71 = .ok (.getfield 36, 3) := by decide +kernel
theorem dc_177_74 : decode (ax_code 177) 74 = .ok (.iload 5, 2) := by decide +kernel
theorem dc_177_76 : decode (ax_code 177) 76 = .ok (.iaload, 1) := by decide +kernel
theorem dc_177_77 : decode (ax_code 177) 77 = .ok (.istore 7, 2) := by decide +kernel
theorem dc_177_79 : decode (ax_code 177) 79 = .ok (.iload 7, 2) := by decide +kernel
theorem dc_177_81 : decode (ax_code 177) 81 = .ok (.ifCond .gt 14, 3) := by decide +kernel
theorem dc_177_84 : decode (ax_code 177) 84 = .ok (.iload 4, 2) := by decide +kernel
theorem dc_177_86 : decode (ax_code 177) 86 = .ok (.iload 6, 2) := by decide +kernel
theorem dc_177_88 : decode (ax_code 177) 88 = .ok (.ishr, 1) := by decide +kernel
theorem dc_177_89 : decode (ax_code 177) 89 = .ok (.iconst 1, 1) := by decide +kernel
theorem dc_177_90 : decode (ax_code 177) 90 = .ok (.iand, 1) := by decide +kernel
theorem dc_177_91 : decode (ax_code 177) 91 = .ok (.iconst 1, 1) := by decide +kernel
theorem dc_177_92 : decode (ax_code 177) 92 = .ok (.if_icmp .ne 29, 3) := by decide +kernel
theorem dc_177_95 : decode (ax_code 177) 95 = .ok (.iload 7, 2) := by decide +kernel
theorem dc_177_97 : decode (ax_code 177) 97 = .ok (.iload 4, 2) := by decide +kernel
theorem dc_177_99 : decode (ax_code 177) 99 = .ok (.iload 6, 2) := by decide +kernel
theorem dc_177_101 : decode (ax_code 177) 101 = .ok (.ishr, 1) := by decide +kernel
theorem dc_177_102 : decode (ax_code 177) 102 = .ok (.iconst 1, 1) := by decide +kernel
theorem dc_177_103 : decode (ax_code 177) 103 = .ok (.iand, 1) := by decide +kernel
theorem dc_177_104 : decode (ax_code 177) 104 = .ok (.ifCond .ne 7, 3) := by decide +kernel
theorem dc_177_107 : decode (ax_code 177) 107 = .ok (.iconst 1, 1) := by decide +kernel
theorem dc_177_108 : decode (ax_code 177) 108 = .ok (.goto 4, 3) := by decide +kernel
theorem dc_177_111 : decode (ax_code 177) 111 = .ok (.iconst 0, 1) := by decide +kernel
theorem dc_177_112 : decode (ax_code 177) 112 = .ok (.isub, 1) := by decide +kernel
theorem dc_177_113 : decode (ax_code 177) 113 = .ok (.istore 7, 2) := by decide +kernel
theorem dc_177_115 : decode (ax_code 177) 115 = .ok (.iinc 6 1, 3) := by decide +kernel
theorem dc_177_118 : decode (ax_code 177) 118 = .ok (.goto (-39), 3) := by decide +kernel
theorem dc_177_121 : decode (ax_code 177) 121 = .ok (.aload_n 0, 1) := by decide +kernel
theorem dc_177_122 : decode (ax_code 177) 122 = .ok (.getfield 36, 3) := by decide +kernel
theorem dc_177_125 : decode (ax_code 177) 125 = .ok (.iload 5, 2) := by decide +kernel
theorem dc_177_127 : decode (ax_code 177) 127 = .ok (.iload 6, 2) := by decide +kernel
theorem dc_177_129 : decode (ax_code 177) 129 = .ok (.iastore, 1) := by decide +kernel
theorem dc_177_130 : decode (ax_code 177) 130 = .ok (.iload 4, 2) := by decide +kernel
theorem dc_177_132 : decode (ax_code 177) 132 = .ok (.iconst 1, 1) := by decide +kernel
theorem dc_177_133 : decode (ax_code 177) 133 = .ok (.iload 6, 2) := by decide +kernel
theorem dc_177_135 : decode (ax_code 177) 135 = .ok (.ishl, 1) := by decide +kernel
theorem dc_177_136 : decode (ax_code 177) 136 = .ok (.ior, 1) := by decide +kernel
theorem dc_177_137 : decode (ax_code 177) 137 = .ok (.istore 4, 2) := by decide +kernel
theorem dc_177_139 : decode (ax_code 177) 139 = .ok (.iinc 5 1, 3) := by decide +kernel
theorem dc_177_142 : decode (ax_code 177) 142 = .ok (.goto (-94), 3) := by decide +kernel
theorem dc_177_145 : decode (ax_code 177) 145 = .ok (.return_, 1) := by decide +kernel
theorem dc_178_0 : decode (ax_code 178) 0 = .ok (.aload_n 0, 1) := by decide +kernel
theorem dc_178_1 : decode (ax_code 178) 1 = .ok (.iload_n 1, 1) := by decide +kernel
theorem dc_178_2 : decode (ax_code 178) 2 = .ok (.invokevirtual 190, 3) := by decide +kernel
theorem dc_178_5 : decode (ax_code 178) 5 = .ok (.ifCond .eq 10, 3) := by decide +kernel
theorem dc_178_8 : decode (ax_code 178) 8 = .ok (.iload_n 2, 1) := by decide +kernel
theorem dc_178_9 : decode (ax_code 178) 9 = .ok (.invokestatic 200, 3) := by decide +kernel
theorem dc_178_12 : decode (ax_code 178) 12 = .ok (.ifCond .ne 11, 3) := by decide +kernel
theorem dc_178_15 : decode (ax_code 178) 15 = .ok (.bipush (-2), 2) := by decide +kernel
theorem dc_178_17 : decode (ax_code 178) 17 = .ok (.invokestatic 203, 3) := by decide +kernel
theorem dc_178_20 : decode (ax_code 178) 20 = .ok (.goto 15, 3) := by decide +kernel
theorem dc_178_23 : decode (ax_code 178) 23 = .ok (.iload_n 2, 1) := by decide +kernel
theorem dc_178_24 : decode (ax_code 178) 24 = .ok (.ifCond .ne 7, 3) := by decide +kernel
theorem dc_178_27 : decode (ax_code 178) 27 = .ok (.lconst 1, 1) := by decide +kernel
theorem dc_178_28 : decode (ax_code 178) 28 = .ok (.goto 7, 3) := by decide +kernel
theorem dc_178_31 : decode (ax_code 178) 31 = .ok (.aload_n 0, 1) := by decide +kernel
theorem dc_178_32 : decode (ax_code 178) 32 = .ok (.invokevirtual 207, 3) := by decide +kernel
theorem dc_178_35 : decode (ax_code 178) 35 = .ok (.lreturn, 1) := by decide +kernel
theorem dc_179_0 : decode (ax_code 179) 0 = .ok (.iload_n 0, 1) := by decide +kernel
theorem dc_179_1 : decode (ax_code 179) 1 = .ok (.i2l, 1) := by decide +kernel
theorem dc_179_2 : decode (ax_code 179) 2 = .ok (.lconst 0, 1) := by decide +kernel
theorem dc_179_3 : decode (ax_code 179) 3 = .ok (.lconst 1, 1) := by decide +kernel
theorem dc_179_4 : decode (ax_code 179) 4 = .ok (.invokestatic 123, 3) := by decide +kernel
theorem dc_179_7 : decode (ax_code 179) 7 = .ok (.ireturn, 1) := by decide +kernel
theorem dc_180_0 : decode (ax_code 180) 0 = .ok (.ldc2_w 119, 3) := by decide +kernel
theorem dc_180_3 : decode (ax_code 180) 3 = .ok (.iload_n 0, 1) := by decide +kernel
theorem dc_180_4 : decode (ax_code 180) 4 = .ok (.i2l, 1) := by decide +kernel
theorem dc_180_5 : decode (ax_code 180) 5 = .ok (.ladd, 1) := by decide +kernel
theorem dc_180_6 : decode (ax_code 180) 6 = .ok (.lreturn, 1) := by decide +kernel
theorem dc_181_0 : decode (ax_code 181) 0 = .ok (.lconst 1, 1) := by decide +kernel
theorem dc_181_1 : decode (ax_code 181) 1 = .ok (.lstore_n 1, 1) := by decide +kernel
theorem dc_181_2 : decode (ax_code 181) 2 = .ok (.iconst 0, 1) := by decide +kernel
theorem dc_181_3 : decode (ax_code 181) 3 = .ok (.istore_n 3, 1) := by decide +kernel
theorem dc_181_4 : decode (ax_code 181) 4 = .ok (.iload_n 3, 1) := by decide +kernel
theorem dc_181_5 : decode (ax_code 181) 5 = .ok (.aload_n 0, 1) := by decide +kernel
theorem dc_181_6 : decode (ax_code 181) 6 = .ok (.getfield 127, 3) := by decide +kernel
theorem dc_181_9 : decode (ax_code 181) 9 = .ok (.if_icmp .ge 34, 3) := by decide +kernel
theorem dc_181_12 : decode (ax_code 181) 12 = .ok (.lload_n 1, 1) := by decide +kernel
theorem dc_181_13 : decode (ax_code 181) 13 = .ok (.aload_n 0, 1) := by decide +kernel
theorem dc_181_14 : decode (ax_code 181) 14 = .ok (.getfield 17, 3) := by decide +kernel
theorem dc_181_17 : decode (ax_code 181) 17 = .ok (.iload_n 3, 1) := by decide +kernel
theorem dc_181_18 : decode (ax_code 181) 18 = .ok (.iaload, 1) := by decide +kernel
theorem dc_181_19 : decode (ax_code 181) 19 = .ok (.invokestatic 197, 3) := by decide +kernel
theorem dc_181_22 : decode (ax_code 181) 22 = .ok (.ifCond .eq 12, 3) := by decide +kernel
theorem dc_181_25 : decode (ax_code 181) 25 = .ok (.aload_n 0, 1) := by decide +kernel
theorem dc_181_26 : decode (ax_code 181) 26 = .ok (.iload_n 3, 1) := by decide +kernel
theorem dc_181_27 : decode (ax_code 181) 27 = .ok (.invokevirtual 184, 3) := by decide +kernel
theorem dc_181_30 : decode (ax_code 181) 30 = .ok (.i2l, 1) := by decide +kernel
theorem dc_181_31 : decode (ax_code 181) 31 = .ok (.goto 4, 3) := by decide +kernel
theorem dc_181_34 : decode (ax_code 181) 34 = .ok (.lconst 1, 1) := by decide +kernel
theorem dc_181_35 : decode (ax_code 181) 35 = .ok (.lmul, 1) := by decide +kernel
theorem dc_181_36 : decode (ax_code 181) 36 = .ok (.lstore_n 1, 1) := by decide +kernel
theorem dc_181_37 : decode (ax_code 181) 37 = .ok (.iinc 3 1, 3) := by decide +kernel
theorem dc_181_40 : decode (ax_code 181) 40 = .ok (.goto (-36), 3) := by decide +kernel
theorem dc_181_43 : decode (ax_code 181) 43 = .ok (.lload_n 1, 1) := by decide +kernel
theorem dc_181_44 : decode (ax_code 181) 44 = .ok (.lreturn, 1) := by decide +kernel
theorem dc_182_0 : decode (ax_code 182) 0 = .ok (.iload_n 0, 1) := by decide +kernel
theorem dc_182_1 : decode (ax_code 182) 1 = .ok (.ifCond .eq 20, 3) := by decide +kernel
theorem dc_182_4 : decode (ax_code 182) 4 = .ok (.iload_n 0, 1) := by decide +kernel
theorem dc_182_5 : decode (ax_code 182) 5 = .ok (.iconst 1, 1) := by decide +kernel
theorem dc_182_6 : decode (ax_code 182) 6 = .ok (.if_icmp .eq 15, 3) := by decide +kernel
theorem dc_182_9 : decode (ax_code 182) 9 = .ok (.iload_n 0, 1) := by decide +kernel
theorem dc_182_10 : decode (ax_code 182) 10 = .ok (.bipush 6, 2) := by decide +kernel
theorem dc_182_12 : decode (ax_code 182) 12 = .ok (.if_icmp .eq 9, 3) := by decide +kernel
theorem dc_182_15 : decode (ax_code 182) 15 = .ok (.iload_n 0, 1) := by decide +kernel
theorem dc_182_16 : decode (ax_code 182) 16 = .ok (.bipush 7, 2) := by decide +kernel
theorem dc_182_18 : decode (ax_code 182) 18 = .ok (.if_icmp .ne 7, 3) := by decide +kernel
theorem dc_182_21 : decode (ax_code 182) 21 = .ok (.iconst 1, 1) := by decide +kernel
theorem dc_182_22 : decode (ax_code 182) 22 = .ok (.goto 4, 3) := by decide +kernel
theorem dc_182_25 : decode (ax_code 182) 25 = .ok (.iconst 0, 1) := by decide +kernel
theorem dc_182_26 : decode (ax_code 182) 26 = .ok (.ireturn, 1) := by decide +kernel
theorem dc_183_0 : decode (ax_code 183) 0 = .ok (.iload_n 1, 1) := by decide +kernel
theorem dc_183_1 : decode (ax_code 183) 1 = .ok (.invokestatic 149, 3) := by decide +kernel
theorem dc_183_4 : decode (ax_code 183) 4 = .ok (.ifCond .eq 19, 3) := by decide +kernel
theorem dc_183_7 : decode (ax_code 183) 7 = .ok (.aload_n 0, 1) := by decide +kernel
theorem dc_183_8 : decode (ax_code 183) 8 = .ok (.iload_n 2, 1) := by decide +kernel
theorem dc_183_9 : decode (ax_code 183) 9 = .ok (.invokevirtual 190, 3) := by decide +kernel
theorem dc_183_12 : decode (ax_code 183) 12 = .ok (.ifCond .eq 11, 3) := by decide +kernel
theorem dc_183_15 : decode (ax_code 183) 15 = .ok (.aload_n 0, 1) := by decide +kernel
theorem dc_183_16 : decode (ax_code 183) 16 = .ok (.iload_n 3, 1) := by decide +kernel
theorem dc_183_17 : decode (ax_code 183) 17 = .ok (.invokevirtual 181, 3) := by decide +kernel
theorem dc_183_20 : decode (ax_code 183) 20 = .ok (.ifCond .ne 6, 3) := by decide +kernel
theorem dc_183_23 : decode (ax_code 183) 23 = .ok (.bipush (-2), 2) := by decide +kernel
theorem dc_183_25 : decode (ax_code 183) 25 = .ok (.ireturn, 1) := by decide +kernel
theorem dc_183_26 : decode (ax_code 183) 26 = .ok (.aload_n 0, 1) := by decide +kernel
theorem dc_183_27 : decode (ax_code 183) 27 = .ok (.iload_n 2, 1) := by decide +kernel
theorem dc_183_28 : decode (ax_code 183) 28 = .ok (.aload_n 0, 1) := by decide +kernel
theorem dc_183_29 : decode (ax_code 183) 29 = .ok (.getfield 127, 3) := by decide +kernel
theorem dc_183_32 : decode (ax_code 183) 32 = .ok (.invokevirtual 193, 3) := by decide +kernel
theorem dc_183_35 : decode (ax_code 183) 35 = .ok (.aload_n 0, 1) := by decide +kernel
theorem dc_183_36 : decode (ax_code 183) 36 = .ok (.iload_n 1, 1) := by decide +kernel
theorem dc_183_37 : decode (ax_code 183) 37 = .ok (.iload_n 3, 1) := by decide +kernel
theorem dc_183_38 : decode (ax_code 183) 38 = .ok (.invokevirtual 211, 3) := by decide +kernel
theorem dc_183_41 : decode (ax_code 183) 41 = .ok (.ireturn, 1) := by decide +kernel
theorem dc_184_0 : decode (ax_code 184) 0 = .ok (.iconst 1, 1) := by decide +kernel
theorem dc_184_1 : decode (ax_code 184) 1 = .ok (.istore_n 3, 1) := by decide +kernel
theorem dc_184_2 : decode (ax_code 184) 2 = .ok (.iconst 0, 1) := by decide +kernel
theorem dc_184_3 : decode (ax_code 184) 3 = .ok (.istore 4, 2) := by decide +kernel
theorem dc_184_5 : decode (ax_code 184) 5 = .ok (.iload 4, 2) := by decide +kernel
theorem dc_184_7 : decode (ax_code 184) 7 = .ok (.iload_n 2, 1) := by decide +kernel
theorem dc_184_8 : decode (ax_code 184) 8 = .ok (.if_icmp .ge 43, 3) := by decide +kernel
theorem dc_184_11 : decode (ax_code 184) 11 = .ok (.bipush 8, 2) := by decide +kernel
theorem dc_184_13 : decode (ax_code 184) 13 = .ok (.iload_n 3, 1) := by decide +kernel
theorem dc_184_14 : decode (ax_code 184) 14 = .ok (.imul, 1) := by decide +kernel
theorem dc_184_15 : decode (ax_code 184) 15 = .ok (.aload_n 0, 1) := by decide +kernel
theorem dc_184_16 : decode (ax_code 184) 16 = .ok (.iload 4, 2) := by decide +kernel
theorem dc_184_18 : decode (ax_code 184) 18 = .ok (.iload_n 2, 1) := by decide +kernel
theorem dc_184_19 : decode (ax_code 184) 19 = .ok (.invokevirtual 177, 3) := by decide +kernel
theorem dc_184_22 : decode (ax_code 184) 22 = .ok (.iload_n 1, 1) := by decide +kernel
theorem dc_184_23 : decode (ax_code 184) 23 = .ok (.ishr, 1) := by decide +kernel
theorem dc_184_24 : decode (ax_code 184) 24 = .ok (.iconst 1, 1) := by decide +kernel
theorem dc_184_25 : decode (ax_code 184) 25 = .ok (.iand, 1) := by decide +kernel
theorem dc_184_26 : decode (ax_code 184) 26 = .ok (.iconst 1, 1) := by decide +kernel
theorem dc_184_27 : decode (ax_code 184) 27 = .ok (.if_icmp .ne 15, 3) := by decide +kernel
theorem dc_184_30 : decode (ax_code 184) 30 = .ok (.aload_n 0, 1) := by decide +kernel
theorem dc_184_31 : decode (ax_code 184) 31 = .ok (.getfield 36, 3) := by decide +kernel
theorem dc_184_34 : decode (ax_code 184) 34 = .ok (.iload 4, 2) := by decide +kernel
theorem dc_184_36 : decode (ax_code 184) 36 = .ok (.iaload, 1) := by decide +kernel
theorem dc_184_37 : decode (ax_code 184) 37 = .ok (.iconst 1, 1) := by decide +kernel
theorem dc_184_38 : decode (ax_code 184) 38 = .ok (.iadd, 1) := by decide +kernel
theorem dc_184_39 : decode (ax_code 184) 39 = .ok (.goto 4, 3) := by decide +kernel
theorem dc_184_42 : decode (ax_code 184) 42 = .ok (.iconst 0, 1) := by decide +kernel
theorem dc_184_43 : decode (ax_code 184) 43 = .ok (.iadd, 1) := by decide +kernel
theorem dc_184_44 : decode (ax_code 184) 44 = .ok (.istore_n 3, 1) := by decide +kernel
theorem dc_184_45 : decode (ax_code 184) 45 = .ok (.iinc 4 1, 3) := by decide +kernel
theorem dc_184_48 : decode (ax_code 184) 48 = .ok (.goto (-43), 3) := by decide +kernel
theorem dc_184_51 : decode (ax_code 184) 51 = .ok (.iload_n 3, 1) := by decide +kernel
theorem dc_184_52 : decode (ax_code 184) 52 = .ok (.ireturn, 1) := by decide +kernel
theorem dc_185_0 : decode (ax_code 185) 0 = .ok (.iload_n 1, 1) := by decide +kernel
theorem dc_185_1 : decode (ax_code 185) 1 = .ok (.invokestatic 149, 3) := by decide +kernel
theorem dc_185_4 : decode (ax_code 185) 4 = .ok (.ifCond .eq 22, 3) := by decide +kernel
theorem dc_185_7 : decode (ax_code 185) 7 = .ok (.aload_n 0, 1) := by decide +kernel
theorem dc_185_8 : decode (ax_code 185) 8 = .ok (.iload_n 2, 1) := by decide +kernel
theorem dc_185_9 : decode (ax_code 185) 9 = .ok (.invokevirtual 181, 3) := by decide +kernel
theorem dc_185_12 : decode (ax_code 185) 12 = .ok (.ifCond .eq 14, 3) := by decide +kernel
theorem dc_185_15 : decode (ax_code 185) 15 = .ok (.aload_n 0, 1) := by decide +kernel
theorem dc_185_16 : decode (ax_code 185) 16 = .ok (.iload_n 1, 1) := by decide +kernel
theorem dc_185_17 : decode (ax_code 185) 17 = .ok (.iload_n 2, 1) := by decide +kernel
theorem dc_185_18 : decode (ax_code 185) 18 = .ok (.iload_n 3, 1) := by decide +kernel
theorem dc_185_19 : decode (ax_code 185) 19 = .ok (.i2l, 1) := by decide +kernel
theorem dc_185_20 : decode (ax_code 185) 20 = .ok (.invokevirtual 214, 3) := by decide +kernel
theorem dc_185_23 : decode (ax_code 185) 23 = .ok (.goto 5, 3) := by decide +kernel
theorem dc_185_26 : decode (ax_code 185) 26 = .ok (.bipush (-2), 2) := by decide +kernel
theorem dc_185_28 : decode (ax_code 185) 28 = .ok (.ireturn, 1) := by decide +kernel
theorem dc_186_0 : decode (ax_code 186) 0 = .ok (.iconst 0, 1) := by decide +kernel
theorem dc_186_1 : decode (ax_code 186) 1 = .ok (.istore 5, 2) := by decide +kernel
theorem dc_186_3 : decode (ax_code 186) 3 = .ok (.aload_n 0, 1) := by decide +kernel
theorem dc_186_4 : decode (ax_code 186) 4 = .ok (.iload_n 2, 1) := by decide +kernel
theorem dc_186_5 : decode (ax_code 186) 5 = .ok (.invokevirtual 187, 3) := by decide +kernel
theorem dc_186_8 : decode (ax_code 186) 8 = .ok (.istore 6, 2) := by decide +kernel
theorem dc_186_10 : decode (ax_code 186) 10 = .ok (.iconst 0, 1) := by decide +kernel
theorem dc_186_11 : decode (ax_code 186) 11 = .ok (.istore 7, 2) := by decide +kernel
theorem dc_186_13 : decode (ax_code 186) 13 = .ok (.iload 7, 2) := by decide +kernel
theorem dc_186_15 : decode (ax_code 186) 15 = .ok (.iload 6, 2) := by decide +kernel
theorem dc_186_17 : decode (ax_code 186) 17 = .ok (.if_icmp .ge 38, 3) := by decide +kernel
theorem dc_186_20 : decode (ax_code 186) 20 = .ok (.aload_n 0, 1) := by decide +kernel
theorem dc_186_21 : decode (ax_code 186) 21 = .ok (.iload 7, 2) := by decide +kernel
theorem dc_186_23 : decode (ax_code 186) 23 = .ok (.iload_n 2, 1) := by decide +kernel
theorem dc_186_24 : decode (ax_code 186) 24 = .ok (.invokevirtual 193, 3) := by decide +kernel
theorem dc_186_27 : decode (ax_code 186) 27 = .ok (.iload 5, 2) := by decide +kernel
theorem dc_186_29 : decode (ax_code 186) 29 = .ok (.aload_n 0, 1) := by decide +kernel
theorem dc_186_30 : decode (ax_code 186) 30 = .ok (.iload_n 1, 1) := by decide +kernel
theorem dc_186_31 : decode (ax_code 186) 31 = .ok (.iload_n 2, 1) := by decide +kernel
theorem dc_186_32 : decode (ax_code 186) 32 = .ok (.invokevirtual 211, 3) := by decide +kernel
theorem dc_186_35 : decode (ax_code 186) 35 = .ok (.i2l, 1) := by decide +kernel
theorem dc_186_36 : decode (ax_code 186) 36 = .ok (.lload_n 3, 1) := by decide +kernel
theorem dc_186_37 : decode (ax_code 186) 37 = .ok (.lcmp, 1) := by decide +kernel
theorem dc_186_38 : decode (ax_code 186) 38 = .ok (.ifCond .ne 7, 3) := by decide +kernel
theorem dc_186_41 : decode (ax_code 186) 41 = .ok (.iconst 1, 1) := by decide +kernel
theorem dc_186_42 : decode (ax_code 186) 42 = .ok (.goto 4, 3) := by decide +kernel
theorem dc_186_45 : decode (ax_code 186) 45 = .ok (.iconst 0, 1) := by decide +kernel
theorem dc_186_46 : decode (ax_code 186) 46 = .ok (.iadd, 1) := by decide +kernel
theorem dc_186_47 : decode (ax_code 186) 47 = .ok (.istore 5, 2) := by decide +kernel
theorem dc_186_49 : decode (ax_code 186) 49 = .ok (.iinc 7 1, 3) := by decide +kernel
theorem dc_186_52 : decode (ax_code 186) 52 = .ok (.goto (-39), 3) := by decide +kernel
theorem dc_186_55 : decode (ax_code 186) 55 = .ok (.iload 5, 2) := by decide +kernel
theorem dc_186_57 : decode (ax_code 186) 57 = .ok (.ireturn, 1) := by decide +kernel
theorem dc_187_0 : decode (ax_code 187) 0 = .ok (.iload_n 1, 1) := by decide +kernel
theorem dc_187_1 : decode (ax_code 187) 1 = .ok (.invokestatic 149, 3) := by decide +kernel
theorem dc_187_4 : decode (ax_code 187) 4 = .ok (.ifCond .eq 11, 3) := by decide +kernel
theorem dc_187_7 : decode (ax_code 187) 7 = .ok (.aload_n 0, 1) := by decide +kernel
theorem dc_187_8 : decode (ax_code 187) 8 = .ok (.iload_n 2, 1) := by decide +kernel
theorem dc_187_9 : decode (ax_code 187) 9 = .ok (.invokevirtual 181, 3) := by decide +kernel
theorem dc_187_12 : decode (ax_code 187) 12 = .ok (.ifCond .ne 6, 3) := by decide +kernel
theorem dc_187_15 : decode (ax_code 187) 15 = .ok (.bipush (-2), 2) := by decide +kernel
theorem dc_187_17 : decode (ax_code 187) 17 = .ok (.ireturn, 1) := by decide +kernel
theorem dc_187_18 : decode (ax_code 187) 18 = .ok (.iload 4, 2) := by decide +kernel
theorem dc_187_20 : decode (ax_code 187) 20 = .ok (.istore 5, 2) := by decide +kernel
theorem dc_187_22 : decode (ax_code 187) 22 = .ok (.aload_n 0, 1) := by decide +kernel
theorem dc_187_23 : decode (ax_code 187) 23 = .ok (.iload_n 2, 1) := by decide +kernel
theorem dc_187_24 : decode (ax_code 187) 24 = .ok (.invokevirtual 187, 3) := by decide +kernel
theorem dc_187_27 : decode (ax_code 187) 27 = .ok (.istore 6, 2) := by decide +kernel
theorem dc_187_29 : decode (ax_code 187) 29 = .ok (.iconst 0, 1) := by decide +kernel
theorem dc_187_30 : decode (ax_code 187) 30 = .ok (.istore 7, 2) := by decide +kernel
theorem dc_187_32 : decode (ax_code 187) 32 = .ok (.iload 7, 2) := by decide +kernel
theorem dc_187_34 : decode (ax_code 187) 34 = .ok (.iload 6, 2) := by decide +kernel
theorem dc_187_36 : decode (ax_code 187) 36 = .ok (.if_icmp .ge 42, 3) := by decide +kernel
theorem dc_187_39 : decode (ax_code 187) 39 = .ok (.iload 5, 2) := by decide +kernel
theorem dc_187_41 : decode (ax_code 187) 41 = .ok (.ifCond .lt 37, 3) := by decide +kernel
theorem dc_187_44 : decode (ax_code 187) 44 = .ok (.aload_n 0, 1) := by decide +kernel
theorem dc_187_45 : decode (ax_code 187) 45 = .ok (.iload 7, 2) := by decide +kernel
theorem dc_187_47 : decode (ax_code 187) 47 = .ok (.iload_n 2, 1) := by decide +kernel
theorem dc_187_48 : decode (ax_code 187) 48 = .ok (.invokevirtual 193, 3) := by decide +kernel
theorem dc_187_51 : decode (ax_code 187) 51 = .ok (.aload_n 0, 1) := by decide +kernel
theorem dc_187_52 : decode (ax_code 187) 52 = .ok (.iload_n 1, 1) := by decide +kernel
theorem dc_187_53 : decode (ax_code 187) 53 = .ok (.iload_n 2, 1) := by decide +kernel
theorem dc_187_54 : decode (ax_code 187) 54 = .ok (.invokevirtual 211, 3) := by decide +kernel
theorem dc_187_57 : decode (ax_code 187) 57 = .ok (.iload_n 3, 1) := by decide +kernel
theorem dc_187_58 : decode (ax_code 187) 58 = .ok (.if_icmp .ne 14, 3) := by decide +kernel
theorem dc_187_61 : decode (ax_code 187) 61 = .ok (.iload 5, 2) := by decide +kernel
theorem dc_187_63 : decode (ax_code 187) 63 = .ok (.ifCond .ne 6, 3) := by decide +kernel
theorem dc_187_66 : decode (ax_code 187) 66 = .ok (.iload 7, 2) := by decide +kernel
theorem dc_187_68 : decode (ax_code 187) 68 = .ok (.ireturn, 1) := by decide +kernel
theorem dc_187_69 : decode (ax_code 187) 69 = .ok (.iinc 5 (-1), 3) := by decide +kernel
theorem dc_187_72 : decode (ax_code 187) 72 = .ok (.iinc 7 1, 3) := by decide +kernel
theorem dc_187_75 : decode (ax_code 187) 75 = .ok (.goto (-43), 3) := by decide +kernel
theorem dc_187_78 : decode (ax_code 187) 78 = .ok (.bipush (-12), 2) := by decide +kernel
theorem dc_187_80 : decode (ax_code 187) 80 = .ok (.ireturn, 1) := by decide +kernel
theorem dc_188_0 : decode (ax_code 188) 0 = .ok (.iload_n 1, 1) := by decide +kernel
theorem dc_188_1 : decode (ax_code 188) 1 = .ok (.invokestatic 149, 3) := by decide +kernel
theorem dc_188_4 : decode (ax_code 188) 4 = .ok (.ifCond .eq 33, 3) := by decide +kernel
theorem dc_188_7 : decode (ax_code 188) 7 = .ok (.aload_n 0, 1) := by decide +kernel
theorem dc_188_8 : decode (ax_code 188) 8 = .ok (.iload_n 2, 1) := by decide +kernel
theorem dc_188_9 : decode (ax_code 188) 9 = .ok (.invokevirtual 181, 3) := by decide +kernel
theorem dc_188_12 : decode (ax_code 188) 12 = .ok (.ifCond .eq 25, 3) := by decide +kernel
theorem dc_188_15 : decode (ax_code 188) 15 = .ok (.iload 4, 2) := by decide +kernel
theorem dc_188_17 : decode (ax_code 188) 17 = .ok (.i2l, 1) := by decide +kernel
theorem dc_188_18 : decode (ax_code 188) 18 = .ok (.lconst 0, 1) := by decide +kernel
theorem dc_188_19 : decode (ax_code 188) 19 = .ok (.iload_n 2, 1) := by decide +kernel
theorem dc_188_20 : decode (ax_code 188) 20 = .ok (.iconst 1, 1) := by decide +kernel
theorem dc_188_21 : decode (ax_code 188) 21 = .ok (.isub, 1) := by decide +kernel
theorem dc_188_22 : decode (ax_code 188) 22 = .ok (.i2l, 1) := by decide +kernel
theorem dc_188_23 : decode (ax_code 188) 23 = .ok (.invokestatic 123, 3) := by decide +kernel
theorem dc_188_26 : decode (ax_code 188) 26 = .ok (.ifCond .eq 11, 3) := by decide +kernel
theorem dc_188_29 : decode (ax_code 188) 29 = .ok (.iload 6, 2) := by decide +kernel
theorem dc_188_31 : decode (ax_code 188) 31 = .ok (.invokestatic 200, 3) := by decide +kernel
theorem dc_188_34 : decode (ax_code 188) 34 = .ok (.ifCond .ne 9, 3) := by decide +kernel
theorem dc_188_37 : decode (ax_code 188) 37 = .ok (.bipush (-2), 2) := by decide +kernel
theorem dc_188_39 : decode (ax_code 188) 39 = .ok (.invokestatic 203, 3) := by decide +kernel
theorem dc_188_42 : decode (ax_code 188) 42 = .ok (.lreturn, 1) := by decide +kernel
theorem dc_188_43 : decode (ax_code 188) 43 = .ok (.lconst 0, 1) := by decide +kernel
theorem dc_188_44 : decode (ax_code 188) 44 = .ok (.lstore 7, 2) := by decide +kernel
theorem dc_188_46 : decode (ax_code 188) 46 = .ok (.lconst 0, 1) := by decide +kernel
theorem dc_188_47 : decode (ax_code 188) 47 = .ok (.lstore 9, 2) := by decide +kernel
theorem dc_188_49 : decode (ax_code 188) 49 = .ok (.aload_n 0, 1) := by decide +kernel
theorem dc_188_50 : decode (ax_code 188) 50 = .ok (.iload_n 2, 1) := by decide +kernel
theorem dc_188_51 : decode (ax_code 188) 51 = .ok (.invokevirtual 187, 3) := by decide +kernel
theorem dc_188_54 : decode (ax_code 188) 54 = .ok (.istore 11, 2) := by decide +kernel
theorem dc_188_56 : decode (ax_code 188) 56 = .ok (.iconst 0, 1) := by decide +kernel
theorem dc_188_57 : decode (ax_code 188) 57 = .ok (.istore 12, 2) := by decide +kernel
theorem dc_188_59 : decode (ax_code 188) 59 = .ok (.iload 12, 2) := by decide +kernel
theorem dc_188_61 : decode (ax_code 188) 61 = .ok (.iload 11, 2) := by decide +kernel
theorem dc_188_63 : decode (ax_code 188) 63 = .ok (.if_icmp .ge 63, 3) := by decide +kernel
theorem dc_188_66 : decode (ax_code 188) 66 = .ok (.aload_n 0, 1) := by decide +kernel
theorem dc_188_67 : decode (ax_code 188) 67 = .ok (.iload 12, 2) := by decide +kernel
theorem dc_188_69 : decode (ax_code 188) 69 = .ok (.iload_n 2, 1) := by decide +kernel
theorem dc_188_70 : decode (ax_code 188) 70 = .ok (.invokevirtual 193, 3) := by decide +kernel
theorem dc_188_73 : decode (ax_code 188) 73 = .ok (.aload_n 0, 1) := by decide +kernel
theorem dc_188_74 : decode (ax_code 188) 74 = .ok (.iload_n 1, 1) := by decide +kernel
theorem dc_188_75 : decode (ax_code 188) 75 = .ok (.iload_n 2, 1) := by decide +kernel
theorem dc_188_76 : decode (ax_code 188) 76 = .ok (.invokevirtual 211, 3) := by decide +kernel
theorem dc_188_79 : decode (ax_code 188) 79 = .ok (.iload_n 3, 1) := by decide +kernel
theorem dc_188_80 : decode (ax_code 188) 80 = .ok (.if_icmp .ne 40, 3) := by decide +kernel
theorem dc_188_83 : decode (ax_code 188) 83 = .ok (.aload_n 0, 1) := by decide +kernel
theorem dc_188_84 : decode (ax_code 188) 84 = .ok (.iload_n 2, 1) := by decide +kernel
theorem dc_188_85 : decode (ax_code 188) 85 = .ok (.iconst (-1), 1) := by decide +kernel
theorem dc_188_86 : decode (ax_code 188) 86 = .ok (.invokevirtual 224, 3) := by decide +kernel
theorem dc_188_89 : decode (ax_code 188) 89 = .ok (.ifCond .eq 31, 3) := by decide +kernel
theorem dc_188_92 : decode (ax_code 188) 92 = .ok (.lload 7, 2) := by decide +kernel
theorem dc_188_94 : decode (ax_code 188) 94 = .ok (.lconst 1, 1) := by decide +kernel
theorem dc_188_95 : decode (ax_code 188) 95 = .ok (.ladd, 1) := by decide +kernel
theorem dc_188_96 : decode (ax_code 188) 96 = .ok (.lstore 7, 2) := by decide +kernel
theorem dc_188_98 : decode (ax_code 188) 98 = .ok (.lload 9, 2) := by decide +kernel
theorem dc_188_100 : decode (ax_code 188) 100 = .ok (.aload_n 0, 1) := by decide +kernel
theorem dc_188_101 : decode (ax_code 188) 101 = .ok (.getfield 36, 3) := by decide +kernel
theorem dc_188_104 : decode (ax_code 188) 104 = .ok (.iload 4, 2) := by decide +kernel
theorem dc_188_106 : decode (ax_code 188) 106 = .ok (.iaload, 1) := by decide +kernel
theorem dc_188_107 : decode (ax_code 188) 107 = .ok (.iload 5, 2) := by decide +kernel
theorem dc_188_109 : decode (ax_code 188) 109 = .ok (.if_icmp .ne 7, 3) := by decide +kernel
theorem dc_188_112 : decode (ax_code 188) 112 = .ok (.lconst 1, 1) := by decide +kernel
theorem dc_188_113 : decode (ax_code 188) 113 = .ok (.goto 4, 3) := by decide +kernel
theorem dc_188_116 : decode (ax_code 188) 116 = .ok (.lconst 0, 1) := by decide +kernel
theorem dc_188_117 : decode (ax_code 188) 117 = .ok (.ladd, 1) := by decide +kernel
theorem dc_188_118 : decode (ax_code 188) 118 = .ok (.lstore 9, 2) := by decide +kernel
theorem dc_188_120 : decode (ax_code 188) 120 = .ok (.iinc 12 1, 3) := by decide +kernel
theorem dc_188_123 : decode (ax_code 188) 123 = .ok (.goto (-64), 3) := by decide +kernel
theorem dc_188_126 : decode (ax_code 188) 126 = .ok (.lload 7, 2) := by decide +kernel
theorem dc_188_128 : decode (ax_code 188) 128 = .ok (.lconst 0, 1) := by decide +kernel
theorem dc_188_129 : decode (ax_code 188) 129 = .ok (.lcmp, 1) := by decide +kernel
theorem dc_188_130 : decode (ax_code 188) 130 = .ok (.ifCond .ne 8, 3) := by decide +kernel
theorem dc_188_133 : decode (ax_code 188) 133 = .ok (.iconst (-1), 1) := by decide +kernel
theorem dc_188_134 : decode (ax_code 188) 134 = .ok (.invokestatic 203, 3) := by decide +kernel
theorem dc_188_137 : decode (ax_code 188) 137 = .ok (.lreturn, 1) := by decide +kernel
theorem dc_188_138 : decode (ax_code 188) 138 = .ok (.iload 6, 2) := by decide +kernel
theorem dc_188_140 : decode (ax_code 188) 140 = .ok (.ifCond .ne 8, 3) := by decide +kernel
theorem dc_188_143 : decode (ax_code 188) 143 = .ok (.lload 9, 2) := by decide +kernel
theorem dc_188_145 : decode (ax_code 188) 145 = .ok (.goto 5, 3) := by decide +kernel
theorem dc_188_148 : decode (ax_code 188) 148 = .ok (.lload 7, 2) := by decide +kernel
theorem dc_188_150 : decode (ax_code 188) 150 = .ok (.lload 9, 2) := by decide +kernel
theorem dc_188_152 : decode (ax_code 188) 152 = .ok (.lload 7, 2) := by decide +kernel
theorem dc_188_154 : decode (ax_code 188) 154 = .ok (.invokestatic 228, 3) := by decide +kernel
theorem dc_188_157 : decode (ax_code 188) 157 = .ok (.ldiv, 1) := by decide +kernel
theorem dc_188_158 : decode (ax_code 188) 158 = .ok (.lreturn, 1) := by decide +kernel
theorem dc_189_0 : decode (ax_code 189) 0 = .ok (.iconst 1, 1) := by decide +kernel
theorem dc_189_1 : decode (ax_code 189) 1 = .ok (.istore_n 3, 1) := by decide +kernel
theorem dc_189_2 : decode (ax_code 189) 2 = .ok (.iconst 0, 1) := by decide +kernel
theorem dc_189_3 : decode (ax_code 189) 3 = .ok (.istore 4, 2) := by decide +kernel
theorem dc_189_5 : decode (ax_code 189) 5 = .ok (.iload 4, 2) := by decide +kernel
theorem dc_189_7 : decode (ax_code 189) 7 = .ok (.iload_n 1, 1) := by decide +kernel
theorem dc_189_8 : decode (ax_code 189) 8 = .ok (.if_icmp .ge 79, 3) := by decide +kernel
theorem dc_189_11 : decode (ax_code 189) 11 = .ok (.iload_n 3, 1) := by decide +kernel
theorem dc_189_12 : decode (ax_code 189) 12 = .ok (.ifCond .eq 75, 3) := by decide +kernel
theorem dc_189_15 : decode (ax_code 189) 15 = .ok (.aload_n 0, 1) := by decide +kernel
theorem dc_189_16 : decode (ax_code 189) 16 = .ok (.getfield 17, 3) := by decide +kernel
theorem dc_189_19 : decode (ax_code 189) 19 = .ok (.iload 4, 2) := by decide +kernel
theorem dc_189_21 : decode (ax_code 189) 21 = .ok (.iaload, 1) := by decide +kernel
theorem dc_189_22 : decode (ax_code 189) 22 = .ok (.invokestatic 130, 3) := by decide +kernel
theorem dc_189_25 : decode (ax_code 189) 25 = .ok (.ifCond .eq 50, 3) := by decide +kernel
theorem dc_189_28 : decode (ax_code 189) 28 = .ok (.aload_n 0, 1) := by decide +kernel
theorem dc_189_29 : decode (ax_code 189) 29 = .ok (.getfield 20, 3) := by decide +kernel
theorem dc_189_32 : decode (ax_code 189) 32 = .ok (.iload 4, 2) := by decide +kernel
theorem dc_189_34 : decode (ax_code 189) 34 = .ok (.iaload, 1) := by decide +kernel
theorem dc_189_35 : decode (ax_code 189) 35 = .ok (.iload_n 2, 1) := by decide +kernel
theorem dc_189_36 : decode (ax_code 189) 36 = .ok (.if_icmp .eq 39, 3) := by decide +kernel
theorem dc_189_39 : decode (ax_code 189) 39 = .ok (.aload_n 0, 1) := by decide +kernel
theorem dc_189_40 : decode (ax_code 189) 40 = .ok (.getfield 36, 3) := by decide +kernel
theorem dc_189_43 : decode (ax_code 189) 43 = .ok (.iload 4, 2) := by decide +kernel
theorem dc_189_45 : decode (ax_code 189) 45 = .ok (.iaload, 1) := by decide +kernel
theorem dc_189_46 : decode (ax_code 189) 46 = .ok (.aload_n 0, 1) := by decide +kernel
theorem dc_189_47 : decode (ax_code 189) 47 = .ok (.aload_n 0, 1) := by decide +kernel
theorem dc_189_48 : decode (ax_code 189) 48 = .ok (.getfield 20, 3) := by decide +kernel
theorem dc_189_51 : decode (ax_code 189) 51 = .ok (.iload 4, 2) := by decide +kernel
theorem dc_189_53 : decode (ax_code 189) 53 = .ok (.iaload, 1) := by decide +kernel
theorem dc_189_54 : decode (ax_code 189) 54 = .ok (.iload 4, 2) := by decide +kernel
theorem dc_189_56 : decode (ax_code 189) 56 = .ok (.aload_n 0, 1) := by decide +kernel
theorem dc_189_57 : decode (ax_code 189) 57 = .ok (.aload_n 0, 1) := by decide +kernel
theorem dc_189_58 : decode (ax_code 189) 58 = .ok (.getfield 20, 3) := by decide +kernel
theorem dc_189_61 : decode (ax_code 189) 61 = .ok (.iload 4, 2) := by decide +kernel
theorem dc_189_63 : decode (ax_code 189) 63 = .ok (.iaload, 1) := by decide +kernel
theorem dc_189_64 : decode (ax_code 189) 64 = .ok (.iload 4, 2) := by decide +kernel
theorem dc_189_66 : decode (ax_code 189) 66 = .ok (.invokevirtual 211, 3) := by decide +kernel
theorem dc_189_69 : decode (ax_code 189) 69 = .ok (.invokevirtual 221, 3) := by decide +kernel
theorem dc_189_72 : decode (ax_code 189) 72 = .ok (.if_icmp .ne 7, 3) := by decide +kernel
theorem dc_189_75 : decode (ax_code 189) 75 = .ok (.iconst 1, 1) := by decide +kernel
theorem dc_189_76 : decode (ax_code 189) 76 = .ok (.goto 4, 3) := by decide +kernel
theorem dc_189_79 : decode (ax_code 189) 79 = .ok (.iconst 0, 1) := by decide +kernel
theorem dc_189_80 : decode (ax_code 189) 80 = .ok (.istore_n 3, 1) := by decide +kernel
theorem dc_189_81 : decode (ax_code 189) 81 = .ok (.iinc 4 1, 3) := by decide +kernel
theorem dc_189_84 : decode (ax_code 189) 84 = .ok (.goto (-79), 3) := by decide +kernel
theorem dc_189_87 : decode (ax_code 189) 87 = .ok (.iload_n 3, 1) := by decide +kernel
theorem dc_189_88 : decode (ax_code 189) 88 = .ok (.ireturn, 1) := by decide +kernel
theorem dc_190_0 : decode (ax_code 190) 0 = .ok (.aload_n 0, 1) := by decide +kernel
theorem dc_190_1 : decode (ax_code 190) 1 = .ok (.iload_n 1, 1) := by decide +kernel
theorem dc_190_2 : decode (ax_code 190) 2 = .ok (.iload_n 2, 1) := by decide +kernel
theorem dc_190_3 : decode (ax_code 190) 3 = .ok (.iload_n 3, 1) := by decide +kernel
theorem dc_190_4 : decode (ax_code 190) 4 = .ok (.invokevirtual 218, 3) := by decide +kernel
theorem dc_190_7 : decode (ax_code 190) 7 = .ok (.istore 4, 2) := by decide +kernel
theorem dc_190_9 : decode (ax_code 190) 9 = .ok (.iload 4, 2) := by decide +kernel
theorem dc_190_11 : decode (ax_code 190) 11 = .ok (.iconst (-1), 1) := by decide +kernel
theorem dc_190_12 : decode (ax_code 190) 12 = .ok (.if_icmp .eq 23, 3) := by decide +kernel
theorem dc_190_15 : decode (ax_code 190) 15 = .ok (.aload_n 0, 1) := by decide +kernel
theorem dc_190_16 : decode (ax_code 190) 16 = .ok (.getfield 26, 3) := by decide +kernel
theorem dc_190_19 : decode (ax_code 190) 19 = .ok (.iconst 4, 1) := by decide +kernel
theorem dc_190_20 : decode (ax_code 190) 20 = .ok (.iload 4, 2) := by decide +kernel
theorem dc_190_22 : decode (ax_code 190) 22 = .ok (.imul, 1) := by decide +kernel
theorem dc_190_23 : decode (ax_code 190) 23 = .ok (.iconst 3, 1) := by decide +kernel
theorem dc_190_24 : decode (ax_code 190) 24 = .ok (.iadd, 1) := by decide +kernel
theorem dc_190_25 : decode (ax_code 190) 25 = .ok (.iaload, 1) := by decide +kernel
theorem dc_190_26 : decode (ax_code 190) 26 = .ok (.aload_n 0, 1) := by decide +kernel
theorem dc_190_27 : decode (ax_code 190) 27 = .ok (.getfield 23, 3) := by decide +kernel
theorem dc_190_30 : decode (ax_code 190) 30 = .ok (.iload_n 2, 1) := by decide +kernel
theorem dc_190_31 : decode (ax_code 190) 31 = .ok (.iaload, 1) := by decide +kernel
theorem dc_190_32 : decode (ax_code 190) 32 = .ok (.if_icmp .lt 7, 3) := by decide +kernel
theorem dc_190_35 : decode (ax_code 190) 35 = .ok (.iconst 0, 1) := by decide +kernel
theorem dc_190_36 : decode (ax_code 190) 36 = .ok (.goto 14, 3) := by decide +kernel
theorem dc_190_39 : decode (ax_code 190) 39 = .ok (.aload_n 0, 1) := by decide +kernel
theorem dc_190_40 : decode (ax_code 190) 40 = .ok (.getfield 26, 3) := by decide +kernel
theorem dc_190_43 : decode (ax_code 190) 43 = .ok (.iconst 4, 1) := by decide +kernel
theorem dc_190_44 : decode (ax_code 190) 44 = .ok (.iload 4, 2) := by decide +kernel
theorem dc_190_46 : decode (ax_code 190) 46 = .ok (.imul, 1) := by decide +kernel
theorem dc_190_47 : decode (ax_code 190) 47 = .ok (.iconst 3, 1) := by decide +kernel
theorem dc_190_48 : decode (ax_code 190) 48 = .ok (.iadd, 1) := by decide +kernel
theorem dc_190_49 : decode (ax_code 190) 49 = .ok (.iaload, 1) := by decide +kernel
theorem dc_190_50 : decode (ax_code 190) 50 = .ok (.ireturn, 1) := by decide +kernel
theorem dc_191_0 : decode (ax_code 191) 0 = .ok (.iconst 0, 1) := by decide +kernel
theorem dc_191_1 : decode (ax_code 191) 1 = .ok (.istore 4, 2) := by decide +kernel
theorem dc_191_3 : decode (ax_code 191) 3 = .ok (.iload 4, 2) := by decide +kernel
theorem dc_191_5 : decode (ax_code 191) 5 = .ok (.aload_n 0, 1) := by decide +kernel
theorem dc_191_6 : decode (ax_code 191) 6 = .ok (.getfield 136, 3) := by decide +kernel
theorem dc_191_9 : decode (ax_code 191) 9 = .ok (.if_icmp .ge 55, 3) := by decide +kernel
theorem dc_191_12 : decode (ax_code 191) 12 = .ok (.aload_n 0, 1) := by decide +kernel
theorem dc_191_13 : decode (ax_code 191) 13 = .ok (.getfield 26, 3) := by decide +kernel
theorem dc_191_16 : decode (ax_code 191) 16 = .ok (.iconst 4, 1) := by decide +kernel
theorem dc_191_17 : decode (ax_code 191) 17 = .ok (.iload 4, 2) := by decide +kernel
theorem dc_191_19 : decode (ax_code 191) 19 = .ok (.imul, 1) := by decide +kernel
theorem dc_191_20 : decode (ax_code 191) 20 = .ok (.iaload, 1) := by decide +kernel
theorem dc_191_21 : decode (ax_code 191) 21 = .ok (.iload_n 1, 1) := by decide +kernel
theorem dc_191_22 : decode (ax_code 191) 22 = .ok (.if_icmp .ne 36, 3) := by decide +kernel
theorem dc_191_25 : decode (ax_code 191) 25 = .ok (.aload_n 0, 1) := by decide +kernel
theorem dc_191_26 : decode (ax_code 191) 26 = .ok (.getfield 26, 3) := by decide +kernel
theorem dc_191_29 : decode (ax_code 191) 29 = .ok (.iconst 4, 1) := by decide +kernel
theorem dc_191_30 : decode (ax_code 191) 30 = .ok (.iload 4, 2) := by decide +kernel
theorem dc_191_32 : decode (ax_code 191) 32 = .ok (.imul, 1) := by decide +kernel
theorem dc_191_33 : decode (ax_code 191) 33 = .ok (.iconst 1, 1) := by decide +kernel
theorem dc_191_34 : decode (ax_code 191) 34 = .ok (.iadd, 1) := by decide +kernel
theorem dc_191_35 : decode (ax_code 191) 35 = .ok (.iaload, 1) := by decide +kernel
theorem dc_191_36 : decode (ax_code 191) 36 = .ok (.iload_n 2, 1) := by decide +kernel
theorem dc_191_37 : decode (ax_code 191) 37 = .ok (.if_icmp .ne 21, 3) := by decide +kernel
theorem dc_191_40 : decode (ax_code 191) 40 = .ok (.aload_n 0, 1) := by decide +kernel
theorem dc_191_41 : decode (ax_code 191) 41 = .ok (.getfield 26, 3) := by decide +kernel
theorem dc_191_44 : decode (ax_code 191) 44 = .ok (.iconst 4, 1) := by decide +kernel
theorem dc_191_45 : decode (ax_code 191) 45 = .ok (.iload 4, 2) := by decide +kernel
theorem dc_191_47 : decode (ax_code 191) 47 = .ok (.imul, 1) := by decide +kernel
theorem dc_191_48 : decode (ax_code 191) 48 = .ok (.iconst 2, 1) := by decide +kernel
theorem dc_191_49 : decode (ax_code 191) 49 = .ok (.iadd, 1) := by decide +kernel
theorem dc_191_50 : decode (ax_code 191) 50 = .ok (.iaload, 1) := by decide +kernel
theorem dc_191_51 : decode (ax_code 191) 51 = .ok (.iload_n 3, 1) := by decide +kernel
theorem dc_191_52 : decode (ax_code 191) 52 = .ok (.if_icmp .ne 6, 3) := by decide +kernel
theorem dc_191_55 : decode (ax_code 191) 55 = .ok (.iload 4, 2) := by decide +kernel
theorem dc_191_57 : decode (ax_code 191) 57 = .ok (.ireturn, 1) := by decide +kernel
theorem dc_191_58 : decode (ax_code 191) 58 = .ok (.iinc 4 1, 3) := by decide +kernel
theorem dc_191_61 : decode (ax_code 191) 61 = .ok (.goto (-58), 3) := by decide +kernel
theorem dc_191_64 : decode (ax_code 191) 64 = .ok (.iconst (-1), 1) := by decide +kernel
theorem dc_191_65 : decode (ax_code 191) 65 = .ok (.ireturn, 1) := by decide +kernel
theorem dc_192_0 : decode (ax_code 192) 0 = .ok (.lload_n 0, 1) := by decide +kernel
theorem dc_192_1 : decode (ax_code 192) 1 = .ok (.lconst 0, 1) := by decide +kernel
theorem dc_192_2 : decode (ax_code 192) 2 = .ok (.lcmp, 1) := by decide +kernel
theorem dc_192_3 : decode (ax_code 192) 3 = .ok (.ifCond .ge 8, 3) := by decide +kernel
theorem dc_192_6 : decode (ax_code 192) 6 = .ok (.lload_n 0, 1) := by decide +kernel
theorem dc_192_7 : decode (ax_code 192) 7 = .ok (.lneg, 1) := by decide +kernel
theorem dc_192_8 : decode (ax_code 192) 8 = .ok (.goto 4, 3) := by decide +kernel
theorem dc_192_11 : decode (ax_code 192) 11 = .ok (.lload_n 0, 1) := by decide +kernel
theorem dc_192_12 : decode (ax_code 192) 12 = .ok (.lstore 4, 2) := by decide +kernel
theorem dc_192_14 : decode (ax_code 192) 14 = .ok (.lload_n 2, 1) := by decide +kernel
theorem dc_192_15 : decode (ax_code 192) 15 = .ok (.lstore 6, 2) := by decide +kernel
theorem dc_192_17 : decode (ax_code 192) 17 = .ok (.lload 6, 2) := by decide +kernel
theorem dc_192_19 : decode (ax_code 192) 19 = .ok (.lconst 0, 1) := by decide +kernel
theorem dc_192_20 : decode (ax_code 192) 20 = .ok (.lcmp, 1) := by decide +kernel
theorem dc_192_21 : decode (ax_code 192) 21 = .ok (.ifCond .eq 21, 3) := by decide +kernel
theorem dc_192_24 : decode (ax_code 192) 24 = .ok (.lload 4, 2) := by decide +kernel
theorem dc_192_26 : decode (ax_code 192) 26 = .ok (.lload 6, 2) := by decide +kernel
theorem dc_192_28 : decode (ax_code 192) 28 = .ok (.lrem, 1) := by decide +kernel
theorem dc_192_29 : decode (ax_code 192) 29 = .ok (.lstore 8, 2) := by decide +kernel
theorem dc_192_31 : decode (ax_code 192) 31 = .ok (.lload 6, 2) := by decide +kernel
theorem dc_192_33 : decode (ax_code 192) 33 = .ok (.lstore 4, 2) := by decide +kernel
theorem dc_192_35 : decode (ax_code 192) 35 = .ok (.lload 8, 2) := by decide +kernel
theorem dc_192_37 : decode (ax_code 192) 37 = .ok (.lstore 6, 2) := by decide +kernel
theorem dc_192_39 : decode (ax_code 192) 39 = .ok (.goto (-22), 3) := by decide +kernel
theorem dc_192_42 : decode (ax_code 192) 42 = .ok (.lload 4, 2) := by decide +kernel
theorem dc_192_44 : decode (ax_code 192) 44 = .ok (.lreturn, 1) := by decide +kernel
theorem dc_193_0 : decode (ax_code 193) 0 = .ok (.iload_n 1, 1) := by decide +kernel
theorem dc_193_1 : decode (ax_code 193) 1 = .ok (.invokestatic 149, 3) := by decide +kernel
theorem dc_193_4 : decode (ax_code 193) 4 = .ok (.ifCond .ne 6, 3) := by decide +kernel
theorem dc_193_7 : decode (ax_code 193) 7 = .ok (.bipush (-2), 2) := by decide +kernel
theorem dc_193_9 : decode (ax_code 193) 9 = .ok (.ireturn, 1) := by decide +kernel
theorem dc_193_10 : decode (ax_code 193) 10 = .ok (.aload_n 0, 1) := by decide +kernel
theorem dc_193_11 : decode (ax_code 193) 11 = .ok (.iload_n 1, 1) := by decide +kernel
theorem dc_193_12 : decode (ax_code 193) 12 = .ok (.invokevirtual 238, 3) := by decide +kernel
theorem dc_193_15 : decode (ax_code 193) 15 = .ok (.aload_n 0, 1) := by decide +kernel
theorem dc_193_16 : decode (ax_code 193) 16 = .ok (.getfield 232, 3) := by decide +kernel
theorem dc_193_19 : decode (ax_code 193) 19 = .ok (.ireturn, 1) := by decide +kernel
theorem dc_194_0 : decode (ax_code 194) 0 = .ok (.aload_n 0, 1) := by decide +kernel
theorem dc_194_1 : decode (ax_code 194) 1 = .ok (.iconst 0, 1) := by decide +kernel
theorem dc_194_2 : decode (ax_code 194) 2 = .ok (.putfield 232, 3) := by decide +kernel
theorem dc_194_5 : decode (ax_code 194) 5 = .ok (.iconst 0, 1) := by decide +kernel
theorem dc_194_6 : decode (ax_code 194) 6 = .ok (.istore_n 2, 1) := by decide +kernel
theorem dc_194_7 : decode (ax_code 194) 7 = .ok (.iload_n 2, 1) := by decide +kernel
theorem dc_194_8 : decode (ax_code 194) 8 = .ok (.aload_n 0, 1) := by decide +kernel
theorem dc_194_9 : decode (ax_code 194) 9 = .ok (.getfield 127, 3) := by decide +kernel
theorem dc_194_12 : decode (ax_code 194) 12 = .ok (.if_icmp .ge 37, 3) := by decide +kernel
theorem dc_194_15 : decode (ax_code 194) 15 = .ok (.aload_n 0, 1) := by decide +kernel
theorem dc_194_16 : decode (ax_code 194) 16 = .ok (.getfield 17, 3) := by decide +kernel
theorem dc_194_19 : decode (ax_code 194) 19 = .ok (.iload_n 2, 1) := by decide +kernel
theorem dc_194_20 : decode (ax_code 194) 20 = .ok (.iaload, 1) := by decide +kernel
theorem dc_194_21 : decode (ax_code 194) 21 = .ok (.invokestatic 130, 3) := by decide +kernel
theorem dc_194_24 : decode (ax_code 194) 24 = .ok (.ifCond .eq 19, 3) := by decide +kernel
theorem dc_194_27 : decode (ax_code 194) 27 = .ok (.aload_n 0, 1) := by decide +kernel
theorem dc_194_28 : decode (ax_code 194) 28 = .ok (.getfield 20, 3) := by decide +kernel
theorem dc_194_31 : decode (ax_code 194) 31 = .ok (.iload_n 2, 1) := by decide +kernel
theorem dc_194_32 : decode (ax_code 194) 32 = .ok (.iaload, 1) := by decide +kernel
theorem dc_194_33 : decode (ax_code 194) 33 = .ok (.iload_n 1, 1) := by decide +kernel
theorem dc_194_34 : decode (ax_code 194) 34 = .ok (.if_icmp .ne 9, 3) := by decide +kernel
theorem dc_194_37 : decode (ax_code 194) 37 = .ok (.aload_n 0, 1) := by decide +kernel
theorem dc_194_38 : decode (ax_code 194) 38 = .ok (.iload_n 1, 1) := by decide +kernel
theorem dc_194_39 : decode (ax_code 194) 39 = .ok (.iload_n 2, 1) := by decide +kernel
theorem dc_194_40 : decode (ax_code 194) 40 = .ok (.invokevirtual 235, 3) := by decide +kernel
theorem dc_194_43 : decode (ax_code 194) 43 = .ok (.iinc 2 1, 3) := by decide +kernel
theorem dc_194_46 : decode (ax_code 194) 46 = .ok (.goto (-39), 3) := by decide +kernel
theorem dc_194_49 : decode (ax_code 194) 49 = .ok (.return_, 1) := by decide +kernel
theorem dc_195_0 : decode (ax_code 195) 0 = .ok (.aload_n 0, 1) := by decide +kernel
theorem dc_195_1 : decode (ax_code 195) 1 = .ok (.getfield 232, 3) := by decide +kernel
theorem dc_195_4 : decode (ax_code 195) 4 = .ok (.istore_n 3, 1) := by decide +kernel
theorem dc_195_5 : decode (ax_code 195) 5 = .ok (.aload_n 0, 1) := by decide +kernel
theorem dc_195_6 : decode (ax_code 195) 6 = .ok (.iload_n 2, 1) := by decide +kernel
theorem dc_195_7 : decode (ax_code 195) 7 = .ok (.invokevirtual 187, 3) := by decide +kernel
theorem dc_195_10 : decode (ax_code 195) 10 = .ok (.istore 4, 2) := by decide +kernel
theorem dc_195_12 : decode (ax_code 195) 12 = .ok (.iconst 0, 1) := by decide +kernel
theorem dc_195_13 : decode (ax_code 195) 13 = .ok (.istore 5, 2) := by decide +kernel
theorem dc_195_15 : decode (ax_code 195) 15 = .ok (.iload 5, 2) := by decide +kernel
theorem dc_195_17 : decode (ax_code 195) 17 = .ok (.iload 4, 2) := by decide +kernel
theorem dc_195_19 : decode (ax_code 195) 19 = .ok (.if_icmp .ge 140, 3) := by decide +kernel
theorem dc_195_22 : decode (ax_code 195) 22 = .ok (.aload_n 0, 1) := by decide +kernel
theorem dc_195_23 : decode (ax_code 195) 23 = .ok (.iload 5, 2) := by decide +kernel
theorem dc_195_25 : decode (ax_code 195) 25 = .ok (.iload_n 2, 1) := by decide +kernel
theorem dc_195_26 : decode (ax_code 195) 26 = .ok (.invokevirtual 193, 3) := by decide +kernel
theorem dc_195_29 : decode (ax_code 195) 29 = .ok (.aload_n 0, 1) := by decide +kernel
theorem dc_195_30 : decode (ax_code 195) 30 = .ok (.iload_n 1, 1) := by decide +kernel
theorem dc_195_31 : decode (ax_code 195) 31 = .ok (.iload_n 2, 1) := by decide +kernel
theorem dc_195_32 : decode (ax_code 195) 32 = .ok (.invokevirtual 211, 3) := by decide +kernel
theorem dc_195_35 : decode (ax_code 195) 35 = .ok (.istore 6, 2) := by decide +kernel
theorem dc_195_37 : decode (ax_code 195) 37 = .ok (.aload_n 0, 1) := by decide +kernel
theorem dc_195_38 : decode (ax_code 195) 38 = .ok (.getfield 232, 3) := by decide +kernel
theorem dc_195_41 : decode (ax_code 195) 41 = .ok (.istore 7, 2) := by decide +kernel
theorem dc_195_43 : decode (ax_code 195) 43 = .ok (.iload 7, 2) := by decide +kernel
theorem dc_195_45 : decode (ax_code 195) 45 = .ok (.iload_n 3, 1) := by decide +kernel
theorem dc_195_46 : decode (ax_code 195) 46 = .ok (.if_icmp .le 23, 3) := by decide +kernel
theorem dc_195_49 : decode (ax_code 195) 49 = .ok (.aload_n 0, 1) := by decide +kernel
theorem dc_195_50 : decode (ax_code 195) 50 = .ok (.getfield 42, 3) := by decide +kernel
theorem dc_195_53 : decode (ax_code 195) 53 = .ok (.iload 7, 2) := by decide +kernel
theorem dc_195_55 : decode (ax_code 195) 55 = .ok (.iconst 1, 1) := by decide +kernel
theorem dc_195_56 : decode (ax_code 195) 56 = .ok (.isub, 1) := by decide +kernel
theorem dc_195_57 : decode (ax_code 195) 57 = .ok (.iaload, 1) := by decide +kernel
theorem dc_195_58 : decode (ax_code 195) 58 = .ok (.iload 6, 2) := by decide +kernel
theorem dc_195_60 : decode (ax_code 195) 60 = .ok (.if_icmp .le 9, 3) := by decide +kernel
theorem dc_195_63 : decode (ax_code 195) 63 = .ok (.iinc 7 (-1), 3) := by decide +kernel
theorem dc_195_66 : decode (ax_code 195) 66 = .ok (.goto (-23), 3) := by decide +kernel
theorem dc_195_69 : decode (ax_code 195) 69 = .ok (.iload 7, 2) := by decide +kernel
theorem dc_195_71 : decode (ax_code 195) 71 = .ok (.iload_n 3, 1) := by decide +kernel
theorem dc_195_72 : decode (ax_code 195) 72 = .ok (.if_icmp .eq 17, 3) := by decide +kernel
theorem dc_195_75 : decode (ax_code 195) 75 = .ok (.aload_n 0, 1) := by decide +kernel
theorem dc_195_76 : decode (ax_code 195) 76 = .ok (.getfield 42, 3) := by decide +kernel
theorem dc_195_79 : decode (ax_code 195) 79 = .ok (.iload 7, 2) := by decide +kernel
theorem dc_195_81 : decode (ax_code 195) 81 = .ok (.iconst 1, 1) := by decide +kernel
theorem dc_195_82 : decode (ax_code 195) 82 = .ok (.isub, 1) := by decide +kernel
theorem dc_195_83 : decode (ax_code 195) 83 = .ok (.iaload, 1) := by decide +kernel
theorem dc_195_84 : decode (ax_code 195) 84 = .ok (.iload 6, 2) := by decide +kernel
theorem dc_195_86 : decode (ax_code 195) 86 = .ok (.if_icmp .eq 67, 3) := by decide +kernel
theorem dc_195_89 : decode (ax_code 195) 89 = .ok (.aload_n 0, 1) := by decide +kernel
theorem dc_195_90 : decode (ax_code 195) 90 = .ok (.getfield 232, 3) := by decide +kernel
theorem dc_195_93 : decode (ax_code 195) 93 = .ok (.istore 8, 2) := by decide +kernel
theorem dc_195_95 : decode (ax_code 195) 95 = .ok (.iload 8, 2) := by decide +kernel
theorem dc_195_97 : decode (ax_code 195) 97 = .ok (.iload 7, 2) := by decide +kernel
theorem dc_195_99 : decode (ax_code 195) 99 = .ok (.if_icmp .le 25, 3) := by decide +kernel
theorem dc_195_102 : decode (ax_code 195) 102 = .ok (.aload_n 0, 1) := by decide +kernel
theorem dc_195_103 : decode (ax_code 195) 103 = .ok (.getfield 42, 3) := by decide +kernel
theorem dc_195_106 : decode (ax_code 195) 106 = .ok (.iload 8, 2) := by decide +kernel
theorem dc_195_108 : decode (ax_code 195) 108 = .ok (.aload_n 0, 1) := by decide +kernel
theorem dc_195_109 : decode (ax_code 195) 109 = .ok (.getfield 42, 3) := by decide +kernel
theorem dc_195_112 : decode (ax_code 195) 112 = .ok (.iload 8, 2) := by decide +kernel
theorem dc_195_114 : decode (ax_code 195) 114 = .ok (.iconst 1, 1) := by decide +kernel
theorem dc_195_115 : decode (ax_code 195) 115 = .ok (.isub, 1) := by decide +kernel
theorem dc_195_116 : decode (ax_code 195) 116 = .ok (.iaload, 1) := by decide +kernel
theorem dc_195_117 : decode (ax_code 195) 117 = .ok (.iastore, 1) := by decide +kernel
theorem dc_195_118 : decode (ax_code 195) 118 = .ok (.iinc 8 (-1), 3) := by decide +kernel
theorem dc_195_121 : decode (ax_code 195) 121 = .ok (.goto (-26), 3) := by decide +kernel
theorem dc_195_124 : decode (ax_code 195) 124 = .ok (.aload_n 0, 1) := by decide +kernel
theorem dc_195_125 : decode (ax_code 195) 125 = .ok (.getfield 42, 3) := by decide +kernel
theorem dc_195_128 : decode (ax_code 195) 128 = .ok (.iload 7, 2) := by decide +kernel
theorem dc_195_130 : decode (ax_code 195) 130 = .ok (.iload 6, 2) := by decide +kernel
theorem dc_195_132 : decode (ax_code 195) 132 = .ok (.iastore, 1) := by decide +kernel
theorem dc_195_133 : decode (ax_code 195) 133 = .ok (.aload_n 0, 1) := by decide +kernel
theorem dc_195_134 : decode (ax_code 195) 134 = .ok (.getfield 39, 3) := by decide +kernel
theorem dc_195_137 : decode (ax_code 195) 137 = .ok (.aload_n 0, 1) := by decide +kernel
theorem dc_195_138 : decode (ax_code 195) 138 = .ok (.getfield 232, 3) := by decide +kernel
theorem dc_195_141 : decode (ax_code 195) 141 = .ok (.iload_n 2, 1) := by decide +kernel
theorem dc_195_142 : decode (ax_code 195) 142 = .ok (.iastore, 1) := by decide +kernel
theorem dc_195_143 : decode (ax_code 195) 143 = .ok (.aload_n 0, 1) := by decide +kernel
theorem dc_195_144 : decode (ax_code 195) 144 = .ok (.dup, 1) := by decide +kernel
theorem dc_195_145 : decode (ax_code 195) 145 = .ok (.getfield 232, 3) := by decide +kernel
theorem dc_195_148 : decode (ax_code 195) 148 = .ok (.iconst 1, 1) := by decide +kernel
theorem dc_195_149 : decode (ax_code 195) 149 = .ok (.iadd, 1) := by decide +kernel
theorem dc_195_150 : decode (ax_code 195) 150 = .ok (.putfield 232, 3) := by decide +kernel
theorem dc_195_153 : decode (ax_code 195) 153 = .ok (.iinc 5 1, 3) := by decide +kernel
theorem dc_195_156 : decode (ax_code 195) 156 = .ok (.goto (-141), 3) := by decide +kernel
theorem dc_195_159 : decode (ax_code 195) 159 = .ok (.return_, 1) := by decide +kernel
theorem dc_196_0 : decode (ax_code 196) 0 = .ok (.iload_n 1, 1) := by decide +kernel
theorem dc_196_1 : decode (ax_code 196) 1 = .ok (.invokestatic 149, 3) := by decide +kernel
theorem dc_196_4 : decode (ax_code 196) 4 = .ok (.ifCond .eq 15, 3) := by decide +kernel
theorem dc_196_7 : decode (ax_code 196) 7 = .ok (.iload_n 3, 1) := by decide +kernel
theorem dc_196_8 : decode (ax_code 196) 8 = .ok (.i2l, 1) := by decide +kernel
theorem dc_196_9 : decode (ax_code 196) 9 = .ok (.lconst 0, 1) := by decide +kernel
theorem dc_196_10 : decode (ax_code 196) 10 = .ok (.ldc2_w 157, 3) := by decide +kernel
theorem dc_196_13 : decode (ax_code 196) 13 = .ok (.invokestatic 123, 3) := by decide +kernel
theorem dc_196_16 : decode (ax_code 196) 16 = .ok (.ifCond .ne 6, 3) := by decide +kernel
theorem dc_196_19 : decode (ax_code 196) 19 = .ok (.bipush (-2), 2) := by decide +kernel
theorem dc_196_21 : decode (ax_code 196) 21 = .ok (.ireturn, 1) := by decide +kernel
theorem dc_196_22 : decode (ax_code 196) 22 = .ok (.aload_n 0, 1) := by decide +kernel
theorem dc_196_23 : decode (ax_code 196) 23 = .ok (.iload_n 1, 1) := by decide +kernel
theorem dc_196_24 : decode (ax_code 196) 24 = .ok (.invokevirtual 238, 3) := by decide +kernel
theorem dc_196_27 : decode (ax_code 196) 27 = .ok (.iload_n 2, 1) := by decide +kernel
theorem dc_196_28 : decode (ax_code 196) 28 = .ok (.i2l, 1) := by decide +kernel
theorem dc_196_29 : decode (ax_code 196) 29 = .ok (.lconst 0, 1) := by decide +kernel
theorem dc_196_30 : decode (ax_code 196) 30 = .ok (.aload_n 0, 1) := by decide +kernel
theorem dc_196_31 : decode (ax_code 196) 31 = .ok (.getfield 232, 3) := by decide +kernel
theorem dc_196_34 : decode (ax_code 196) 34 = .ok (.iconst 1, 1) := by decide +kernel
theorem dc_196_35 : decode (ax_code 196) 35 = .ok (.isub, 1) := by decide +kernel
theorem dc_196_36 : decode (ax_code 196) 36 = .ok (.i2l, 1) := by decide +kernel
theorem dc_196_37 : decode (ax_code 196) 37 = .ok (.invokestatic 123, 3) := by decide +kernel
theorem dc_196_40 : decode (ax_code 196) 40 = .ok (.ifCond .ne 6, 3) := by decide +kernel
theorem dc_196_43 : decode (ax_code 196) 43 = .ok (.bipush (-12), 2) := by decide +kernel
theorem dc_196_45 : decode (ax_code 196) 45 = .ok (.ireturn, 1) := by decide +kernel
theorem dc_196_46 : decode (ax_code 196) 46 = .ok (.aload_n 0, 1) := by decide +kernel
theorem dc_196_47 : decode (ax_code 196) 47 = .ok (.getfield 39, 3) := by decide +kernel
theorem dc_196_50 : decode (ax_code 196) 50 = .ok (.iload_n 2, 1) := by decide +kernel
theorem dc_196_51 : decode (ax_code 196) 51 = .ok (.iaload, 1) := by decide +kernel
theorem dc_196_52 : decode (ax_code 196) 52 = .ok (.istore 4, 2) := by decide +kernel
theorem dc_196_54 : decode (ax_code 196) 54 = .ok (.aload_n 0, 1) := by decide +kernel
theorem dc_196_55 : decode (ax_code 196) 55 = .ok (.getfield 42, 3) := by decide +kernel
theorem dc_196_58 : decode (ax_code 196) 58 = .ok (.iload_n 2, 1) := by decide +kernel
theorem dc_196_59 : decode (ax_code 196) 59 = .ok (.iaload, 1) := by decide +kernel
theorem dc_196_60 : decode (ax_code 196) 60 = .ok (.istore 5, 2) := by decide +kernel
theorem dc_196_62 : decode (ax_code 196) 62 = .ok (.iload_n 3, 1) := by decide +kernel
theorem dc_196_63 : decode (ax_code 196) 63 = .ok (.ifCond .ne 8, 3) := by decide +kernel
theorem dc_196_66 : decode (ax_code 196) 66 = .ok (.iload 4, 2) := by decide +kernel
theorem dc_196_68 : decode (ax_code 196) 68 = .ok (.goto 40, 3) := by decide +kernel
theorem dc_196_71 : decode (ax_code 196) 71 = .ok (.iload_n 3, 1) := by decide +kernel
theorem dc_196_72 : decode (ax_code 196) 72 = .ok (.iconst 1, 1) := by decide +kernel
theorem dc_196_73 : decode (ax_code 196) 73 = .ok (.if_icmp .ne 8, 3) := by decide +kernel
theorem dc_196_76 : decode (ax_code 196) 76 = .ok (.iload 5, 2) := by decide +kernel
theorem dc_196_78 : decode (ax_code 196) 78 = .ok (.goto 30, 3) := by decide +kernel
theorem dc_196_81 : decode (ax_code 196) 81 = .ok (.iload_n 3, 1) := by decide +kernel
theorem dc_196_82 : decode (ax_code 196) 82 = .ok (.iconst 2, 1) := by decide +kernel
theorem dc_196_83 : decode (ax_code 196) 83 = .ok (.if_icmp .ne 16, 3) := by decide +kernel
theorem dc_196_86 : decode (ax_code 196) 86 = .ok (.aload_n 0, 1) := by decide +kernel
theorem dc_196_87 : decode (ax_code 196) 87 = .ok (.iload_n 1, 1) := by decide +kernel
theorem dc_196_88 : decode (ax_code 196) 88 = .ok (.iload 4, 2) := by decide +kernel
theorem dc_196_90 : decode (ax_code 196) 90 = .ok (.iload 5, 2) := by decide +kernel
theorem dc_196_92 : decode (ax_code 196) 92 = .ok (.i2l, 1) := by decide +kernel
theorem dc_196_93 : decode (ax_code 196) 93 = .ok (.invokevirtual 214, 3) := by decide +kernel
theorem dc_196_96 : decode (ax_code 196) 96 = .ok (.goto 12, 3) := by decide +kernel
theorem dc_196_99 : decode (ax_code 196) 99 = .ok (.aload_n 0, 1) := by decide +kernel
theorem dc_196_100 : decode (ax_code 196) 100 = .ok (.iload_n 1, 1) := by decide +kernel
theorem dc_196_101 : decode (ax_code 196) 101 = .ok (.iload 4, 2) := by decide +kernel
theorem dc_196_103 : decode (ax_code 196) 103 = .ok (.iload 5, 2) := by decide +kernel
theorem dc_196_105 : decode (ax_code 196) 105 = .ok (.invokevirtual 221, 3) := by decide +kernel
theorem dc_196_108 : decode (ax_code 196) 108 = .ok (.ireturn, 1) := by decide +kernel
theorem dc_197_0 : decode (ax_code 197) 0 = .ok (.iload_n 1, 1) := by decide +kernel
theorem dc_197_1 : decode (ax_code 197) 1 = .ok (.invokestatic 149, 3) := by decide +kernel
theorem dc_197_4 : decode (ax_code 197) 4 = .ok (.ifCond .ne 6, 3) := by decide +kernel
theorem dc_197_7 : decode (ax_code 197) 7 = .ok (.bipush (-2), 2) := by decide +kernel
theorem dc_197_9 : decode (ax_code 197) 9 = .ok (.ireturn, 1) := by decide +kernel
theorem dc_197_10 : decode (ax_code 197) 10 = .ok (.aload_n 0, 1) := by decide +kernel
theorem dc_197_11 : decode (ax_code 197) 11 = .ok (.iload_n 1, 1) := by decide +kernel
theorem dc_197_12 : decode (ax_code 197) 12 = .ok (.invokevirtual 238, 3) := by decide +kernel
theorem dc_197_15 : decode (ax_code 197) 15 = .ok (.iconst 0, 1) := by decide +kernel
theorem dc_197_16 : decode (ax_code 197) 16 = .ok (.istore_n 2, 1) := by decide +kernel
theorem dc_197_17 : decode (ax_code 197) 17 = .ok (.iload_n 2, 1) := by decide +kernel
theorem dc_197_18 : decode (ax_code 197) 18 = .ok (.aload_n 0, 1) := by decide +kernel
theorem dc_197_19 : decode (ax_code 197) 19 = .ok (.getfield 232, 3) := by decide +kernel
theorem dc_197_22 : decode (ax_code 197) 22 = .ok (.if_icmp .ge 20, 3) := by decide +kernel
theorem dc_197_25 : decode (ax_code 197) 25 = .ok (.aload_n 0, 1) := by decide +kernel
theorem dc_197_26 : decode (ax_code 197) 26 = .ok (.iload_n 1, 1) := by decide +kernel
theorem dc_197_27 : decode (ax_code 197) 27 = .ok (.iload_n 2, 1) := by decide +kernel
theorem dc_197_28 : decode (ax_code 197) 28 = .ok (.invokevirtual 242, 3) := by decide +kernel
theorem dc_197_31 : decode (ax_code 197) 31 = .ok (.ifCond .ne 5, 3) := by decide +kernel
theorem dc_197_34 : decode (ax_code 197) 34 = .ok (.iconst 0, 1) := by decide +kernel
theorem dc_197_35 : decode (ax_code 197) 35 = .ok (.ireturn, 1) := by decide +kernel
theorem dc_197_36 : decode (ax_code 197) 36 = .ok (.iinc 2 1, 3) := by decide +kernel
theorem dc_197_39 : decode (ax_code 197) 39 = .ok (.goto (-22), 3) := by decide +kernel
theorem dc_197_42 : decode (ax_code 197) 42 = .ok (.iconst 1, 1) := by decide +kernel
theorem dc_197_43 : decode (ax_code 197) 43 = .ok (.ireturn, 1) := by decide +kernel
theorem dc_198_0 : decode (ax_code 198) 0 = .ok (.aload_n 0, 1) := by decide +kernel
theorem dc_198_1 : decode (ax_code 198) 1 = .ok (.getfield 39, 3) := by decide +kernel
theorem dc_198_4 : decode (ax_code 198) 4 = .ok (.iload_n 2, 1) := by decide +kernel
theorem dc_198_5 : decode (ax_code 198) 5 = .ok (.iaload, 1) := by decide +kernel
theorem dc_198_6 : decode (ax_code 198) 6 = .ok (.istore_n 3, 1) := by decide +kernel
theorem dc_198_7 : decode (ax_code 198) 7 = .ok (.iconst 1, 1) := by decide +kernel
theorem dc_198_8 : decode (ax_code 198) 8 = .ok (.istore 4, 2) := by decide +kernel
theorem dc_198_10 : decode (ax_code 198) 10 = .ok (.aload_n 0, 1) := by decide +kernel
theorem dc_198_11 : decode (ax_code 198) 11 = .ok (.iload_n 3, 1) := by decide +kernel
theorem dc_198_12 : decode (ax_code 198) 12 = .ok (.invokevirtual 187, 3) := by decide +kernel
theorem dc_198_15 : decode (ax_code 198) 15 = .ok (.istore 5, 2) := by decide +kernel
theorem dc_198_17 : decode (ax_code 198) 17 = .ok (.iconst 0, 1) := by decide +kernel
theorem dc_198_18 : decode (ax_code 198) 18 = .ok (.istore 6, 2) := by decide +kernel
theorem dc_198_20 : decode (ax_code 198) 20 = .ok (.iload 6, 2) := by decide +kernel
theorem dc_198_22 : decode (ax_code 198) 22 = .ok (.iload 5, 2) := by decide +kernel
theorem dc_198_24 : decode (ax_code 198) 24 = .ok (.if_icmp .ge 156, 3) := by decide +kernel
theorem dc_198_27 : decode (ax_code 198) 27 = .ok (.aload_n 0, 1) := by decide +kernel
theorem dc_198_28 : decode (ax_code 198) 28 = .ok (.iload 6, 2) := by decide +kernel
theorem dc_198_30 : decode (ax_code 198) 30 = .ok (.iload_n 3, 1) := by decide +kernel
theorem dc_198_31 : decode (ax_code 198) 31 = .ok (.invokevirtual 193, 3) := by decide +kernel
theorem dc_198_34 : decode (ax_code 198) 34 = .ok (.aload_n 0, 1) := by decide +kernel
theorem dc_198_35 : decode (ax_code 198) 35 = .ok (.iload_n 1, 1) := by decide +kernel
theorem dc_198_36 : decode (ax_code 198) 36 = .ok (.iload_n 3, 1) := by decide +kernel
theorem dc_198_37 : decode (ax_code 198) 37 = .ok (.invokevirtual 211, 3) := by decide +kernel
theorem dc_198_40 : decode (ax_code 198) 40 = .ok (.aload_n 0, 1) := by decide +kernel
theorem dc_198_41 : decode (ax_code 198) 41 = .ok (.getfield 42, 3) := by decide +kernel
theorem dc_198_44 : decode (ax_code 198) 44 = .ok (.iload_n 2, 1) := by decide +kernel
theorem dc_198_45 : decode (ax_code 198) 45 = .ok (.iaload, 1) := by decide +kernel
theorem dc_198_46 : decode (ax_code 198) 46 = .ok (.if_icmp .eq 6, 3) := by decide +kernel
theorem dc_198_49 : decode (ax_code 198) 49 = .ok (.goto 125, 3) := by decide +kernel
theorem dc_198_52 : decode (ax_code 198) 52 = .ok (.iconst 0, 1) := by decide +kernel
theorem dc_198_53 : decode (ax_code 198) 53 = .ok (.istore 7, 2) := by decide +kernel
theorem dc_198_55 : decode (ax_code 198) 55 = .ok (.iload 7, 2) := by decide +kernel
theorem dc_198_57 : decode (ax_code 198) 57 = .ok (.iload_n 3, 1) := by decide +kernel
theorem dc_198_58 : decode (ax_code 198) 58 = .ok (.if_icmp .ge 113, 3) := by decide +kernel
theorem dc_198_61 : decode (ax_code 198) 61 = .ok (.aload_n 0, 1) := by decide +kernel
theorem dc_198_62 : decode (ax_code 198) 62 = .ok (.getfield 17, 3) := by decide +kernel
theorem dc_198_65 : decode (ax_code 198) 65 = .ok (.iload 7, 2) := by decide +kernel
theorem dc_198_67 : decode (ax_code 198) 67 = .ok (.iaload, 1) := by decide +kernel
theorem dc_198_68 : decode (ax_code 198) 68 = .ok (.invokestatic 130, 3) := by decide +kernel
theorem dc_198_71 : decode (ax_code 198) 71 = .ok (.ifCond .eq 94, 3) := by decide +kernel
theorem dc_198_74 : decode (ax_code 198) 74 = .ok (.aload_n 0, 1) := by decide +kernel
theorem dc_198_75 : decode (ax_code 198) 75 = .ok (.getfield 20, 3) := by decide +kernel
theorem dc_198_78 : decode (ax_code 198) 78 = .ok (.iload 7, 2) := by decide +kernel
theorem dc_198_80 : decode (ax_code 198) 80 = .ok (.iaload, 1) := by decide +kernel
theorem dc_198_81 : decode (ax_code 198) 81 = .ok (.iload_n 1, 1) := by decide +kernel
theorem dc_198_82 : decode (ax_code 198) 82 = .ok (.if_icmp .ne 83, 3) := by decide +kernel
theorem dc_198_85 : decode (ax_code 198) 85 = .ok (.aload_n 0, 1) := by decide +kernel
theorem dc_198_86 : decode (ax_code 198) 86 = .ok (.iload_n 1, 1) := by decide +kernel
theorem dc_198_87 : decode (ax_code 198) 87 = .ok (.iload 7, 2) := by decide +kernel
theorem dc_198_89 : decode (ax_code 198) 89 = .ok (.invokevirtual 211, 3) := by decide +kernel
theorem dc_198_92 : decode (ax_code 198) 92 = .ok (.istore 8, 2) := by decide +kernel
theorem dc_198_94 : decode (ax_code 198) 94 = .ok (.iload 4, 2) := by decide +kernel
theorem dc_198_96 : decode (ax_code 198) 96 = .ok (.ifCond .ne 40, 3) := by decide +kernel
theorem dc_198_99 : decode (ax_code 198) 99 = .ok (.aload_n 0, 1) := by decide +kernel
theorem dc_198_100 : decode (ax_code 198) 100 = .ok (.getfield 45, 3) := by decide +kernel
theorem dc_198_103 : decode (ax_code 198) 103 = .ok (.iconst 2, 1) := by decide +kernel
theorem dc_198_104 : decode (ax_code 198) 104 = .ok (.iload 7, 2) := by decide +kernel
theorem dc_198_106 : decode (ax_code 198) 106 = .ok (.imul, 1) := by decide +kernel
theorem dc_198_107 : decode (ax_code 198) 107 = .ok (.iaload, 1) := by decide +kernel
theorem dc_198_108 : decode (ax_code 198) 108 = .ok (.iload 8, 2) := by decide +kernel
theorem dc_198_110 : decode (ax_code 198) 110 = .ok (.if_icmp .ne 24, 3) := by decide +kernel
theorem dc_198_113 : decode (ax_code 198) 113 = .ok (.aload_n 0, 1) := by decide +kernel
theorem dc_198_114 : decode (ax_code 198) 114 = .ok (.getfield 45, 3) := by decide +kernel
theorem dc_198_117 : decode (ax_code 198) 117 = .ok (.iconst 2, 1) := by decide +kernel
theorem dc_198_118 : decode (ax_code 198) 118 = .ok (.iload 7, 2) := by decide +kernel
theorem dc_198_120 : decode (ax_code 198) 120 = .ok (.imul, 1) := by decide +kernel
theorem dc_198_121 : decode (ax_code 198) 121 = .ok (.iconst 1, 1) := by decide +kernel
theorem dc_198_122 : decode (ax_code 198) 122 = .ok (.iadd, 1) := by decide +kernel
theorem dc_198_123 : decode (ax_code 198) 123 = .ok (.iaload, 1) := by decide +kernel
theorem dc_198_124 : decode (ax_code 198) 124 = .ok (.aload_n 0, 1) := by decide +kernel
theorem dc_198_125 : decode (ax_code 198) 125 = .ok (.getfield 36, 3) := by decide +kernel
theorem dc_198_128 : decode (ax_code 198) 128 = .ok (.iload 7, 2) := by decide +kernel
theorem dc_198_130 : decode (ax_code 198) 130 = .ok (.iaload, 1) := by decide +kernel
theorem dc_198_131 : decode (ax_code 198) 131 = .ok (.if_icmp .eq 5, 3) := by decide +kernel
theorem dc_198_134 : decode (ax_code 198) 134 = .ok (.iconst 0, 1) := by decide +kernel
theorem dc_198_135 : decode (ax_code 198) 135 = .ok (.ireturn, 1) := by decide +kernel
theorem dc_198_136 : decode (ax_code 198) 136 = .ok (.aload_n 0, 1) := by decide +kernel
theorem dc_198_137 : decode (ax_code 198) 137 = .ok (.getfield 45, 3) := by decide +kernel
theorem dc_198_140 : decode (ax_code 198) 140 = .ok (.iconst 2, 1) := by decide +kernel
theorem dc_198_141 : decode (ax_code 198) 141 = .ok (.iload 7, 2) := by decide +kernel
theorem dc_198_143 : decode (ax_code 198) 143 = .ok (.imul, 1) := by decide +kernel
theorem dc_198_144 : decode (ax_code 198) 144 = .ok (.iload 8, 2) := by decide +kernel
theorem dc_198_146 : decode (ax_code 198) 146 = .ok (.iastore, 1) := by decide +kernel
theorem dc_198_147 : decode (ax_code 198) 147 = .ok (.aload_n 0, 1) := by decide +kernel
theorem dc_198_148 : decode (ax_code 198) 148 = .ok (.getfield 45, 3) := by decide +kernel
theorem dc_198_151 : decode (ax_code 198) 151 = .ok (.iconst 2, 1) := by decide +kernel
theorem dc_198_152 : decode (ax_code 198) 152 = .ok (.iload 7, 2) := by decide +kernel
theorem dc_198_154 : decode (ax_code 198) 154 = .ok (.imul, 1) := by decide +kernel
theorem dc_198_155 : decode (ax_code 198) 155 = .ok (.iconst 1, 1) := by decide +kernel
theorem dc_198_156 : decode (ax_code 198) 156 = .ok (.iadd, 1) := by decide +kernel
theorem dc_198_157 : decode (ax_code 198) 157 = .ok (.aload_n 0, 1) := by decide +kernel
theorem dc_198_158 : decode (ax_code 198) 158 = .ok (.getfield 36, 3) := by decide +kernel
theorem dc_198_161 : decode (ax_code 198) 161 = .ok (.iload 7, 2) := by decide +kernel
theorem dc_198_163 : decode (ax_code 198) 163 = .ok (.iaload, 1) := by decide +kernel
theorem dc_198_164 : decode (ax_code 198) 164 = .ok (.iastore, 1) := by decide +kernel
theorem dc_198_165 : decode (ax_code 198) 165 = .ok (.iinc 7 1, 3) := by decide +kernel
theorem dc_198_168 : decode (ax_code 198) 168 = .ok (.goto (-113), 3) := by decide +kernel
theorem dc_198_171 : decode (ax_code 198) 171 = .ok (.iconst 0, 1) := by decide +kernel
theorem dc_198_172 : decode (ax_code 198) 172 = .ok (.istore 4, 2) := by decide +kernel
theorem dc_198_174 : decode (ax_code 198) 174 = .ok (.iinc 6 1, 3) := by decide +kernel
theorem dc_198_177 : decode (ax_code 198) 177 = .ok (.goto (-157), 3) := by decide +kernel
theorem dc_198_180 : decode (ax_code 198) 180 = .ok (.iconst 1, 1) := by decide +kernel
theorem dc_198_181 : decode (ax_code 198) 181 = .ok (.ireturn, 1) := by decide +kernel
theorem dc_199_0 : decode (ax_code 199) 0 = .ok (.iload_n 1, 1) := by decide +kernel
theorem dc_199_1 : decode (ax_code 199) 1 = .ok (.invokestatic 149, 3) := by decide +kernel
theorem dc_199_4 : decode (ax_code 199) 4 = .ok (.ifCond .eq 52, 3) := by decide +kernel
theorem dc_199_7 : decode (ax_code 199) 7 = .ok (.aload_n 0, 1) := by decide +kernel
theorem dc_199_8 : decode (ax_code 199) 8 = .ok (.iload_n 2, 1) := by decide +kernel
theorem dc_199_9 : decode (ax_code 199) 9 = .ok (.invokevirtual 174, 3) := by decide +kernel
theorem dc_199_12 : decode (ax_code 199) 12 = .ok (.ifCond .eq 44, 3) := by decide +kernel
theorem dc_199_15 : decode (ax_code 199) 15 = .ok (.aload_n 0, 1) := by decide +kernel
theorem dc_199_16 : decode (ax_code 199) 16 = .ok (.getfield 17, 3) := by decide +kernel
theorem dc_199_19 : decode (ax_code 199) 19 = .ok (.iload_n 2, 1) := by decide +kernel
theorem dc_199_20 : decode (ax_code 199) 20 = .ok (.iaload, 1) := by decide +kernel
theorem dc_199_21 : decode (ax_code 199) 21 = .ok (.invokestatic 130, 3) := by decide +kernel
theorem dc_199_24 : decode (ax_code 199) 24 = .ok (.ifCond .eq 32, 3) := by decide +kernel
theorem dc_199_27 : decode (ax_code 199) 27 = .ok (.aload_n 0, 1) := by decide +kernel
theorem dc_199_28 : decode (ax_code 199) 28 = .ok (.getfield 20, 3) := by decide +kernel
theorem dc_199_31 : decode (ax_code 199) 31 = .ok (.iload_n 2, 1) := by decide +kernel
theorem dc_199_32 : decode (ax_code 199) 32 = .ok (.iaload, 1) := by decide +kernel
theorem dc_199_33 : decode (ax_code 199) 33 = .ok (.iload_n 1, 1) := by decide +kernel
theorem dc_199_34 : decode (ax_code 199) 34 = .ok (.if_icmp .ne 22, 3) := by decide +kernel
theorem dc_199_37 : decode (ax_code 199) 37 = .ok (.iload 4, 2) := by decide +kernel
theorem dc_199_39 : decode (ax_code 199) 39 = .ok (.i2l, 1) := by decide +kernel
theorem dc_199_40 : decode (ax_code 199) 40 = .ok (.lconst 0, 1) := by decide +kernel
theorem dc_199_41 : decode (ax_code 199) 41 = .ok (.aload_n 0, 1) := by decide +kernel
theorem dc_199_42 : decode (ax_code 199) 42 = .ok (.getfield 23, 3) := by decide +kernel
theorem dc_199_45 : decode (ax_code 199) 45 = .ok (.iload_n 2, 1) := by decide +kernel
theorem dc_199_46 : decode (ax_code 199) 46 = .ok (.iaload, 1) := by decide +kernel
theorem dc_199_47 : decode (ax_code 199) 47 = .ok (.iconst 1, 1) := by decide +kernel
theorem dc_199_48 : decode (ax_code 199) 48 = .ok (.isub, 1) := by decide +kernel
theorem dc_199_49 : decode (ax_code 199) 49 = .ok (.i2l, 1) := by decide +kernel
theorem dc_199_50 : decode (ax_code 199) 50 = .ok (.invokestatic 123, 3) := by decide +kernel
theorem dc_199_53 : decode (ax_code 199) 53 = .ok (.ifCond .ne 6, 3) := by decide +kernel
theorem dc_199_56 : decode (ax_code 199) 56 = .ok (.bipush (-2), 2) := by decide +kernel
theorem dc_199_58 : decode (ax_code 199) 58 = .ok (.ireturn, 1) := by decide +kernel
theorem dc_199_59 : decode (ax_code 199) 59 = .ok (.aload_n 0, 1) := by decide +kernel
theorem dc_199_60 : decode (ax_code 199) 60 = .ok (.iload_n 1, 1) := by decide +kernel
theorem dc_199_61 : decode (ax_code 199) 61 = .ok (.iload_n 2, 1) := by decide +kernel
theorem dc_199_62 : decode (ax_code 199) 62 = .ok (.iload_n 3, 1) := by decide +kernel
theorem dc_199_63 : decode (ax_code 199) 63 = .ok (.i2l, 1) := by decide +kernel
theorem dc_199_64 : decode (ax_code 199) 64 = .ok (.invokevirtual 214, 3) := by decide +kernel
theorem dc_199_67 : decode (ax_code 199) 67 = .ok (.ifCond .ne 5, 3) := by decide +kernel
theorem dc_199_70 : decode (ax_code 199) 70 = .ok (.iconst (-1), 1) := by decide +kernel
theorem dc_199_71 : decode (ax_code 199) 71 = .ok (.ireturn, 1) := by decide +kernel
theorem dc_199_72 : decode (ax_code 199) 72 = .ok (.aload_n 0, 1) := by decide +kernel
theorem dc_199_73 : decode (ax_code 199) 73 = .ok (.iload_n 1, 1) := by decide +kernel
theorem dc_199_74 : decode (ax_code 199) 74 = .ok (.iload_n 2, 1) := by decide +kernel
theorem dc_199_75 : decode (ax_code 199) 75 = .ok (.iload_n 3, 1) := by decide +kernel
theorem dc_199_76 : decode (ax_code 199) 76 = .ok (.invokevirtual 221, 3) := by decide +kernel
theorem dc_199_79 : decode (ax_code 199) 79 = .ok (.istore 5, 2) := by decide +kernel
theorem dc_199_81 : decode (ax_code 199) 81 = .ok (.aload_n 0, 1) := by decide +kernel
theorem dc_199_82 : decode (ax_code 199) 82 = .ok (.iload_n 1, 1) := by decide +kernel
theorem dc_199_83 : decode (ax_code 199) 83 = .ok (.iload_n 2, 1) := by decide +kernel
theorem dc_199_84 : decode (ax_code 199) 84 = .ok (.iload_n 3, 1) := by decide +kernel
theorem dc_199_85 : decode (ax_code 199) 85 = .ok (.iload 4, 2) := by decide +kernel
theorem dc_199_87 : decode (ax_code 199) 87 = .ok (.invokevirtual 245, 3) := by decide +kernel
theorem dc_199_90 : decode (ax_code 199) 90 = .ok (.ifCond .eq 8, 3) := by decide +kernel
theorem dc_199_93 : decode (ax_code 199) 93 = .ok (.iload 5, 2) := by decide +kernel
theorem dc_199_95 : decode (ax_code 199) 95 = .ok (.goto 5, 3) := by decide +kernel
theorem dc_199_98 : decode (ax_code 199) 98 = .ok (.bipush (-4), 2) := by decide +kernel
theorem dc_199_100 : decode (ax_code 199) 100 = .ok (.ireturn, 1) := by decide +kernel
theorem dc_200_0 : decode (ax_code 200) 0 = .ok (.aload_n 0, 1) := by decide +kernel
theorem dc_200_1 : decode (ax_code 200) 1 = .ok (.iload_n 1, 1) := by decide +kernel
theorem dc_200_2 : decode (ax_code 200) 2 = .ok (.iload_n 2, 1) := by decide +kernel
theorem dc_200_3 : decode (ax_code 200) 3 = .ok (.iload_n 3, 1) := by decide +kernel
theorem dc_200_4 : decode (ax_code 200) 4 = .ok (.invokevirtual 218, 3) := by decide +kernel
theorem dc_200_7 : decode (ax_code 200) 7 = .ok (.istore 5, 2) := by decide +kernel
theorem dc_200_9 : decode (ax_code 200) 9 = .ok (.iload 5, 2) := by decide +kernel
theorem dc_200_11 : decode (ax_code 200) 11 = .ok (.iconst (-1), 1) := by decide +kernel
theorem dc_200_12 : decode (ax_code 200) 12 = .ok (.if_icmp .ne 14, 3) := by decide +kernel
theorem dc_200_15 : decode (ax_code 200) 15 = .ok (.aload_n 0, 1) := by decide +kernel
theorem dc_200_16 : decode (ax_code 200) 16 = .ok (.getfield 136, 3) := by decide +kernel
theorem dc_200_19 : decode (ax_code 200) 19 = .ok (.bipush 40, 2) := by decide +kernel
theorem dc_200_21 : decode (ax_code 200) 21 = .ok (.if_icmp .ne 5, 3) := by decide +kernel
theorem dc_200_24 : decode (ax_code 200) 24 = .ok (.iconst 0, 1) := by decide +kernel
theorem dc_200_25 : decode (ax_code 200) 25 = .ok (.ireturn, 1) := by decide +kernel
theorem dc_200_26 : decode (ax_code 200) 26 = .ok (.iload 5, 2) := by decide +kernel
theorem dc_200_28 : decode (ax_code 200) 28 = .ok (.iconst (-1), 1) := by decide +kernel
theorem dc_200_29 : decode (ax_code 200) 29 = .ok (.if_icmp .ne 19, 3) := by decide +kernel
theorem dc_200_32 : decode (ax_code 200) 32 = .ok (.aload_n 0, 1) := by decide +kernel
theorem dc_200_33 : decode (ax_code 200) 33 = .ok (.getfield 136, 3) := by decide +kernel
theorem dc_200_36 : decode (ax_code 200) 36 = .ok (.istore 5, 2) := by decide +kernel
theorem dc_200_38 : decode (ax_code 200) 38 = .ok (.aload_n 0, 1) := by decide +kernel
theorem dc_200_39 : decode (ax_code 200) 39 = .ok (.dup, 1) := by decide +kernel
theorem dc_200_40 : decode (ax_code 200) 40 = .ok (.getfield 136, 3) := by decide +kernel
theorem dc_200_43 : decode (ax_code 200) 43 = .ok (.iconst 1, 1) := by decide +kernel
theorem dc_200_44 : decode (ax_code 200) 44 = .ok (.iadd, 1) := by decide +kernel
theorem dc_200_45 : decode (ax_code 200) 45 = .ok (.putfield 136, 3) := by decide +kernel
theorem dc_200_48 : decode (ax_code 200) 48 = .ok (.aload_n 0, 1) := by decide +kernel
theorem dc_200_49 : decode (ax_code 200) 49 = .ok (.getfield 26, 3) := by decide +kernel
theorem dc_200_52 : decode (ax_code 200) 52 = .ok (.iconst 4, 1) := by decide +kernel
theorem dc_200_53 : decode (ax_code 200) 53 = .ok (.iload 5, 2) := by decide +kernel
theorem dc_200_55 : decode (ax_code 200) 55 = .ok (.imul, 1) := by decide +kernel
theorem dc_200_56 : decode (ax_code 200) 56 = .ok (.iload_n 1, 1) := by decide +kernel
theorem dc_200_57 : decode (ax_code 200) 57 = .ok (.iastore, 1) := by decide +kernel
theorem dc_200_58 : decode (ax_code 200) 58 = .ok (.aload_n 0, 1) := by decide +kernel
theorem dc_200_59 : decode (ax_code 200) 59 = .ok (.getfield 26, 3) := by decide +kernel
theorem dc_200_62 : decode (ax_code 200) 62 = .ok (.iconst 4, 1) := by decide +kernel
theorem dc_200_63 : decode (ax_code 200) 63 = .ok (.iload 5, 2) := by decide +kernel
theorem dc_200_65 : decode (ax_code 200) 65 = .ok (.imul, 1) := by decide +kernel
theorem dc_200_66 : decode (ax_code 200) 66 = .ok (.iconst 1, 1) := by decide +kernel
theorem dc_200_67 : decode (ax_code 200) 67 = .ok (.iadd, 1) := by decide +kernel
theorem dc_200_68 : decode (ax_code 200) 68 = .ok (.iload_n 2, 1) := by decide +kernel
theorem dc_200_69 : decode (ax_code 200) 69 = .ok (.iastore, 1) := by decide +kernel
theorem dc_200_70 : decode (ax_code 200) 70 = .ok (.aload_n 0, 1) := by decide +kernel
theorem dc_200_71 : decode (ax_code 200) 71 = .ok (.getfield 26, 3) := by decide +kernel
theorem dc_200_74 : decode (ax_code 200) 74 = .ok (.iconst 4, 1) := by decide +kernel
theorem dc_200_75 : decode (ax_code 200) 75 = .ok (.iload 5, 2) := by decide +kernel
theorem dc_200_77 : decode (ax_code 200) 77 = .ok (.imul, 1) := by decide +kernel
theorem dc_200_78 : decode (ax_code 200) 78 = .ok (.iconst 2, 1) := by decide +kernel
theorem dc_200_79 : decode (ax_code 200) 79 = .ok (.iadd, 1) := by decide +kernel
theorem dc_200_80 : decode (ax_code 200) 80 = .ok (.iload_n 3, 1) := by decide +kernel
theorem dc_200_81 : decode (ax_code 200) 81 = .ok (.iastore, 1) := by decide +kernel
theorem dc_200_82 : decode (ax_code 200) 82 = .ok (.aload_n 0, 1) := by decide +kernel
theorem dc_200_83 : decode (ax_code 200) 83 = .ok (.getfield 26, 3) := by decide +kernel
theorem dc_200_86 : decode (ax_code 200) 86 = .ok (.iconst 4, 1) := by decide +kernel
theorem dc_200_87 : decode (ax_code 200) 87 = .ok (.iload 5, 2) := by decide +kernel
theorem dc_200_89 : decode (ax_code 200) 89 = .ok (.imul, 1) := by decide +kernel
theorem dc_200_90 : decode (ax_code 200) 90 = .ok (.iconst 3, 1) := by decide +kernel
theorem dc_200_91 : decode (ax_code 200) 91 = .ok (.iadd, 1) := by decide +kernel
theorem dc_200_92 : decode (ax_code 200) 92 = .ok (.iload 4, 2) := by decide +kernel
theorem dc_200_94 : decode (ax_code 200) 94 = .ok (.iastore, 1) := by decide +kernel
theorem dc_200_95 : decode (ax_code 200) 95 = .ok (.iconst 1, 1) := by decide +kernel
theorem dc_200_96 : decode (ax_code 200) 96 = .ok (.ireturn, 1) := by decide +kernel
theorem dc_201_0 : decode (ax_code 201) 0 = .ok (.aload_n 0, 1) := by decide +kernel
theorem dc_201_1 : decode (ax_code 201) 1 = .ok (.iload_n 1, 1) := by decide +kernel
theorem dc_201_2 : decode (ax_code 201) 2 = .ok (.putfield 249, 3) := by decide +kernel
theorem dc_201_5 : decode (ax_code 201) 5 = .ok (.iconst 0, 1) := by decide +kernel
theorem dc_201_6 : decode (ax_code 201) 6 = .ok (.istore_n 2, 1) := by decide +kernel
theorem dc_201_7 : decode (ax_code 201) 7 = .ok (.iconst 0, 1) := by decide +kernel
theorem dc_201_8 : decode (ax_code 201) 8 = .ok (.istore_n 3, 1) := by decide +kernel
theorem dc_201_9 : decode (ax_code 201) 9 = .ok (.iload_n 3, 1) := by decide +kernel
theorem dc_201_10 : decode (ax_code 201) 10 = .ok (.iconst 3, 1) := by decide +kernel
theorem dc_201_11 : decode (ax_code 201) 11 = .ok (.if_icmp .ge 77, 3) := by decide +kernel
theorem dc_201_14 : decode (ax_code 201) 14 = .ok (.aload_n 0, 1) := by decide +kernel
theorem dc_201_15 : decode (ax_code 201) 15 = .ok (.iload_n 3, 1) := by decide +kernel
theorem dc_201_16 : decode (ax_code 201) 16 = .ok (.invokevirtual 238, 3) := by decide +kernel
theorem dc_201_19 : decode (ax_code 201) 19 = .ok (.iconst 0, 1) := by decide +kernel
theorem dc_201_20 : decode (ax_code 201) 20 = .ok (.istore 4, 2) := by decide +kernel
theorem dc_201_22 : decode (ax_code 201) 22 = .ok (.iload 4, 2) := by decide +kernel
theorem dc_201_24 : decode (ax_code 201) 24 = .ok (.aload_n 0, 1) := by decide +kernel
theorem dc_201_25 : decode (ax_code 201) 25 = .ok (.getfield 232, 3) := by decide +kernel
theorem dc_201_28 : decode (ax_code 201) 28 = .ok (.if_icmp .ge 54, 3) := by decide +kernel
theorem dc_201_31 : decode (ax_code 201) 31 = .ok (.aload_n 0, 1) := by decide +kernel
theorem dc_201_32 : decode (ax_code 201) 32 = .ok (.iload_n 3, 1) := by decide +kernel
theorem dc_201_33 : decode (ax_code 201) 33 = .ok (.aload_n 0, 1) := by decide +kernel
theorem dc_201_34 : decode (ax_code 201) 34 = .ok (.getfield 39, 3) := by decide +kernel
theorem dc_201_37 : decode (ax_code 201) 37 = .ok (.iload 4, 2) := by decide +kernel
theorem dc_201_39 : decode (ax_code 201) 39 = .ok (.iaload, 1) := by decide +kernel
theorem dc_201_40 : decode (ax_code 201) 40 = .ok (.aload_n 0, 1) := by decide +kernel
theorem dc_201_41 : decode (ax_code 201) 41 = .ok (.getfield 42, 3) := by decide +kernel
theorem dc_201_44 : decode (ax_code 201) 44 = .ok (.iload 4, 2) := by decide +kernel
theorem dc_201_46 : decode (ax_code 201) 46 = .ok (.iaload, 1) := by decide +kernel
theorem dc_201_47 : decode (ax_code 201) 47 = .ok (.aload_n 0, 1) := by decide +kernel
theorem dc_201_48 : decode (ax_code 201) 48 = .ok (.invokevirtual 253, 3) := by decide +kernel
theorem dc_201_51 : decode (ax_code 201) 51 = .ok (.aload_n 0, 1) := by decide +kernel
theorem dc_201_52 : decode (ax_code 201) 52 = .ok (.getfield 23, 3) := by decide +kernel
theorem dc_201_55 : decode (ax_code 201) 55 = .ok (.aload_n 0, 1) := by decide +kernel
theorem dc_201_56 : decode (ax_code 201) 56 = .ok (.getfield 39, 3) := by decide +kernel
theorem dc_201_59 : decode (ax_code 201) 59 = .ok (.iload 4, 2) := by decide +kernel
theorem dc_201_61 : decode (ax_code 201) 61 = .ok (.iaload, 1) := by decide +kernel
theorem dc_201_62 : decode (ax_code 201) 62 = .ok (.iaload, 1) := by decide +kernel
theorem dc_201_63 : decode (ax_code 201) 63 = .ok (.irem, 1) := by decide +kernel
theorem dc_201_64 : decode (ax_code 201) 64 = .ok (.invokevirtual 245, 3) := by decide +kernel
theorem dc_201_67 : decode (ax_code 201) 67 = .ok (.ifCond .ne 6, 3) := by decide +kernel
theorem dc_201_70 : decode (ax_code 201) 70 = .ok (.bipush (-4), 2) := by decide +kernel
theorem dc_201_72 : decode (ax_code 201) 72 = .ok (.ireturn, 1) := by decide +kernel
theorem dc_201_73 : decode (ax_code 201) 73 = .ok (.iinc 2 1, 3) := by decide +kernel
theorem dc_201_76 : decode (ax_code 201) 76 = .ok (.iinc 4 1, 3) := by decide +kernel
theorem dc_201_79 : decode (ax_code 201) 79 = .ok (.goto (-57), 3) := by decide +kernel
theorem dc_201_82 : decode (ax_code 201) 82 = .ok (.iinc 3 1, 3) := by decide +kernel
theorem dc_201_85 : decode (ax_code 201) 85 = .ok (.goto (-76), 3) := by decide +kernel
theorem dc_201_88 : decode (ax_code 201) 88 = .ok (.iload_n 2, 1) := by decide +kernel
theorem dc_201_89 : decode (ax_code 201) 89 = .ok (.ireturn, 1) := by decide +kernel
theorem dc_202_0 : decode (ax_code 202) 0 = .ok (.aload_n 0, 1) := by decide +kernel
theorem dc_202_1 : decode (ax_code 202) 1 = .ok (.aload_n 0, 1) := by decide +kernel
theorem dc_202_2 : decode (ax_code 202) 2 = .ok (.getfield 249, 3) := by decide +kernel
theorem dc_202_5 : decode (ax_code 202) 5 = .ok (.ldc 252, 2) := by decide +kernel
theorem dc_202_7 : decode (ax_code 202) 7 = .ok (.imul, 1) := by decide +kernel
theorem dc_202_8 : decode (ax_code 202) 8 = .ok (.sipush 12345, 3) := by decide +kernel
theorem dc_202_11 : decode (ax_code 202) 11 = .ok (.iadd, 1) := by decide +kernel
theorem dc_202_12 : decode (ax_code 202) 12 = .ok (.putfield 249, 3) := by decide +kernel
theorem dc_202_15 : decode (ax_code 202) 15 = .ok (.aload_n 0, 1) := by decide +kernel
theorem dc_202_16 : decode (ax_code 202) 16 = .ok (.getfield 249, 3) := by decide +kernel
theorem dc_202_19 : decode (ax_code 202) 19 = .ok (.bipush 8, 2) := by decide +kernel
theorem dc_202_21 : decode (ax_code 202) 21 = .ok (.iushr, 1) := by decide +kernel
theorem dc_202_22 : decode (ax_code 202) 22 = .ok (.ireturn, 1) := by decide +kernel
theorem dc_203_0 : decode (ax_code 203) 0 = .ok (.aload_n 0, 1) := by decide +kernel
theorem dc_203_1 : decode (ax_code 203) 1 = .ok (.getfield 136, 3) := by decide +kernel
theorem dc_203_4 : decode (ax_code 203) 4 = .ok (.istore_n 1, 1) := by decide +kernel
theorem dc_203_5 : decode (ax_code 203) 5 = .ok (.aload_n 0, 1) := by decide +kernel
theorem dc_203_6 : decode (ax_code 203) 6 = .ok (.iconst 0, 1) := by decide +kernel
theorem dc_203_7 : decode (ax_code 203) 7 = .ok (.putfield 136, 3) := by decide +kernel
theorem dc_203_10 : decode (ax_code 203) 10 = .ok (.iload_n 1, 1) := by decide +kernel
theorem dc_203_11 : decode (ax_code 203) 11 = .ok (.ireturn, 1) := by decide +kernel
theorem dc_204_0 : decode (ax_code 204) 0 = .ok (.iload_n 1, 1) := by decide +kernel
theorem dc_204_1 : decode (ax_code 204) 1 = .ok (.i2l, 1) := by decide +kernel
theorem dc_204_2 : decode (ax_code 204) 2 = .ok (.lconst 0, 1) := by decide +kernel
theorem dc_204_3 : decode (ax_code 204) 3 = .ok (.ldc2_w 257, 3) := by decide +kernel
theorem dc_204_6 : decode (ax_code 204) 6 = .ok (.invokestatic 123, 3) := by decide +kernel
theorem dc_204_9 : decode (ax_code 204) 9 = .ok (.ifCond .eq 78, 3) := by decide +kernel
theorem dc_204_12 : decode (ax_code 204) 12 = .ok (.iload_n 2, 1) := by decide +kernel
theorem dc_204_13 : decode (ax_code 204) 13 = .ok (.i2l, 1) := by decide +kernel
theorem dc_204_14 : decode (ax_code 204) 14 = .ok (.lconst 0, 1) := by decide +kernel
theorem dc_204_15 : decode (ax_code 204) 15 = .ok (.ldc2_w 152, 3) := by decide +kernel
theorem dc_204_18 : decode (ax_code 204) 18 = .ok (.invokestatic 123, 3) := by decide +kernel
theorem dc_204_21 : decode (ax_code 204) 21 = .ok (.ifCond .eq 66, 3) := by decide +kernel
theorem dc_204_24 : decode (ax_code 204) 24 = .ok (.iload_n 3, 1) := by decide +kernel
theorem dc_204_25 : decode (ax_code 204) 25 = .ok (.i2l, 1) := by decide +kernel
theorem dc_204_26 : decode (ax_code 204) 26 = .ok (.lconst 0, 1) := by decide +kernel
theorem dc_204_27 : decode (ax_code 204) 27 = .ok (.ldc2_w 152, 3) := by decide +kernel
theorem dc_204_30 : decode (ax_code 204) 30 = .ok (.invokestatic 123, 3) := by decide +kernel
theorem dc_204_33 : decode (ax_code 204) 33 = .ok (.ifCond .eq 54, 3) := by decide +kernel
theorem dc_204_36 : decode (ax_code 204) 36 = .ok (.iload 4, 2) := by decide +kernel
theorem dc_204_38 : decode (ax_code 204) 38 = .ok (.invokestatic 149, 3) := by decide +kernel
theorem dc_204_41 : decode (ax_code 204) 41 = .ok (.ifCond .eq 46, 3) := by decide +kernel
theorem dc_204_44 : decode (ax_code 204) 44 = .ok (.iload 5, 2) := by decide +kernel
theorem dc_204_46 : decode (ax_code 204) 46 = .ok (.invokestatic 149, 3) := by decide +kernel
theorem dc_204_49 : decode (ax_code 204) 49 = .ok (.ifCond .eq 38, 3) := by decide +kernel
theorem dc_204_52 : decode (ax_code 204) 52 = .ok (.iload 4, 2) := by decide +kernel
theorem dc_204_54 : decode (ax_code 204) 54 = .ok (.iload 5, 2) := by decide +kernel
theorem dc_204_56 : decode (ax_code 204) 56 = .ok (.if_icmp .eq 31, 3) := by decide +kernel
theorem dc_204_59 : decode (ax_code 204) 59 = .ok (.iload 6, 2) := by decide +kernel
theorem dc_204_61 : decode (ax_code 204) 61 = .ok (.i2l, 1) := by decide +kernel
theorem dc_204_62 : decode (ax_code 204) 62 = .ok (.lconst 0, 1) := by decide +kernel
theorem dc_204_63 : decode (ax_code 204) 63 = .ok (.ldc2_w 257, 3) := by decide +kernel
theorem dc_204_66 : decode (ax_code 204) 66 = .ok (.invokestatic 123, 3) := by decide +kernel
theorem dc_204_69 : decode (ax_code 204) 69 = .ok (.ifCond .eq 18, 3) := by decide +kernel
theorem dc_204_72 : decode (ax_code 204) 72 = .ok (.iload 7, 2) := by decide +kernel
theorem dc_204_74 : decode (ax_code 204) 74 = .ok (.i2l, 1) := by decide +kernel
theorem dc_204_75 : decode (ax_code 204) 75 = .ok (.ldc2_w 259, 3) := by decide +kernel
theorem dc_204_78 : decode (ax_code 204) 78 = .ok (.ldc2_w 261, 3) := by decide +kernel
theorem dc_204_81 : decode (ax_code 204) 81 = .ok (.invokestatic 123, 3) := by decide +kernel
theorem dc_204_84 : decode (ax_code 204) 84 = .ok (.ifCond .ne 6, 3) := by decide +kernel
theorem dc_204_87 : decode (ax_code 204) 87 = .ok (.bipush (-2), 2) := by decide +kernel
theorem dc_204_89 : decode (ax_code 204) 89 = .ok (.ireturn, 1) := by decide +kernel
theorem dc_204_90 : decode (ax_code 204) 90 = .ok (.aload_n 0, 1) := by decide +kernel
theorem dc_204_91 : decode (ax_code 204) 91 = .ok (.getfield 139, 3) := by decide +kernel
theorem dc_204_94 : decode (ax_code 204) 94 = .ok (.bipush 8, 2) := by decide +kernel
theorem dc_204_96 : decode (ax_code 204) 96 = .ok (.if_icmp .ne 6, 3) := by decide +kernel
theorem dc_204_99 : decode (ax_code 204) 99 = .ok (.bipush (-4), 2) := by decide +kernel
theorem dc_204_101 : decode (ax_code 204) 101 = .ok (.ireturn, 1) := by decide +kernel
theorem dc_204_102 : decode (ax_code 204) 102 = .ok (.bipush 7, 2) := by decide +kernel
theorem dc_204_104 : decode (ax_code 204) 104 = .ok (.aload_n 0, 1) := by decide +kernel
theorem dc_204_105 : decode (ax_code 204) 105 = .ok (.getfield 139, 3) := by decide +kernel
theorem dc_204_108 : decode (ax_code 204) 108 = .ok (.imul, 1) := by decide +kernel
theorem dc_204_109 : decode (ax_code 204) 109 = .ok (.istore 8, 2) := by decide +kernel
theorem dc_204_111 : decode (ax_code 204) 111 = .ok (.aload_n 0, 1) := by decide +kernel
theorem dc_204_112 : decode (ax_code 204) 112 = .ok (.getfield 29, 3) := by decide +kernel
theorem dc_204_115 : decode (ax_code 204) 115 = .ok (.iload 8, 2) := by decide +kernel
theorem dc_204_117 : decode (ax_code 204) 117 = .ok (.iload_n 1, 1) := by decide +kernel
theorem dc_204_118 : decode (ax_code 204) 118 = .ok (.iastore, 1) := by decide +kernel
theorem dc_204_119 : decode (ax_code 204) 119 = .ok (.aload_n 0, 1) := by decide +kernel
theorem dc_204_120 : decode (ax_code 204) 120 = .ok (.getfield 29, 3) := by decide +kernel
theorem dc_204_123 : decode (ax_code 204) 123 = .ok (.iload 8, 2) := by decide +kernel
theorem dc_204_125 : decode (ax_code 204) 125 = .ok (.iconst 1, 1) := by decide +kernel
theorem dc_204_126 : decode (ax_code 204) 126 = .ok (.iadd, 1) := by decide +kernel
theorem dc_204_127 : decode (ax_code 204) 127 = .ok (.iload_n 2, 1) := by decide +kernel
theorem dc_204_128 : decode (ax_code 204) 128 = .ok (.iastore, 1) := by decide +kernel
theorem dc_204_129 : decode (ax_code 204) 129 = .ok (.aload_n 0, 1) := by decide +kernel
theorem dc_204_130 : decode (ax_code 204) 130 = .ok (.getfield 29, 3) := by decide +kernel
theorem dc_204_133 : decode (ax_code 204) 133 = .ok (.iload 8, 2) := by decide +kernel
theorem dc_204_135 : decode (ax_code 204) 135 = .ok (.iconst 2, 1) := by decide +kernel
theorem dc_204_136 : decode (ax_code 204) 136 = .ok (.iadd, 1) := by decide +kernel
theorem dc_204_137 : decode (ax_code 204) 137 = .ok (.iload_n 3, 1) := by decide +kernel
theorem dc_204_138 : decode (ax_code 204) 138 = .ok (.iastore, 1) := by decide +kernel
theorem dc_204_139 : decode (ax_code 204) 139 = .ok (.aload_n 0, 1) := by decide +kernel
theorem dc_204_140 : decode (ax_code 204) 140 = .ok (.getfield 29, 3) := by decide +kernel
theorem dc_204_143 : decode (ax_code 204) 143 = .ok (.iload 8, 2) := by decide +kernel
theorem dc_204_145 : decode (ax_code 204) 145 = .ok (.iconst 3, 1) := by decide +kernel
theorem dc_204_146 : decode (ax_code 204) 146 = .ok (.iadd, 1) := by decide +kernel
theorem dc_204_147 : decode (ax_code 204) 147 = .ok (.iload 4, 2) := by decide +kernel
theorem dc_204_149 : decode (ax_code 204) 149 = .ok (.iastore, 1) := by decide +kernel
theorem dc_204_150 : decode (ax_code 204) 150 = .ok (.aload_n 0, 1) := by decide +kernel
theorem dc_204_151 : decode (ax_code 204) 151 = .ok (.getfield 29, 3) := by decide +kernel
theorem dc_204_154 : decode (ax_code 204) 154 = .ok (.iload 8, 2) := by decide +kernel
theorem dc_204_156 : decode (ax_code 204) 156 = .ok (.iconst 4, 1) := by decide +kernel
theorem dc_204_157 : decode (ax_code 204) 157 = .ok (.iadd, 1) := by decide +kernel
theorem dc_204_158 : decode (ax_code 204) 158 = .ok (.iload 5, 2) := by decide +kernel
theorem dc_204_160 : decode (ax_code 204) 160 = .ok (.iastore, 1) := by decide +kernel
theorem dc_204_161 : decode (ax_code 204) 161 = .ok (.aload_n 0, 1) := by decide +kernel
theorem dc_204_162 : decode (ax_code 204) 162 = .ok (.getfield 29, 3) := by decide +kernel
theorem dc_204_165 : decode (ax_code 204) 165 = .ok (.iload 8, 2) := by decide +kernel
theorem dc_204_167 : decode (ax_code 204) 167 = .ok (.iconst 5, 1) := by decide +kernel
theorem dc_204_168 : decode (ax_code 204) 168 = .ok (.iadd, 1) := by decide +kernel
theorem dc_204_169 : decode (ax_code 204) 169 = .ok (.iload 6, 2) := by decide +kernel
theorem dc_204_171 : decode (ax_code 204) 171 = .ok (.iastore, 1) := by decide +kernel
theorem dc_204_172 : decode (ax_code 204) 172 = .ok (.aload_n 0, 1) := by decide +kernel
theorem dc_204_173 : decode (ax_code 204) 173 = .ok (.getfield 29, 3) := by decide +kernel
theorem dc_204_176 : decode (ax_code 204) 176 = .ok (.iload 8, 2) := by decide +kernel
theorem dc_204_178 : decode (ax_code 204) 178 = .ok (.bipush 6, 2) := by decide +kernel
theorem dc_204_180 : decode (ax_code 204) 180 = .ok (.iadd, 1) := by decide +kernel
theorem dc_204_181 : decode (ax_code 204) 181 = .ok (.iload 7, 2) := by decide +kernel
theorem dc_204_183 : decode (ax_code 204) 183 = .ok (.iastore, 1) := by decide +kernel
theorem dc_204_184 : decode (ax_code 204) 184 = .ok (.aload_n 0, 1) := by decide +kernel
theorem dc_204_185 : decode (ax_code 204) 185 = .ok (.dup, 1) := by decide +kernel
theorem dc_204_186 : decode (ax_code 204) 186 = .ok (.getfield 139, 3) := by decide +kernel
theorem dc_204_189 : decode (ax_code 204) 189 = .ok (.iconst 1, 1) := by decide +kernel
theorem dc_204_190 : decode (ax_code 204) 190 = .ok (.iadd, 1) := by decide +kernel
theorem dc_204_191 : decode (ax_code 204) 191 = .ok (.putfield 139, 3) := by decide +kernel
theorem dc_204_194 : decode (ax_code 204) 194 = .ok (.aload_n 0, 1) := by decide +kernel
theorem dc_204_195 : decode (ax_code 204) 195 = .ok (.getfield 139, 3) := by decide +kernel
theorem dc_204_198 : decode (ax_code 204) 198 = .ok (.iconst 1, 1) := by decide +kernel
theorem dc_204_199 : decode (ax_code 204) 199 = .ok (.isub, 1) := by decide +kernel
theorem dc_204_200 : decode (ax_code 204) 200 = .ok (.ireturn, 1) := by decide +kernel
theorem dc_205_0 : decode (ax_code 205) 0 = .ok (.iload_n 1, 1) := by decide +kernel
theorem dc_205_1 : decode (ax_code 205) 1 = .ok (.i2l, 1) := by decide +kernel
theorem dc_205_2 : decode (ax_code 205) 2 = .ok (.lconst 0, 1) := by decide +kernel
theorem dc_205_3 : decode (ax_code 205) 3 = .ok (.aload_n 0, 1) := by decide +kernel
theorem dc_205_4 : decode (ax_code 205) 4 = .ok (.getfield 139, 3) := by decide +kernel
theorem dc_205_7 : decode (ax_code 205) 7 = .ok (.iconst 1, 1) := by decide +kernel
theorem dc_205_8 : decode (ax_code 205) 8 = .ok (.isub, 1) := by decide +kernel
theorem dc_205_9 : decode (ax_code 205) 9 = .ok (.i2l, 1) := by decide +kernel
theorem dc_205_10 : decode (ax_code 205) 10 = .ok (.invokestatic 123, 3) := by decide +kernel
theorem dc_205_13 : decode (ax_code 205) 13 = .ok (.ifCond .eq 11, 3) := by decide +kernel
theorem dc_205_16 : decode (ax_code 205) 16 = .ok (.aload_n 0, 1) := by decide +kernel
theorem dc_205_17 : decode (ax_code 205) 17 = .ok (.iload_n 2, 1) := by decide +kernel
theorem dc_205_18 : decode (ax_code 205) 18 = .ok (.invokevirtual 190, 3) := by decide +kernel
theorem dc_205_21 : decode (ax_code 205) 21 = .ok (.ifCond .ne 6, 3) := by decide +kernel
theorem dc_205_24 : decode (ax_code 205) 24 = .ok (.bipush (-2), 2) := by decide +kernel
theorem dc_205_26 : decode (ax_code 205) 26 = .ok (.ireturn, 1) := by decide +kernel
theorem dc_205_27 : decode (ax_code 205) 27 = .ok (.aload_n 0, 1) := by decide +kernel
theorem dc_205_28 : decode (ax_code 205) 28 = .ok (.iload_n 2, 1) := by decide +kernel
theorem dc_205_29 : decode (ax_code 205) 29 = .ok (.aload_n 0, 1) := by decide +kernel
theorem dc_205_30 : decode (ax_code 205) 30 = .ok (.getfield 127, 3) := by decide +kernel
theorem dc_205_33 : decode (ax_code 205) 33 = .ok (.invokevirtual 193, 3) := by decide +kernel
theorem dc_205_36 : decode (ax_code 205) 36 = .ok (.aload_n 0, 1) := by decide +kernel
theorem dc_205_37 : decode (ax_code 205) 37 = .ok (.iload_n 1, 1) := by decide +kernel
theorem dc_205_38 : decode (ax_code 205) 38 = .ok (.invokevirtual 263, 3) := by decide +kernel
theorem dc_205_41 : decode (ax_code 205) 41 = .ok (.ifCond .eq 16, 3) := by decide +kernel
theorem dc_205_44 : decode (ax_code 205) 44 = .ok (.aload_n 0, 1) := by decide +kernel
theorem dc_205_45 : decode (ax_code 205) 45 = .ok (.aload_n 0, 1) := by decide +kernel
theorem dc_205_46 : decode (ax_code 205) 46 = .ok (.getfield 29, 3) := by decide +kernel
theorem dc_205_49 : decode (ax_code 205) 49 = .ok (.iconst 0, 1) := by decide +kernel
theorem dc_205_50 : decode (ax_code 205) 50 = .ok (.iload_n 1, 1) := by decide +kernel
theorem dc_205_51 : decode (ax_code 205) 51 = .ok (.invokevirtual 266, 3) := by decide +kernel
theorem dc_205_54 : decode (ax_code 205) 54 = .ok (.goto 4, 3) := by decide +kernel
theorem dc_205_57 : decode (ax_code 205) 57 = .ok (.iconst 0, 1) := by decide +kernel
theorem dc_205_58 : decode (ax_code 205) 58 = .ok (.ireturn, 1) := by decide +kernel
theorem dc_206_0 : decode (ax_code 206) 0 = .ok (.aload_n 0, 1) := by decide +kernel
theorem dc_206_1 : decode (ax_code 206) 1 = .ok (.getfield 29, 3) := by decide +kernel
theorem dc_206_4 : decode (ax_code 206) 4 = .ok (.bipush 7, 2) := by decide +kernel
theorem dc_206_6 : decode (ax_code 206) 6 = .ok (.iload_n 1, 1) := by decide +kernel
theorem dc_206_7 : decode (ax_code 206) 7 = .ok (.imul, 1) := by decide +kernel
theorem dc_206_8 : decode (ax_code 206) 8 = .ok (.iconst 1, 1) := by decide +kernel
theorem dc_206_9 : decode (ax_code 206) 9 = .ok (.iadd, 1) := by decide +kernel
theorem dc_206_10 : decode (ax_code 206) 10 = .ok (.iaload, 1) := by decide +kernel
theorem dc_206_11 : decode (ax_code 206) 11 = .ok (.istore_n 2, 1) := by decide +kernel
theorem dc_206_12 : decode (ax_code 206) 12 = .ok (.aload_n 0, 1) := by decide +kernel
theorem dc_206_13 : decode (ax_code 206) 13 = .ok (.getfield 29, 3) := by decide +kernel
theorem dc_206_16 : decode (ax_code 206) 16 = .ok (.bipush 7, 2) := by decide +kernel
theorem dc_206_18 : decode (ax_code 206) 18 = .ok (.iload_n 1, 1) := by decide +kernel
theorem dc_206_19 : decode (ax_code 206) 19 = .ok (.imul, 1) := by decide +kernel
theorem dc_206_20 : decode (ax_code 206) 20 = .ok (.iconst 2, 1) := by decide +kernel
theorem dc_206_21 : decode (ax_code 206) 21 = .ok (.iadd, 1) := by decide +kernel
theorem dc_206_22 : decode (ax_code 206) 22 = .ok (.iaload, 1) := by decide +kernel
theorem dc_206_23 : decode (ax_code 206) 23 = .ok (.istore_n 3, 1) := by decide +kernel
theorem dc_206_24 : decode (ax_code 206) 24 = .ok (.aload_n 0, 1) := by decide +kernel
theorem dc_206_25 : decode (ax_code 206) 25 = .ok (.iload_n 2, 1) := by decide +kernel
theorem dc_206_26 : decode (ax_code 206) 26 = .ok (.invokevirtual 174, 3) := by decide +kernel
theorem dc_206_29 : decode (ax_code 206) 29 = .ok (.ifCond .eq 15, 3) := by decide +kernel
theorem dc_206_32 : decode (ax_code 206) 32 = .ok (.aload_n 0, 1) := by decide +kernel
theorem dc_206_33 : decode (ax_code 206) 33 = .ok (.iload_n 3, 1) := by decide +kernel
theorem dc_206_34 : decode (ax_code 206) 34 = .ok (.invokevirtual 174, 3) := by decide +kernel
theorem dc_206_37 : decode (ax_code 206) 37 = .ok (.ifCond .eq 7, 3) := by decide +kernel
theorem dc_206_40 : decode (ax_code 206) 40 = .ok (.iconst 1, 1) := by decide +kernel
theorem dc_206_41 : decode (ax_code 206) 41 = .ok (.goto 4, 3) := by decide +kernel
theorem dc_206_44 : decode (ax_code 206) 44 = .ok (.iconst 0, 1) := by decide +kernel
theorem dc_206_45 : decode (ax_code 206) 45 = .ok (.istore 4, 2) := by decide +kernel
theorem dc_206_47 : decode (ax_code 206) 47 = .ok (.aload_n 0, 1) := by decide +kernel
theorem dc_206_48 : decode (ax_code 206) 48 = .ok (.getfield 29, 3) := by decide +kernel
theorem dc_206_51 : decode (ax_code 206) 51 = .ok (.bipush 7, 2) := by decide +kernel
theorem dc_206_53 : decode (ax_code 206) 53 = .ok (.iload_n 1, 1) := by decide +kernel
theorem dc_206_54 : decode (ax_code 206) 54 = .ok (.imul, 1) := by decide +kernel
theorem dc_206_55 : decode (ax_code 206) 55 = .ok (.iaload, 1) := by decide +kernel
theorem dc_206_56 : decode (ax_code 206) 56 = .ok (.tableswitch 115 0 3 #[32, 34, 60, 86], 32) := by decide +kernel
theorem dc_206_88 : decode (ax_code 206) 88 = .ok (.iconst 1, 1) := by decide +kernel
theorem dc_206_89 : decode (ax_code 206) 89 = .ok (.ireturn, 1) := by decide +kernel
theorem dc_206_90 : decode (ax_code 206) 90 = .ok (.iload 4, 2) := by decide +kernel
theorem dc_206_92 : decode (ax_code 206) 92 = .ok (.ifCond .eq 22, 3) := by decide +kernel
theorem dc_206_95 : decode (ax_code 206) 95 = .ok (.aload_n 0, 1) := by decide +kernel
theorem dc_206_96 : decode (ax_code 206) 96 = .ok (.getfield 36, 3) := by decide +kernel
theorem dc_206_99 : decode (ax_code 206) 99 = .ok (.iload_n 2, 1) := by decide +kernel
theorem dc_206_100 : decode (ax_code 206) 100 = .ok (.iaload, 1) := by decide +kernel
theorem dc_206_101 : decode (ax_code 206) 101 = .ok (.aload_n 0, 1) := by decide +kernel
theorem dc_206_102 : decode (ax_code 206) 102 = .ok (.getfield 36, 3) := by decide +kernel
theorem dc_206_105 : decode (ax_code 206) 105 = .ok (.iload_n 3, 1) := by decide +kernel
theorem dc_206_106 : decode (ax_code 206) 106 = .ok (.iaload, 1) := by decide +kernel
theorem dc_206_107 : decode (ax_code 206) 107 = .ok (.if_icmp .ne 7, 3) := by decide +kernel
theorem dc_206_110 : decode (ax_code 206) 110 = .ok (.iconst 1, 1) := by decide +kernel
theorem dc_206_111 : decode (ax_code 206) 111 = .ok (.goto 4, 3) := by decide +kernel
theorem dc_206_114 : decode (ax_code 206) 114 = .ok (.iconst 0, 1) := by decide +kernel
theorem dc_206_115 : decode (ax_code 206) 115 = .ok (.ireturn, 1) := by decide +kernel
theorem dc_206_116 : decode (ax_code 206) 116 = .ok (.iload 4, 2) := by decide +kernel
theorem dc_206_118 : decode (ax_code 206) 118 = .ok (.ifCond .eq 22, 3) := by decide +kernel
theorem dc_206_121 : decode (ax_code 206) 121 = .ok (.aload_n 0, 1) := by decide +kernel
theorem dc_206_122 : decode (ax_code 206) 122 = .ok (.getfield 36, 3) := by decide +kernel
theorem dc_206_125 : decode (ax_code 206) 125 = .ok (.iload_n 2, 1) := by decide +kernel
theorem dc_206_126 : decode (ax_code 206) 126 = .ok (.iaload, 1) := by decide +kernel
theorem dc_206_127 : decode (ax_code 206) 127 = .ok (.aload_n 0, 1) := by decide +kernel
theorem dc_206_128 : decode (ax_code 206) 128 = .ok (.getfield 36, 3) := by decide +kernel
theorem dc_206_131 : decode (ax_code 206) 131 = .ok (.iload_n 3, 1) := by decide +kernel
theorem dc_206_132 : decode (ax_code 206) 132 = .ok (.iaload, 1) := by decide +kernel
theorem dc_206_133 : decode (ax_code 206) 133 = .ok (.if_icmp .le 7, 3) := by decide +kernel
theorem dc_206_136 : decode (ax_code 206) 136 = .ok (.iconst 1, 1) := by decide +kernel
theorem dc_206_137 : decode (ax_code 206) 137 = .ok (.goto 4, 3) := by decide +kernel
theorem dc_206_140 : decode (ax_code 206) 140 = .ok (.iconst 0, 1) := by decide +kernel
theorem dc_206_141 : decode (ax_code 206) 141 = .ok (.ireturn, 1) := by decide +kernel
theorem dc_206_142 : decode (ax_code 206) 142 = .ok (.iload 4, 2) := by decide +kernel
theorem dc_206_144 : decode (ax_code 206) 144 = .ok (.ifCond .eq 25, 3) := by decide +kernel
theorem dc_206_147 : decode (ax_code 206) 147 = .ok (.aload_n 0, 1) := by decide +kernel
theorem dc_206_148 : decode (ax_code 206) 148 = .ok (.getfield 36, 3) := by decide +kernel
theorem dc_206_151 : decode (ax_code 206) 151 = .ok (.iload_n 2, 1) := by decide +kernel
theorem dc_206_152 : decode (ax_code 206) 152 = .ok (.iaload, 1) := by decide +kernel
theorem dc_206_153 : decode (ax_code 206) 153 = .ok (.aload_n 0, 1) := by decide +kernel
theorem dc_206_154 : decode (ax_code 206) 154 = .ok (.getfield 36, 3) := by decide +kernel
theorem dc_206_157 : decode (ax_code 206) 157 = .ok (.iload_n 3, 1) := by decide +kernel
theorem dc_206_158 : decode (ax_code 206) 158 = .ok (.iaload, 1) := by decide +kernel
theorem dc_206_159 : decode (ax_code 206) 159 = .ok (.iadd, 1) := by decide +kernel
theorem dc_206_160 : decode (ax_code 206) 160 = .ok (.iconst 2, 1) := by decide +kernel
theorem dc_206_161 : decode (ax_code 206) 161 = .ok (.irem, 1) := by decide +kernel
theorem dc_206_162 : decode (ax_code 206) 162 = .ok (.ifCond .ne 7, 3) := by decide +kernel
theorem dc_206_165 : decode (ax_code 206) 165 = .ok (.iconst 1, 1) := by decide +kernel
theorem dc_206_166 : decode (ax_code 206) 166 = .ok (.goto 4, 3) := by decide +kernel
theorem dc_206_169 : decode (ax_code 206) 169 = .ok (.iconst 0, 1) := by decide +kernel
theorem dc_206_170 : decode (ax_code 206) 170 = .ok (.ireturn, 1) := by decide +kernel
theorem dc_206_171 : decode (ax_code 206) 171 = .ok (.iload_n 2, 1) := by decide +kernel
theorem dc_206_172 : decode (ax_code 206) 172 = .ok (.iload_n 1, 1) := by decide +kernel
theorem dc_206_173 : decode (ax_code 206) 173 = .ok (.if_icmp .ge 15, 3) := by decide +kernel
theorem dc_206_176 : decode (ax_code 206) 176 = .ok (.aload_n 0, 1) := by decide +kernel
theorem dc_206_177 : decode (ax_code 206) 177 = .ok (.iload_n 2, 1) := by decide +kernel
theorem dc_206_178 : decode (ax_code 206) 178 = .ok (.invokevirtual 263, 3) := by decide +kernel
theorem dc_206_181 : decode (ax_code 206) 181 = .ok (.ifCond .ne 7, 3) := by decide +kernel
theorem dc_206_184 : decode (ax_code 206) 184 = .ok (.iconst 1, 1) := by decide +kernel
theorem dc_206_185 : decode (ax_code 206) 185 = .ok (.goto 4, 3) := by decide +kernel
theorem dc_206_188 : decode (ax_code 206) 188 = .ok (.iconst 0, 1) := by decide +kernel
theorem dc_206_189 : decode (ax_code 206) 189 = .ok (.ireturn, 1) := by decide +kernel
theorem dc_207_0 : decode (ax_code 207) 0 = .ok (.iload_n 2, 1) := by decide +kernel
theorem dc_207_1 : decode (ax_code 207) 1 = .ok (.bipush 7, 2) := by decide +kernel
theorem dc_207_3 : decode (ax_code 207) 3 = .ok (.iload_n 3, 1) := by decide +kernel
theorem dc_207_4 : decode (ax_code 207) 4 = .ok (.imul, 1) := by decide +kernel
theorem dc_207_5 : decode (ax_code 207) 5 = .ok (.iadd, 1) := by decide +kernel
theorem dc_207_6 : decode (ax_code 207) 6 = .ok (.istore 4, 2) := by decide +kernel
theorem dc_207_8 : decode (ax_code 207) 8 = .ok (.aload_n 1, 1) := by decide +kernel
theorem dc_207_9 : decode (ax_code 207) 9 = .ok (.iload 4, 2) := by decide +kernel
theorem dc_207_11 : decode (ax_code 207) 11 = .ok (.iconst 1, 1) := by decide +kernel
theorem dc_207_12 : decode (ax_code 207) 12 = .ok (.iadd, 1) := by decide +kernel
theorem dc_207_13 : decode (ax_code 207) 13 = .ok (.iaload, 1) := by decide +kernel
theorem dc_207_14 : decode (ax_code 207) 14 = .ok (.istore 5, 2) := by decide +kernel
theorem dc_207_16 : decode (ax_code 207) 16 = .ok (.aload_n 1, 1) := by decide +kernel
theorem dc_207_17 : decode (ax_code 207) 17 = .ok (.iload 4, 2) := by decide +kernel
theorem dc_207_19 : decode (ax_code 207) 19 = .ok (.iconst 2, 1) := by decide +kernel
theorem dc_207_20 : decode (ax_code 207) 20 = .ok (.iadd, 1) := by decide +kernel
theorem dc_207_21 : decode (ax_code 207) 21 = .ok (.iaload, 1) := by decide +kernel
theorem dc_207_22 : decode (ax_code 207) 22 = .ok (.istore 6, 2) := by decide +kernel
theorem dc_207_24 : decode (ax_code 207) 24 = .ok (.aload_n 1, 1) := by decide +kernel
theorem dc_207_25 : decode (ax_code 207) 25 = .ok (.iload 4, 2) := by decide +kernel
theorem dc_207_27 : decode (ax_code 207) 27 = .ok (.bipush 6, 2) := by decide +kernel
theorem dc_207_29 : decode (ax_code 207) 29 = .ok (.iadd, 1) := by decide +kernel
theorem dc_207_30 : decode (ax_code 207) 30 = .ok (.iaload, 1) := by decide +kernel
theorem dc_207_31 : decode (ax_code 207) 31 = .ok (.istore 7, 2) := by decide +kernel
theorem dc_207_33 : decode (ax_code 207) 33 = .ok (.aload_n 1, 1) := by decide +kernel
theorem dc_207_34 : decode (ax_code 207) 34 = .ok (.iload 4, 2) := by decide +kernel
theorem dc_207_36 : decode (ax_code 207) 36 = .ok (.iconst 5, 1) := by decide +kernel
theorem dc_207_37 : decode (ax_code 207) 37 = .ok (.iadd, 1) := by decide +kernel
theorem dc_207_38 : decode (ax_code 207) 38 = .ok (.iaload, 1) := by decide +kernel
theorem dc_207_39 : decode (ax_code 207) 39 = .ok (.tableswitch 138 0 3 #[29, 32, 75, 116], 29) := by decide +kernel
theorem dc_207_68 : decode (ax_code 207) 68 = .ok (.iload 7, 2) := by decide +kernel
theorem dc_207_70 : decode (ax_code 207) 70 = .ok (.ireturn, 1) := by decide +kernel
theorem dc_207_71 : decode (ax_code 207) 71 = .ok (.aload_n 0, 1) := by decide +kernel
theorem dc_207_72 : decode (ax_code 207) 72 = .ok (.iload 5, 2) := by decide +kernel
theorem dc_207_74 : decode (ax_code 207) 74 = .ok (.invokevirtual 174, 3) := by decide +kernel
theorem dc_207_77 : decode (ax_code 207) 77 = .ok (.ifCond .eq 35, 3) := by decide +kernel
theorem dc_207_80 : decode (ax_code 207) 80 = .ok (.aload_n 0, 1) := by decide +kernel
theorem dc_207_81 : decode (ax_code 207) 81 = .ok (.getfield 36, 3) := by decide +kernel
theorem dc_207_84 : decode (ax_code 207) 84 = .ok (.iload 5, 2) := by decide +kernel
theorem dc_207_86 : decode (ax_code 207) 86 = .ok (.iaload, 1) := by decide +kernel
theorem dc_207_87 : decode (ax_code 207) 87 = .ok (.aload_n 0, 1) := by decide +kernel
theorem dc_207_88 : decode (ax_code 207) 88 = .ok (.getfield 7, 3) := by decide +kernel
theorem dc_207_91 : decode (ax_code 207) 91 = .ok (.if_icmp .ge 21, 3) := by decide +kernel
theorem dc_207_94 : decode (ax_code 207) 94 = .ok (.iload 7, 2) := by decide +kernel
theorem dc_207_96 : decode (ax_code 207) 96 = .ok (.aload_n 0, 1) := by decide +kernel
theorem dc_207_97 : decode (ax_code 207) 97 = .ok (.getfield 13, 3) := by decide +kernel
theorem dc_207_100 : decode (ax_code 207) 100 = .ok (.aload_n 0, 1) := by decide +kernel
theorem dc_207_101 : decode (ax_code 207) 101 = .ok (.getfield 36, 3) := by decide +kernel
theorem dc_207_104 : decode (ax_code 207) 104 = .ok (.iload 5, 2) := by decide +kernel
theorem dc_207_106 : decode (ax_code 207) 106 = .ok (.iaload, 1) := by decide +kernel
theorem dc_207_107 : decode (ax_code 207) 107 = .ok (.iaload, 1) := by decide +kernel
theorem dc_207_108 : decode (ax_code 207) 108 = .ok (.imul, 1) := by decide +kernel
theorem dc_207_109 : decode (ax_code 207) 109 = .ok (.goto 4, 3) := by decide +kernel
theorem dc_207_112 : decode (ax_code 207) 112 = .ok (.iconst 0, 1) := by decide +kernel
theorem dc_207_113 : decode (ax_code 207) 113 = .ok (.ireturn, 1) := by decide +kernel
theorem dc_207_114 : decode (ax_code 207) 114 = .ok (.aload_n 0, 1) := by decide +kernel
theorem dc_207_115 : decode (ax_code 207) 115 = .ok (.iload 5, 2) := by decide +kernel
theorem dc_207_117 : decode (ax_code 207) 117 = .ok (.invokevirtual 174, 3) := by decide +kernel
theorem dc_207_120 : decode (ax_code 207) 120 = .ok (.ifCond .eq 33, 3) := by decide +kernel
theorem dc_207_123 : decode (ax_code 207) 123 = .ok (.aload_n 0, 1) := by decide +kernel
theorem dc_207_124 : decode (ax_code 207) 124 = .ok (.iload 6, 2) := by decide +kernel
theorem dc_207_126 : decode (ax_code 207) 126 = .ok (.invokevirtual 174, 3) := by decide +kernel
theorem dc_207_129 : decode (ax_code 207) 129 = .ok (.ifCond .eq 24, 3) := by decide +kernel
theorem dc_207_132 : decode (ax_code 207) 132 = .ok (.iload 7, 2) := by decide +kernel
theorem dc_207_134 : decode (ax_code 207) 134 = .ok (.aload_n 0, 1) := by decide +kernel
theorem dc_207_135 : decode (ax_code 207) 135 = .ok (.getfield 36, 3) := by decide +kernel
theorem dc_207_138 : decode (ax_code 207) 138 = .ok (.iload 5, 2) := by decide +kernel
theorem dc_207_140 : decode (ax_code 207) 140 = .ok (.iaload, 1) := by decide +kernel
theorem dc_207_141 : decode (ax_code 207) 141 = .ok (.aload_n 0, 1) := by decide +kernel
theorem dc_207_142 : decode (ax_code 207) 142 = .ok (.getfield 36, 3) := by decide +kernel
theorem dc_207_145 : decode (ax_code 207) 145 = .ok (.iload 6, 2) := by decide +kernel
theorem dc_207_147 : decode (ax_code 207) 147 = .ok (.iaload, 1) := by decide +kernel
theorem dc_207_148 : decode (ax_code 207) 148 = .ok (.isub, 1) := by decide +kernel
theorem dc_207_149 : decode (ax_code 207) 149 = .ok (.imul, 1) := by decide +kernel
theorem dc_207_150 : decode (ax_code 207) 150 = .ok (.goto 4, 3) := by decide +kernel
theorem dc_207_153 : decode (ax_code 207) 153 = .ok (.iconst 0, 1) := by decide +kernel
theorem dc_207_154 : decode (ax_code 207) 154 = .ok (.ireturn, 1) := by decide +kernel
theorem dc_207_155 : decode (ax_code 207) 155 = .ok (.iload 5, 2) := by decide +kernel
theorem dc_207_157 : decode (ax_code 207) 157 = .ok (.iload_n 3, 1) := by decide +kernel
theorem dc_207_158 : decode (ax_code 207) 158 = .ok (.if_icmp .ge 17, 3) := by decide +kernel
theorem dc_207_161 : decode (ax_code 207) 161 = .ok (.aload_n 0, 1) := by decide +kernel
theorem dc_207_162 : decode (ax_code 207) 162 = .ok (.aload_n 1, 1) := by decide +kernel
theorem dc_207_163 : decode (ax_code 207) 163 = .ok (.iload_n 2, 1) := by decide +kernel
theorem dc_207_164 : decode (ax_code 207) 164 = .ok (.iload 5, 2) := by decide +kernel
theorem dc_207_166 : decode (ax_code 207) 166 = .ok (.invokevirtual 266, 3) := by decide +kernel
theorem dc_207_169 : decode (ax_code 207) 169 = .ok (.iload 7, 2) := by decide +kernel
theorem dc_207_171 : decode (ax_code 207) 171 = .ok (.iadd, 1) := by decide +kernel
theorem dc_207_172 : decode (ax_code 207) 172 = .ok (.goto 4, 3) := by decide +kernel
theorem dc_207_175 : decode (ax_code 207) 175 = .ok (.iconst 0, 1) := by decide +kernel
theorem dc_207_176 : decode (ax_code 207) 176 = .ok (.ireturn, 1) := by decide +kernel
theorem dc_207_177 : decode (ax_code 207) 177 = .ok (.aload_n 0, 1) := by decide +kernel
theorem dc_207_178 : decode (ax_code 207) 178 = .ok (.iload 5, 2) := by decide +kernel
theorem dc_207_180 : decode (ax_code 207) 180 = .ok (.invokevirtual 174, 3) := by decide +kernel
theorem dc_207_183 : decode (ax_code 207) 183 = .ok (.ifCond .ne 7, 3) := by decide +kernel
theorem dc_207_186 : decode (ax_code 207) 186 = .ok (.iconst 0, 1) := by decide +kernel
theorem dc_207_187 : decode (ax_code 207) 187 = .ok (.goto 22, 3) := by decide +kernel
theorem dc_207_190 : decode (ax_code 207) 190 = .ok (.aload_n 0, 1) := by decide +kernel
theorem dc_207_191 : decode (ax_code 207) 191 = .ok (.getfield 36, 3) := by decide +kernel
theorem dc_207_194 : decode (ax_code 207) 194 = .ok (.iload 5, 2) := by decide +kernel
theorem dc_207_196 : decode (ax_code 207) 196 = .ok (.iaload, 1) := by decide +kernel
theorem dc_207_197 : decode (ax_code 207) 197 = .ok (.ifCond .ne 10, 3) := by decide +kernel
theorem dc_207_200 : decode (ax_code 207) 200 = .ok (.iconst 2, 1) := by decide +kernel
theorem dc_207_201 : decode (ax_code 207) 201 = .ok (.iload 7, 2) := by decide +kernel
theorem dc_207_203 : decode (ax_code 207) 203 = .ok (.imul, 1) := by decide +kernel
theorem dc_207_204 : decode (ax_code 207) 204 = .ok (.goto 5, 3) := by decide +kernel
theorem dc_207_207 : decode (ax_code 207) 207 = .ok (.iload 7, 2) := by decide +kernel
theorem dc_207_209 : decode (ax_code 207) 209 = .ok (.ireturn, 1) := by decide +kernel
theorem dc_208_0 : decode (ax_code 208) 0 = .ok (.aload_n 0, 1) := by decide +kernel
theorem dc_208_1 : decode (ax_code 208) 1 = .ok (.getfield 139, 3) := by decide +kernel
theorem dc_208_4 : decode (ax_code 208) 4 = .ok (.ifCond .ne 6, 3) := by decide +kernel
theorem dc_208_7 : decode (ax_code 208) 7 = .ok (.bipush (-3), 2) := by decide +kernel
theorem dc_208_9 : decode (ax_code 208) 9 = .ok (.ireturn, 1) := by decide +kernel
theorem dc_208_10 : decode (ax_code 208) 10 = .ok (.aload_n 0, 1) := by decide +kernel
theorem dc_208_11 : decode (ax_code 208) 11 = .ok (.dup, 1) := by decide +kernel
theorem dc_208_12 : decode (ax_code 208) 12 = .ok (.getfield 139, 3) := by decide +kernel
theorem dc_208_15 : decode (ax_code 208) 15 = .ok (.iconst 1, 1) := by decide +kernel
theorem dc_208_16 : decode (ax_code 208) 16 = .ok (.isub, 1) := by decide +kernel
theorem dc_208_17 : decode (ax_code 208) 17 = .ok (.putfield 139, 3) := by decide +kernel
theorem dc_208_20 : decode (ax_code 208) 20 = .ok (.aload_n 0, 1) := by decide +kernel
theorem dc_208_21 : decode (ax_code 208) 21 = .ok (.getfield 139, 3) := by decide +kernel
theorem dc_208_24 : decode (ax_code 208) 24 = .ok (.ireturn, 1) := by decide +kernel
theorem dc_209_0 : decode (ax_code 209) 0 = .ok (.iload_n 1, 1) := by decide +kernel
theorem dc_209_1 : decode (ax_code 209) 1 = .ok (.invokestatic 149, 3) := by decide +kernel
theorem dc_209_4 : decode (ax_code 209) 4 = .ok (.ifCond .eq 11, 3) := by decide +kernel
theorem dc_209_7 : decode (ax_code 209) 7 = .ok (.aload_n 0, 1) := by decide +kernel
theorem dc_209_8 : decode (ax_code 209) 8 = .ok (.iload_n 2, 1) := by decide +kernel
theorem dc_209_9 : decode (ax_code 209) 9 = .ok (.invokevirtual 190, 3) := by decide +kernel
theorem dc_209_12 : decode (ax_code 209) 12 = .ok (.ifCond .ne 9, 3) := by decide +kernel
theorem dc_209_15 : decode (ax_code 209) 15 = .ok (.bipush (-2), 2) := by decide +kernel
theorem dc_209_17 : decode (ax_code 209) 17 = .ok (.invokestatic 203, 3) := by decide +kernel
theorem dc_209_20 : decode (ax_code 209) 20 = .ok (.lreturn, 1) := by decide +kernel
theorem dc_209_21 : decode (ax_code 209) 21 = .ok (.aload_n 0, 1) := by decide +kernel
theorem dc_209_22 : decode (ax_code 209) 22 = .ok (.iload_n 2, 1) := by decide +kernel
theorem dc_209_23 : decode (ax_code 209) 23 = .ok (.aload_n 0, 1) := by decide +kernel
theorem dc_209_24 : decode (ax_code 209) 24 = .ok (.getfield 127, 3) := by decide +kernel
theorem dc_209_27 : decode (ax_code 209) 27 = .ok (.invokevirtual 193, 3) := by decide +kernel
theorem dc_209_30 : decode (ax_code 209) 30 = .ok (.aload_n 0, 1) := by decide +kernel
theorem dc_209_31 : decode (ax_code 209) 31 = .ok (.iload_n 1, 1) := by decide +kernel
theorem dc_209_32 : decode (ax_code 209) 32 = .ok (.invokevirtual 276, 3) := by decide +kernel
theorem dc_209_35 : decode (ax_code 209) 35 = .ok (.i2l, 1) := by decide +kernel
theorem dc_209_36 : decode (ax_code 209) 36 = .ok (.lstore_n 3, 1) := by decide +kernel
theorem dc_209_37 : decode (ax_code 209) 37 = .ok (.lload_n 3, 1) := by decide +kernel
theorem dc_209_38 : decode (ax_code 209) 38 = .ok (.aload_n 0, 1) := by decide +kernel
theorem dc_209_39 : decode (ax_code 209) 39 = .ok (.getfield 32, 3) := by decide +kernel
theorem dc_209_42 : decode (ax_code 209) 42 = .ok (.invokestatic 279, 3) := by decide +kernel
theorem dc_209_45 : decode (ax_code 209) 45 = .ok (.ifCond .eq 12, 3) := by decide +kernel
theorem dc_209_48 : decode (ax_code 209) 48 = .ok (.lload_n 3, 1) := by decide +kernel
theorem dc_209_49 : decode (ax_code 209) 49 = .ok (.aload_n 0, 1) := by decide +kernel
theorem dc_209_50 : decode (ax_code 209) 50 = .ok (.getfield 32, 3) := by decide +kernel
theorem dc_209_53 : decode (ax_code 209) 53 = .ok (.lmul, 1) := by decide +kernel
theorem dc_209_54 : decode (ax_code 209) 54 = .ok (.goto 8, 3) := by decide +kernel
theorem dc_209_57 : decode (ax_code 209) 57 = .ok (.bipush (-5), 2) := by decide +kernel
theorem dc_209_59 : decode (ax_code 209) 59 = .ok (.invokestatic 203, 3) := by decide +kernel
theorem dc_209_62 : decode (ax_code 209) 62 = .ok (.lreturn, 1) := by decide +kernel
theorem dc_210_0 : decode (ax_code 210) 0 = .ok (.iconst 0, 1) := by decide +kernel
theorem dc_210_1 : decode (ax_code 210) 1 = .ok (.istore_n 2, 1) := by decide +kernel
theorem dc_210_2 : decode (ax_code 210) 2 = .ok (.iconst 0, 1) := by decide +kernel
theorem dc_210_3 : decode (ax_code 210) 3 = .ok (.istore_n 3, 1) := by decide +kernel
theorem dc_210_4 : decode (ax_code 210) 4 = .ok (.iload_n 3, 1) := by decide +kernel
theorem dc_210_5 : decode (ax_code 210) 5 = .ok (.aload_n 0, 1) := by decide +kernel
theorem dc_210_6 : decode (ax_code 210) 6 = .ok (.getfield 139, 3) := by decide +kernel
theorem dc_210_9 : decode (ax_code 210) 9 = .ok (.if_icmp .ge 83, 3) := by decide +kernel
theorem dc_210_12 : decode (ax_code 210) 12 = .ok (.aload_n 0, 1) := by decide +kernel
theorem dc_210_13 : decode (ax_code 210) 13 = .ok (.getfield 29, 3) := by decide +kernel
theorem dc_210_16 : decode (ax_code 210) 16 = .ok (.bipush 7, 2) := by decide +kernel
theorem dc_210_18 : decode (ax_code 210) 18 = .ok (.iload_n 3, 1) := by decide +kernel
theorem dc_210_19 : decode (ax_code 210) 19 = .ok (.imul, 1) := by decide +kernel
theorem dc_210_20 : decode (ax_code 210) 20 = .ok (.iconst 4, 1) := by decide +kernel
theorem dc_210_21 : decode (ax_code 210) 21 = .ok (.iadd, 1) := by decide +kernel
theorem dc_210_22 : decode (ax_code 210) 22 = .ok (.iaload, 1) := by decide +kernel
theorem dc_210_23 : decode (ax_code 210) 23 = .ok (.iload_n 1, 1) := by decide +kernel
theorem dc_210_24 : decode (ax_code 210) 24 = .ok (.if_icmp .ne 7, 3) := by decide +kernel
theorem dc_210_27 : decode (ax_code 210) 27 = .ok (.iconst 1, 1) := by decide +kernel
theorem dc_210_28 : decode (ax_code 210) 28 = .ok (.goto 23, 3) := by decide +kernel
theorem dc_210_31 : decode (ax_code 210) 31 = .ok (.aload_n 0, 1) := by decide +kernel
theorem dc_210_32 : decode (ax_code 210) 32 = .ok (.getfield 29, 3) := by decide +kernel
theorem dc_210_35 : decode (ax_code 210) 35 = .ok (.bipush 7, 2) := by decide +kernel
theorem dc_210_37 : decode (ax_code 210) 37 = .ok (.iload_n 3, 1) := by decide +kernel
theorem dc_210_38 : decode (ax_code 210) 38 = .ok (.imul, 1) := by decide +kernel
theorem dc_210_39 : decode (ax_code 210) 39 = .ok (.iconst 3, 1) := by decide +kernel
theorem dc_210_40 : decode (ax_code 210) 40 = .ok (.iadd, 1) := by decide +kernel
theorem dc_210_41 : decode (ax_code 210) 41 = .ok (.iaload, 1) := by decide +kernel
theorem dc_210_42 : decode (ax_code 210) 42 = .ok (.iload_n 1, 1) := by decide +kernel
theorem dc_210_43 : decode (ax_code 210) 43 = .ok (.if_icmp .ne 7, 3) := by decide +kernel
theorem dc_210_46 : decode (ax_code 210) 46 = .ok (.iconst (-1), 1) := by decide +kernel
theorem dc_210_47 : decode (ax_code 210) 47 = .ok (.goto 4, 3) := by decide +kernel
theorem dc_210_50 : decode (ax_code 210) 50 = .ok (.iconst 0, 1) := by decide +kernel
theorem dc_210_51 : decode (ax_code 210) 51 = .ok (.istore 4, 2) := by decide +kernel
theorem dc_210_53 : decode (ax_code 210) 53 = .ok (.iload_n 2, 1) := by decide +kernel
theorem dc_210_54 : decode (ax_code 210) 54 = .ok (.iload 4, 2) := by decide +kernel
theorem dc_210_56 : decode (ax_code 210) 56 = .ok (.ifCond .eq 27, 3) := by decide +kernel
theorem dc_210_59 : decode (ax_code 210) 59 = .ok (.aload_n 0, 1) := by decide +kernel
theorem dc_210_60 : decode (ax_code 210) 60 = .ok (.iload_n 3, 1) := by decide +kernel
theorem dc_210_61 : decode (ax_code 210) 61 = .ok (.invokevirtual 263, 3) := by decide +kernel
theorem dc_210_64 : decode (ax_code 210) 64 = .ok (.ifCond .eq 19, 3) := by decide +kernel
theorem dc_210_67 : decode (ax_code 210) 67 = .ok (.iload 4, 2) := by decide +kernel
theorem dc_210_69 : decode (ax_code 210) 69 = .ok (.aload_n 0, 1) := by decide +kernel
theorem dc_210_70 : decode (ax_code 210) 70 = .ok (.aload_n 0, 1) := by decide +kernel
theorem dc_210_71 : decode (ax_code 210) 71 = .ok (.getfield 29, 3) := by decide +kernel
theorem dc_210_74 : decode (ax_code 210) 74 = .ok (.iconst 0, 1) := by decide +kernel
theorem dc_210_75 : decode (ax_code 210) 75 = .ok (.iload_n 3, 1) := by decide +kernel
theorem dc_210_76 : decode (ax_code 210) 76 = .ok (.invokevirtual 266, 3) := by decide +kernel
theorem dc_210_79 : decode (ax_code 210) 79 = .ok (.imul, 1) := by decide +kernel
theorem dc_210_80 : decode (ax_code 210) 80 = .ok (.goto 4, 3) := by decide +kernel
theorem dc_210_83 : decode (ax_code 210) 83 = .ok (.iconst 0, 1) := by decide +kernel
theorem dc_210_84 : decode (ax_code 210) 84 = .ok (.iadd, 1) := by decide +kernel
theorem dc_210_85 : decode (ax_code 210) 85 = .ok (.istore_n 2, 1) := by decide +kernel
theorem dc_210_86 : decode (ax_code 210) 86 = .ok (.iinc 3 1, 3) := by decide +kernel
theorem dc_210_89 : decode (ax_code 210) 89 = .ok (.goto (-85), 3) := by decide +kernel
theorem dc_210_92 : decode (ax_code 210) 92 = .ok (.iload_n 2, 1) := by decide +kernel
theorem dc_210_93 : decode (ax_code 210) 93 = .ok (.ireturn, 1) := by decide +kernel
theorem dc_211_0 : decode (ax_code 211) 0 = .ok (.lload_n 0, 1) := by decide +kernel
theorem dc_211_1 : decode (ax_code 211) 1 = .ok (.lload_n 2, 1) := by decide +kernel
theorem dc_211_2 : decode (ax_code 211) 2 = .ok (.lmul, 1) := by decide +kernel
theorem dc_211_3 : decode (ax_code 211) 3 = .ok (.lstore 4, 2) := by decide +kernel
theorem dc_211_5 : decode (ax_code 211) 5 = .ok (.lload_n 0, 1) := by decide +kernel
theorem dc_211_6 : decode (ax_code 211) 6 = .ok (.lconst 0, 1) := by decide +kernel
theorem dc_211_7 : decode (ax_code 211) 7 = .ok (.lcmp, 1) := by decide +kernel
theorem dc_211_8 : decode (ax_code 211) 8 = .ok (.ifCond .eq 50, 3) := by decide +kernel
theorem dc_211_11 : decode (ax_code 211) 11 = .ok (.lload_n 2, 1) := by decide +kernel
theorem dc_211_12 : decode (ax_code 211) 12 = .ok (.lconst 0, 1) := by decide +kernel
theorem dc_211_13 : decode (ax_code 211) 13 = .ok (.lcmp, 1) := by decide +kernel
theorem dc_211_14 : decode (ax_code 211) 14 = .ok (.ifCond .eq 44, 3) := by decide +kernel
theorem dc_211_17 : decode (ax_code 211) 17 = .ok (.lload 4, 2) := by decide +kernel
theorem dc_211_19 : decode (ax_code 211) 19 = .ok (.lload_n 2, 1) := by decide +kernel
theorem dc_211_20 : decode (ax_code 211) 20 = .ok (.ldiv, 1) := by decide +kernel
theorem dc_211_21 : decode (ax_code 211) 21 = .ok (.lload_n 0, 1) := by decide +kernel
theorem dc_211_22 : decode (ax_code 211) 22 = .ok (.lcmp, 1) := by decide +kernel
theorem dc_211_23 : decode (ax_code 211) 23 = .ok (.ifCond .ne 39, 3) := by decide +kernel
theorem dc_211_26 : decode (ax_code 211) 26 = .ok (.lload_n 0, 1) := by decide +kernel
theorem dc_211_27 : decode (ax_code 211) 27 = .ok (.ldc2_w 272, 3) := by decide +kernel
theorem dc_211_30 : decode (ax_code 211) 30 = .ok (.lcmp, 1) := by decide +kernel
theorem dc_211_31 : decode (ax_code 211) 31 = .ok (.ifCond .ne 11, 3) := by decide +kernel
theorem dc_211_34 : decode (ax_code 211) 34 = .ok (.lload_n 2, 1) := by decide +kernel
theorem dc_211_35 : decode (ax_code 211) 35 = .ok (.ldc2_w 274, 3) := by decide +kernel
theorem dc_211_38 : decode (ax_code 211) 38 = .ok (.lcmp, 1) := by decide +kernel
theorem dc_211_39 : decode (ax_code 211) 39 = .ok (.ifCond .eq 23, 3) := by decide +kernel
theorem dc_211_42 : decode (ax_code 211) 42 = .ok (.lload_n 2, 1) := by decide +kernel
theorem dc_211_43 : decode (ax_code 211) 43 = .ok (.ldc2_w 272, 3) := by decide +kernel
theorem dc_211_46 : decode (ax_code 211) 46 = .ok (.lcmp, 1) := by decide +kernel
theorem dc_211_47 : decode (ax_code 211) 47 = .ok (.ifCond .ne 11, 3) := by decide +kernel
theorem dc_211_50 : decode (ax_code 211) 50 = .ok (.lload_n 0, 1) := by decide +kernel
theorem dc_211_51 : decode (ax_code 211) 51 = .ok (.ldc2_w 274, 3) := by decide +kernel
theorem dc_211_54 : decode (ax_code 211) 54 = .ok (.lcmp, 1) := by decide +kernel
theorem dc_211_55 : decode (ax_code 211) 55 = .ok (.ifCond .eq 7, 3) := by decide +kernel
theorem dc_211_58 : decode (ax_code 211) 58 = .ok (.iconst 1, 1) := by decide +kernel
theorem dc_211_59 : decode (ax_code 211) 59 = .ok (.goto 4, 3) := by decide +kernel
theorem dc_211_62 : decode (ax_code 211) 62 = .ok (.iconst 0, 1) := by decide +kernel
theorem dc_211_63 : decode (ax_code 211) 63 = .ok (.ireturn, 1) := by decide +kernel
theorem dc_212_0 : decode (ax_code 212) 0 = .ok (.iload_n 1, 1) := by decide +kernel
theorem dc_212_1 : decode (ax_code 212) 1 = .ok (.invokestatic 149, 3) := by decide +kernel
theorem dc_212_4 : decode (ax_code 212) 4 = .ok (.ifCond .eq 10, 3) := by decide +kernel
theorem dc_212_7 : decode (ax_code 212) 7 = .ok (.iload_n 2, 1) := by decide +kernel
theorem dc_212_8 : decode (ax_code 212) 8 = .ok (.invokestatic 200, 3) := by decide +kernel
theorem dc_212_11 : decode (ax_code 212) 11 = .ok (.ifCond .ne 9, 3) := by decide +kernel
theorem dc_212_14 : decode (ax_code 212) 14 = .ok (.bipush (-2), 2) := by decide +kernel
theorem dc_212_16 : decode (ax_code 212) 16 = .ok (.invokestatic 203, 3) := by decide +kernel
theorem dc_212_19 : decode (ax_code 212) 19 = .ok (.lreturn, 1) := by decide +kernel
theorem dc_212_20 : decode (ax_code 212) 20 = .ok (.aload_n 0, 1) := by decide +kernel
theorem dc_212_21 : decode (ax_code 212) 21 = .ok (.iload_n 1, 1) := by decide +kernel
theorem dc_212_22 : decode (ax_code 212) 22 = .ok (.invokevirtual 283, 3) := by decide +kernel
theorem dc_212_25 : decode (ax_code 212) 25 = .ok (.lstore_n 3, 1) := by decide +kernel
theorem dc_212_26 : decode (ax_code 212) 26 = .ok (.aload_n 0, 1) := by decide +kernel
theorem dc_212_27 : decode (ax_code 212) 27 = .ok (.invokevirtual 207, 3) := by decide +kernel
theorem dc_212_30 : decode (ax_code 212) 30 = .ok (.lstore 5, 2) := by decide +kernel
theorem dc_212_32 : decode (ax_code 212) 32 = .ok (.lload_n 3, 1) := by decide +kernel
theorem dc_212_33 : decode (ax_code 212) 33 = .ok (.lload 5, 2) := by decide +kernel
theorem dc_212_35 : decode (ax_code 212) 35 = .ok (.invokestatic 228, 3) := by decide +kernel
theorem dc_212_38 : decode (ax_code 212) 38 = .ok (.lstore 7, 2) := by decide +kernel
theorem dc_212_40 : decode (ax_code 212) 40 = .ok (.lload_n 3, 1) := by decide +kernel
theorem dc_212_41 : decode (ax_code 212) 41 = .ok (.lload 7, 2) := by decide +kernel
theorem dc_212_43 : decode (ax_code 212) 43 = .ok (.ldiv, 1) := by decide +kernel
theorem dc_212_44 : decode (ax_code 212) 44 = .ok (.lstore_n 3, 1) := by decide +kernel
theorem dc_212_45 : decode (ax_code 212) 45 = .ok (.lload 5, 2) := by decide +kernel
theorem dc_212_47 : decode (ax_code 212) 47 = .ok (.lload 7, 2) := by decide +kernel
theorem dc_212_49 : decode (ax_code 212) 49 = .ok (.ldiv, 1) := by decide +kernel
theorem dc_212_50 : decode (ax_code 212) 50 = .ok (.lstore 5, 2) := by decide +kernel
theorem dc_212_52 : decode (ax_code 212) 52 = .ok (.aload_n 0, 1) := by decide +kernel
theorem dc_212_53 : decode (ax_code 212) 53 = .ok (.getfield 32, 3) := by decide +kernel
theorem dc_212_56 : decode (ax_code 212) 56 = .ok (.lload 5, 2) := by decide +kernel
theorem dc_212_58 : decode (ax_code 212) 58 = .ok (.invokestatic 228, 3) := by decide +kernel
theorem dc_212_61 : decode (ax_code 212) 61 = .ok (.lstore 7, 2) := by decide +kernel
theorem dc_212_63 : decode (ax_code 212) 63 = .ok (.lload 5, 2) := by decide +kernel
theorem dc_212_65 : decode (ax_code 212) 65 = .ok (.lload 7, 2) := by decide +kernel
theorem dc_212_67 : decode (ax_code 212) 67 = .ok (.ldiv, 1) := by decide +kernel
theorem dc_212_68 : decode (ax_code 212) 68 = .ok (.lstore 5, 2) := by decide +kernel
theorem dc_212_70 : decode (ax_code 212) 70 = .ok (.lload_n 3, 1) := by decide +kernel
theorem dc_212_71 : decode (ax_code 212) 71 = .ok (.lconst 0, 1) := by decide +kernel
theorem dc_212_72 : decode (ax_code 212) 72 = .ok (.lcmp, 1) := by decide +kernel
theorem dc_212_73 : decode (ax_code 212) 73 = .ok (.ifCond .ne 6, 3) := by decide +kernel
theorem dc_212_76 : decode (ax_code 212) 76 = .ok (.iload_n 2, 1) := by decide +kernel
theorem dc_212_77 : decode (ax_code 212) 77 = .ok (.i2l, 1) := by decide +kernel
theorem dc_212_78 : decode (ax_code 212) 78 = .ok (.lreturn, 1) := by decide +kernel
theorem dc_212_79 : decode (ax_code 212) 79 = .ok (.lload_n 3, 1) := by decide +kernel
theorem dc_212_80 : decode (ax_code 212) 80 = .ok (.aload_n 0, 1) := by decide +kernel
theorem dc_212_81 : decode (ax_code 212) 81 = .ok (.getfield 32, 3) := by decide +kernel
theorem dc_212_84 : decode (ax_code 212) 84 = .ok (.lload 7, 2) := by decide +kernel
theorem dc_212_86 : decode (ax_code 212) 86 = .ok (.ldiv, 1) := by decide +kernel
theorem dc_212_87 : decode (ax_code 212) 87 = .ok (.invokestatic 279, 3) := by decide +kernel
theorem dc_212_90 : decode (ax_code 212) 90 = .ok (.ifCond .ne 9, 3) := by decide +kernel
theorem dc_212_93 : decode (ax_code 212) 93 = .ok (.bipush (-5), 2) := by decide +kernel
theorem dc_212_95 : decode (ax_code 212) 95 = .ok (.invokestatic 203, 3) := by decide +kernel
theorem dc_212_98 : decode (ax_code 212) 98 = .ok (.lreturn, 1) := by decide +kernel
theorem dc_212_99 : decode (ax_code 212) 99 = .ok (.iload_n 2, 1) := by decide +kernel
theorem dc_212_100 : decode (ax_code 212) 100 = .ok (.ifCond .ne 15, 3) := by decide +kernel
theorem dc_212_103 : decode (ax_code 212) 103 = .ok (.lload_n 3, 1) := by decide +kernel
theorem dc_212_104 : decode (ax_code 212) 104 = .ok (.aload_n 0, 1) := by decide +kernel
theorem dc_212_105 : decode (ax_code 212) 105 = .ok (.getfield 32, 3) := by decide +kernel
theorem dc_212_108 : decode (ax_code 212) 108 = .ok (.lload 7, 2) := by decide +kernel
theorem dc_212_110 : decode (ax_code 212) 110 = .ok (.ldiv, 1) := by decide +kernel
theorem dc_212_111 : decode (ax_code 212) 111 = .ok (.lmul, 1) := by decide +kernel
theorem dc_212_112 : decode (ax_code 212) 112 = .ok (.goto 5, 3) := by decide +kernel
theorem dc_212_115 : decode (ax_code 212) 115 = .ok (.lload 5, 2) := by decide +kernel
theorem dc_212_117 : decode (ax_code 212) 117 = .ok (.lreturn, 1) := by decide +kernel
theorem dc_213_0 : decode (ax_code 213) 0 = .ok (.lconst 0, 1) := by decide +kernel
theorem dc_213_1 : decode (ax_code 213) 1 = .ok (.lstore_n 2, 1) := by decide +kernel
theorem dc_213_2 : decode (ax_code 213) 2 = .ok (.aload_n 0, 1) := by decide +kernel
theorem dc_213_3 : decode (ax_code 213) 3 = .ok (.aload_n 0, 1) := by decide +kernel
theorem dc_213_4 : decode (ax_code 213) 4 = .ok (.getfield 127, 3) := by decide +kernel
theorem dc_213_7 : decode (ax_code 213) 7 = .ok (.invokevirtual 187, 3) := by decide +kernel
theorem dc_213_10 : decode (ax_code 213) 10 = .ok (.istore 4, 2) := by decide +kernel
theorem dc_213_12 : decode (ax_code 213) 12 = .ok (.iconst 0, 1) := by decide +kernel
theorem dc_213_13 : decode (ax_code 213) 13 = .ok (.istore 5, 2) := by decide +kernel
theorem dc_213_15 : decode (ax_code 213) 15 = .ok (.iload 5, 2) := by decide +kernel
theorem dc_213_17 : decode (ax_code 213) 17 = .ok (.iload 4, 2) := by decide +kernel
theorem dc_213_19 : decode (ax_code 213) 19 = .ok (.if_icmp .ge 44, 3) := by decide +kernel
theorem dc_213_22 : decode (ax_code 213) 22 = .ok (.aload_n 0, 1) := by decide +kernel
theorem dc_213_23 : decode (ax_code 213) 23 = .ok (.iload 5, 2) := by decide +kernel
theorem dc_213_25 : decode (ax_code 213) 25 = .ok (.aload_n 0, 1) := by decide +kernel
theorem dc_213_26 : decode (ax_code 213) 26 = .ok (.getfield 127, 3) := by decide +kernel
theorem dc_213_29 : decode (ax_code 213) 29 = .ok (.invokevirtual 193, 3) := by decide +kernel
theorem dc_213_32 : decode (ax_code 213) 32 = .ok (.lload_n 2, 1) := by decide +kernel
theorem dc_213_33 : decode (ax_code 213) 33 = .ok (.aload_n 0, 1) := by decide +kernel
theorem dc_213_34 : decode (ax_code 213) 34 = .ok (.aload_n 0, 1) := by decide +kernel
theorem dc_213_35 : decode (ax_code 213) 35 = .ok (.getfield 127, 3) := by decide +kernel
theorem dc_213_38 : decode (ax_code 213) 38 = .ok (.iconst (-1), 1) := by decide +kernel
theorem dc_213_39 : decode (ax_code 213) 39 = .ok (.invokevirtual 224, 3) := by decide +kernel
theorem dc_213_42 : decode (ax_code 213) 42 = .ok (.ifCond .eq 12, 3) := by decide +kernel
theorem dc_213_45 : decode (ax_code 213) 45 = .ok (.aload_n 0, 1) := by decide +kernel
theorem dc_213_46 : decode (ax_code 213) 46 = .ok (.iload_n 1, 1) := by decide +kernel
theorem dc_213_47 : decode (ax_code 213) 47 = .ok (.invokevirtual 276, 3) := by decide +kernel
theorem dc_213_50 : decode (ax_code 213) 50 = .ok (.i2l, 1) := by decide +kernel
theorem dc_213_51 : decode (ax_code 213) 51 = .ok (.goto 4, 3) := by decide +kernel
theorem dc_213_54 : decode (ax_code 213) 54 = .ok (.lconst 0, 1) := by decide +kernel
theorem dc_213_55 : decode (ax_code 213) 55 = .ok (.ladd, 1) := by decide +kernel
theorem dc_213_56 : decode (ax_code 213) 56 = .ok (.lstore_n 2, 1) := by decide +kernel
theorem dc_213_57 : decode (ax_code 213) 57 = .ok (.iinc 5 1, 3) := by decide +kernel
theorem dc_213_60 : decode (ax_code 213) 60 = .ok (.goto (-45), 3) := by decide +kernel
theorem dc_213_63 : decode (ax_code 213) 63 = .ok (.lload_n 2, 1) := by decide +kernel
theorem dc_213_64 : decode (ax_code 213) 64 = .ok (.lreturn, 1) := by decide +kernel
theorem dc_214_0 : decode (ax_code 214) 0 = .ok (.iload_n 1, 1) := by decide +kernel
theorem dc_214_1 : decode (ax_code 214) 1 = .ok (.invokestatic 149, 3) := by decide +kernel
theorem dc_214_4 : decode (ax_code 214) 4 = .ok (.ifCond .eq 10, 3) := by decide +kernel
theorem dc_214_7 : decode (ax_code 214) 7 = .ok (.iload_n 2, 1) := by decide +kernel
theorem dc_214_8 : decode (ax_code 214) 8 = .ok (.invokestatic 200, 3) := by decide +kernel
theorem dc_214_11 : decode (ax_code 214) 11 = .ok (.ifCond .ne 9, 3) := by decide +kernel
theorem dc_214_14 : decode (ax_code 214) 14 = .ok (.bipush (-2), 2) := by decide +kernel
theorem dc_214_16 : decode (ax_code 214) 16 = .ok (.invokestatic 203, 3) := by decide +kernel
theorem dc_214_19 : decode (ax_code 214) 19 = .ok (.lreturn, 1) := by decide +kernel
theorem dc_214_20 : decode (ax_code 214) 20 = .ok (.aload_n 0, 1) := by decide +kernel
theorem dc_214_21 : decode (ax_code 214) 21 = .ok (.iload_n 1, 1) := by decide +kernel
theorem dc_214_22 : decode (ax_code 214) 22 = .ok (.invokevirtual 305, 3) := by decide +kernel
theorem dc_214_25 : decode (ax_code 214) 25 = .ok (.ifCond .eq 9, 3) := by decide +kernel
theorem dc_214_28 : decode (ax_code 214) 28 = .ok (.bipush (-5), 2) := by decide +kernel
theorem dc_214_30 : decode (ax_code 214) 30 = .ok (.invokestatic 203, 3) := by decide +kernel
theorem dc_214_33 : decode (ax_code 214) 33 = .ok (.lreturn, 1) := by decide +kernel
theorem dc_214_34 : decode (ax_code 214) 34 = .ok (.aload_n 0, 1) := by decide +kernel
theorem dc_214_35 : decode (ax_code 214) 35 = .ok (.iload_n 1, 1) := by decide +kernel
theorem dc_214_36 : decode (ax_code 214) 36 = .ok (.invokevirtual 308, 3) := by decide +kernel
theorem dc_214_39 : decode (ax_code 214) 39 = .ok (.iload_n 2, 1) := by decide +kernel
theorem dc_214_40 : decode (ax_code 214) 40 = .ok (.ifCond .ne 10, 3) := by decide +kernel
theorem dc_214_43 : decode (ax_code 214) 43 = .ok (.aload_n 0, 1) := by decide +kernel
theorem dc_214_44 : decode (ax_code 214) 44 = .ok (.getfield 298, 3) := by decide +kernel
theorem dc_214_47 : decode (ax_code 214) 47 = .ok (.goto 7, 3) := by decide +kernel
theorem dc_214_50 : decode (ax_code 214) 50 = .ok (.aload_n 0, 1) := by decide +kernel
theorem dc_214_51 : decode (ax_code 214) 51 = .ok (.invokevirtual 207, 3) := by decide +kernel
theorem dc_214_54 : decode (ax_code 214) 54 = .ok (.aload_n 0, 1) := by decide +kernel
theorem dc_214_55 : decode (ax_code 214) 55 = .ok (.getfield 298, 3) := by decide +kernel
theorem dc_214_58 : decode (ax_code 214) 58 = .ok (.aload_n 0, 1) := by decide +kernel
theorem dc_214_59 : decode (ax_code 214) 59 = .ok (.invokevirtual 207, 3) := by decide +kernel
theorem dc_214_62 : decode (ax_code 214) 62 = .ok (.invokestatic 228, 3) := by decide +kernel
theorem dc_214_65 : decode (ax_code 214) 65 = .ok (.ldiv, 1) := by decide +kernel
theorem dc_214_66 : decode (ax_code 214) 66 = .ok (.lreturn, 1) := by decide +kernel
theorem dc_215_0 : decode (ax_code 215) 0 = .ok (.aload_n 0, 1) := by decide +kernel
theorem dc_215_1 : decode (ax_code 215) 1 = .ok (.iload_n 1, 1) := by decide +kernel
theorem dc_215_2 : decode (ax_code 215) 2 = .ok (.invokevirtual 238, 3) := by decide +kernel
theorem dc_215_5 : decode (ax_code 215) 5 = .ok (.iconst 1, 1) := by decide +kernel
theorem dc_215_6 : decode (ax_code 215) 6 = .ok (.istore_n 2, 1) := by decide +kernel
theorem dc_215_7 : decode (ax_code 215) 7 = .ok (.iconst 0, 1) := by decide +kernel
theorem dc_215_8 : decode (ax_code 215) 8 = .ok (.istore_n 3, 1) := by decide +kernel
theorem dc_215_9 : decode (ax_code 215) 9 = .ok (.iload_n 3, 1) := by decide +kernel
theorem dc_215_10 : decode (ax_code 215) 10 = .ok (.aload_n 0, 1) := by decide +kernel
theorem dc_215_11 : decode (ax_code 215) 11 = .ok (.getfield 232, 3) := by decide +kernel
theorem dc_215_14 : decode (ax_code 215) 14 = .ok (.if_icmp .ge 30, 3) := by decide +kernel
theorem dc_215_17 : decode (ax_code 215) 17 = .ok (.iload_n 2, 1) := by decide +kernel
theorem dc_215_18 : decode (ax_code 215) 18 = .ok (.sipush 729, 3) := by decide +kernel
theorem dc_215_21 : decode (ax_code 215) 21 = .ok (.if_icmp .gt 23, 3) := by decide +kernel
theorem dc_215_24 : decode (ax_code 215) 24 = .ok (.iload_n 2, 1) := by decide +kernel
theorem dc_215_25 : decode (ax_code 215) 25 = .ok (.aload_n 0, 1) := by decide +kernel
theorem dc_215_26 : decode (ax_code 215) 26 = .ok (.getfield 23, 3) := by decide +kernel
theorem dc_215_29 : decode (ax_code 215) 29 = .ok (.aload_n 0, 1) := by decide +kernel
theorem dc_215_30 : decode (ax_code 215) 30 = .ok (.getfield 39, 3) := by decide +kernel
theorem dc_215_33 : decode (ax_code 215) 33 = .ok (.iload_n 3, 1) := by decide +kernel
theorem dc_215_34 : decode (ax_code 215) 34 = .ok (.iaload, 1) := by decide +kernel
theorem dc_215_35 : decode (ax_code 215) 35 = .ok (.iaload, 1) := by decide +kernel
theorem dc_215_36 : decode (ax_code 215) 36 = .ok (.imul, 1) := by decide +kernel
theorem dc_215_37 : decode (ax_code 215) 37 = .ok (.istore_n 2, 1) := by decide +kernel
theorem dc_215_38 : decode (ax_code 215) 38 = .ok (.iinc 3 1, 3) := by decide +kernel
theorem dc_215_41 : decode (ax_code 215) 41 = .ok (.goto (-32), 3) := by decide +kernel
theorem dc_215_44 : decode (ax_code 215) 44 = .ok (.iload_n 2, 1) := by decide +kernel
theorem dc_215_45 : decode (ax_code 215) 45 = .ok (.sipush 729, 3) := by decide +kernel
theorem dc_215_48 : decode (ax_code 215) 48 = .ok (.if_icmp .le 7, 3) := by decide +kernel
theorem dc_215_51 : decode (ax_code 215) 51 = .ok (.iconst 1, 1) := by decide +kernel
theorem dc_215_52 : decode (ax_code 215) 52 = .ok (.goto 4, 3) := by decide +kernel
theorem dc_215_55 : decode (ax_code 215) 55 = .ok (.iconst 0, 1) := by decide +kernel
theorem dc_215_56 : decode (ax_code 215) 56 = .ok (.ireturn, 1) := by decide +kernel
theorem dc_216_0 : decode (ax_code 216) 0 = .ok (.aload_n 0, 1) := by decide +kernel
theorem dc_216_1 : decode (ax_code 216) 1 = .ok (.iload_n 1, 1) := by decide +kernel
theorem dc_216_2 : decode (ax_code 216) 2 = .ok (.invokevirtual 238, 3) := by decide +kernel
theorem dc_216_5 : decode (ax_code 216) 5 = .ok (.aload_n 0, 1) := by decide +kernel
theorem dc_216_6 : decode (ax_code 216) 6 = .ok (.iload_n 1, 1) := by decide +kernel
theorem dc_216_7 : decode (ax_code 216) 7 = .ok (.invokevirtual 292, 3) := by decide +kernel
theorem dc_216_10 : decode (ax_code 216) 10 = .ok (.iconst 0, 1) := by decide +kernel
theorem dc_216_11 : decode (ax_code 216) 11 = .ok (.istore_n 2, 1) := by decide +kernel
theorem dc_216_12 : decode (ax_code 216) 12 = .ok (.iload_n 2, 1) := by decide +kernel
theorem dc_216_13 : decode (ax_code 216) 13 = .ok (.aload_n 0, 1) := by decide +kernel
theorem dc_216_14 : decode (ax_code 216) 14 = .ok (.getfield 232, 3) := by decide +kernel
theorem dc_216_17 : decode (ax_code 216) 17 = .ok (.if_icmp .ge 16, 3) := by decide +kernel
theorem dc_216_20 : decode (ax_code 216) 20 = .ok (.aload_n 0, 1) := by decide +kernel
theorem dc_216_21 : decode (ax_code 216) 21 = .ok (.getfield 48, 3) := by decide +kernel
theorem dc_216_24 : decode (ax_code 216) 24 = .ok (.iload_n 2, 1) := by decide +kernel
theorem dc_216_25 : decode (ax_code 216) 25 = .ok (.iconst 0, 1) := by decide +kernel
theorem dc_216_26 : decode (ax_code 216) 26 = .ok (.iastore, 1) := by decide +kernel
theorem dc_216_27 : decode (ax_code 216) 27 = .ok (.iinc 2 1, 3) := by decide +kernel
theorem dc_216_30 : decode (ax_code 216) 30 = .ok (.goto (-18), 3) := by decide +kernel
theorem dc_216_33 : decode (ax_code 216) 33 = .ok (.iconst 1, 1) := by decide +kernel
theorem dc_216_34 : decode (ax_code 216) 34 = .ok (.istore_n 2, 1) := by decide +kernel
theorem dc_216_35 : decode (ax_code 216) 35 = .ok (.iconst 1, 1) := by decide +kernel
theorem dc_216_36 : decode (ax_code 216) 36 = .ok (.istore_n 3, 1) := by decide +kernel
theorem dc_216_37 : decode (ax_code 216) 37 = .ok (.iload_n 3, 1) := by decide +kernel
theorem dc_216_38 : decode (ax_code 216) 38 = .ok (.ifCond .eq 71, 3) := by decide +kernel
theorem dc_216_41 : decode (ax_code 216) 41 = .ok (.aload_n 0, 1) := by decide +kernel
theorem dc_216_42 : decode (ax_code 216) 42 = .ok (.invokevirtual 295, 3) := by decide +kernel
theorem dc_216_45 : decode (ax_code 216) 45 = .ok (.lstore 4, 2) := by decide +kernel
theorem dc_216_47 : decode (ax_code 216) 47 = .ok (.iload_n 2, 1) := by decide +kernel
theorem dc_216_48 : decode (ax_code 216) 48 = .ok (.ifCond .ne 13, 3) := by decide +kernel
theorem dc_216_51 : decode (ax_code 216) 51 = .ok (.lload 4, 2) := by decide +kernel
theorem dc_216_53 : decode (ax_code 216) 53 = .ok (.aload_n 0, 1) := by decide +kernel
theorem dc_216_54 : decode (ax_code 216) 54 = .ok (.getfield 298, 3) := by decide +kernel
theorem dc_216_57 : decode (ax_code 216) 57 = .ok (.lcmp, 1) := by decide +kernel
theorem dc_216_58 : decode (ax_code 216) 58 = .ok (.ifCond .le 41, 3) := by decide +kernel
theorem dc_216_61 : decode (ax_code 216) 61 = .ok (.aload_n 0, 1) := by decide +kernel
theorem dc_216_62 : decode (ax_code 216) 62 = .ok (.lload 4, 2) := by decide +kernel
theorem dc_216_64 : decode (ax_code 216) 64 = .ok (.putfield 298, 3) := by decide +kernel
theorem dc_216_67 : decode (ax_code 216) 67 = .ok (.iconst 0, 1) := by decide +kernel
theorem dc_216_68 : decode (ax_code 216) 68 = .ok (.istore 6, 2) := by decide +kernel
theorem dc_216_70 : decode (ax_code 216) 70 = .ok (.iload 6, 2) := by decide +kernel
theorem dc_216_72 : decode (ax_code 216) 72 = .ok (.aload_n 0, 1) := by decide +kernel
theorem dc_216_73 : decode (ax_code 216) 73 = .ok (.getfield 232, 3) := by decide +kernel
theorem dc_216_76 : decode (ax_code 216) 76 = .ok (.if_icmp .ge 23, 3) := by decide +kernel
theorem dc_216_79 : decode (ax_code 216) 79 = .ok (.aload_n 0, 1) := by decide +kernel
theorem dc_216_80 : decode (ax_code 216) 80 = .ok (.getfield 51, 3) := by decide +kernel
theorem dc_216_83 : decode (ax_code 216) 83 = .ok (.iload 6, 2) := by decide +kernel
theorem dc_216_85 : decode (ax_code 216) 85 = .ok (.aload_n 0, 1) := by decide +kernel
theorem dc_216_86 : decode (ax_code 216) 86 = .ok (.getfield 48, 3) := by decide +kernel
theorem dc_216_89 : decode (ax_code 216) 89 = .ok (.iload 6, 2) := by decide +kernel
theorem dc_216_91 : decode (ax_code 216) 91 = .ok (.iaload, 1) := by decide +kernel
theorem dc_216_92 : decode (ax_code 216) 92 = .ok (.iastore, 1) := by decide +kernel
theorem dc_216_93 : decode (ax_code 216) 93 = .ok (.iinc 6 1, 3) := by decide +kernel
theorem dc_216_96 : decode (ax_code 216) 96 = .ok (.goto (-26), 3) := by decide +kernel
theorem dc_216_99 : decode (ax_code 216) 99 = .ok (.iconst 0, 1) := by decide +kernel
theorem dc_216_100 : decode (ax_code 216) 100 = .ok (.istore_n 2, 1) := by decide +kernel
theorem dc_216_101 : decode (ax_code 216) 101 = .ok (.aload_n 0, 1) := by decide +kernel
theorem dc_216_102 : decode (ax_code 216) 102 = .ok (.invokevirtual 301, 3) := by decide +kernel
theorem dc_216_105 : decode (ax_code 216) 105 = .ok (.istore_n 3, 1) := by decide +kernel
theorem dc_216_106 : decode (ax_code 216) 106 = .ok (.goto (-69), 3) := by decide +kernel
theorem dc_216_109 : decode (ax_code 216) 109 = .ok (.return_, 1) := by decide +kernel
theorem dc_217_0 : decode (ax_code 217) 0 = .ok (.aload_n 0, 1) := by decide +kernel
theorem dc_217_1 : decode (ax_code 217) 1 = .ok (.iconst 0, 1) := by decide +kernel
theorem dc_217_2 : decode (ax_code 217) 2 = .ok (.putfield 286, 3) := by decide +kernel
theorem dc_217_5 : decode (ax_code 217) 5 = .ok (.aload_n 0, 1) := by decide +kernel
theorem dc_217_6 : decode (ax_code 217) 6 = .ok (.aload_n 0, 1) := by decide +kernel
theorem dc_217_7 : decode (ax_code 217) 7 = .ok (.getfield 127, 3) := by decide +kernel
theorem dc_217_10 : decode (ax_code 217) 10 = .ok (.invokevirtual 187, 3) := by decide +kernel
theorem dc_217_13 : decode (ax_code 217) 13 = .ok (.istore_n 2, 1) := by decide +kernel
theorem dc_217_14 : decode (ax_code 217) 14 = .ok (.iconst 0, 1) := by decide +kernel
theorem dc_217_15 : decode (ax_code 217) 15 = .ok (.istore_n 3, 1) := by decide +kernel
theorem dc_217_16 : decode (ax_code 217) 16 = .ok (.iload_n 3, 1) := by decide +kernel
theorem dc_217_17 : decode (ax_code 217) 17 = .ok (.iload_n 2, 1) := by decide +kernel
theorem dc_217_18 : decode (ax_code 217) 18 = .ok (.if_icmp .ge 162, 3) := by decide +kernel
theorem dc_217_21 : decode (ax_code 217) 21 = .ok (.aload_n 0, 1) := by decide +kernel
theorem dc_217_22 : decode (ax_code 217) 22 = .ok (.iload_n 3, 1) := by decide +kernel
theorem dc_217_23 : decode (ax_code 217) 23 = .ok (.aload_n 0, 1) := by decide +kernel
theorem dc_217_24 : decode (ax_code 217) 24 = .ok (.getfield 127, 3) := by decide +kernel
theorem dc_217_27 : decode (ax_code 217) 27 = .ok (.invokevirtual 193, 3) := by decide +kernel
theorem dc_217_30 : decode (ax_code 217) 30 = .ok (.aload_n 0, 1) := by decide +kernel
theorem dc_217_31 : decode (ax_code 217) 31 = .ok (.aload_n 0, 1) := by decide +kernel
theorem dc_217_32 : decode (ax_code 217) 32 = .ok (.getfield 127, 3) := by decide +kernel
theorem dc_217_35 : decode (ax_code 217) 35 = .ok (.iload_n 1, 1) := by decide +kernel
theorem dc_217_36 : decode (ax_code 217) 36 = .ok (.invokevirtual 224, 3) := by decide +kernel
theorem dc_217_39 : decode (ax_code 217) 39 = .ok (.ifCond .eq 135, 3) := by decide +kernel
theorem dc_217_42 : decode (ax_code 217) 42 = .ok (.iconst 0, 1) := by decide +kernel
theorem dc_217_43 : decode (ax_code 217) 43 = .ok (.istore 4, 2) := by decide +kernel
theorem dc_217_45 : decode (ax_code 217) 45 = .ok (.iload 4, 2) := by decide +kernel
theorem dc_217_47 : decode (ax_code 217) 47 = .ok (.aload_n 0, 1) := by decide +kernel
theorem dc_217_48 : decode (ax_code 217) 48 = .ok (.getfield 127, 3) := by decide +kernel
theorem dc_217_51 : decode (ax_code 217) 51 = .ok (.if_icmp .ge 99, 3) := by decide +kernel
theorem dc_217_54 : decode (ax_code 217) 54 = .ok (.aload_n 0, 1) := by decide +kernel
theorem dc_217_55 : decode (ax_code 217) 55 = .ok (.getfield 17, 3) := by decide +kernel
theorem dc_217_58 : decode (ax_code 217) 58 = .ok (.iload 4, 2) := by decide +kernel
theorem dc_217_60 : decode (ax_code 217) 60 = .ok (.iaload, 1) := by decide +kernel
theorem dc_217_61 : decode (ax_code 217) 61 = .ok (.invokestatic 130, 3) := by decide +kernel
theorem dc_217_64 : decode (ax_code 217) 64 = .ok (.ifCond .eq 18, 3) := by decide +kernel
theorem dc_217_67 : decode (ax_code 217) 67 = .ok (.aload_n 0, 1) := by decide +kernel
theorem dc_217_68 : decode (ax_code 217) 68 = .ok (.getfield 20, 3) := by decide +kernel
theorem dc_217_71 : decode (ax_code 217) 71 = .ok (.iload 4, 2) := by decide +kernel
theorem dc_217_73 : decode (ax_code 217) 73 = .ok (.iaload, 1) := by decide +kernel
theorem dc_217_74 : decode (ax_code 217) 74 = .ok (.iload_n 1, 1) := by decide +kernel
theorem dc_217_75 : decode (ax_code 217) 75 = .ok (.if_icmp .ne 7, 3) := by decide +kernel
theorem dc_217_78 : decode (ax_code 217) 78 = .ok (.iconst 1, 1) := by decide +kernel
theorem dc_217_79 : decode (ax_code 217) 79 = .ok (.goto 4, 3) := by decide +kernel
theorem dc_217_82 : decode (ax_code 217) 82 = .ok (.iconst 0, 1) := by decide +kernel
theorem dc_217_83 : decode (ax_code 217) 83 = .ok (.istore 5, 2) := by decide +kernel
theorem dc_217_85 : decode (ax_code 217) 85 = .ok (.aload_n 0, 1) := by decide +kernel
theorem dc_217_86 : decode (ax_code 217) 86 = .ok (.getfield 57, 3) := by decide +kernel
theorem dc_217_89 : decode (ax_code 217) 89 = .ok (.bipush 6, 2) := by decide +kernel
theorem dc_217_91 : decode (ax_code 217) 91 = .ok (.aload_n 0, 1) := by decide +kernel
theorem dc_217_92 : decode (ax_code 217) 92 = .ok (.getfield 286, 3) := by decide +kernel
theorem dc_217_95 : decode (ax_code 217) 95 = .ok (.imul, 1) := by decide +kernel
theorem dc_217_96 : decode (ax_code 217) 96 = .ok (.iload 4, 2) := by decide +kernel
theorem dc_217_98 : decode (ax_code 217) 98 = .ok (.iadd, 1) := by decide +kernel
theorem dc_217_99 : decode (ax_code 217) 99 = .ok (.iload 5, 2) := by decide +kernel
theorem dc_217_101 : decode (ax_code 217) 101 = .ok (.ifCond .eq 19, 3) := by decide +kernel
theorem dc_217_104 : decode (ax_code 217) 104 = .ok (.aload_n 0, 1) := by decide +kernel
theorem dc_217_105 : decode (ax_code 217) 105 = .ok (.iload 4, 2) := by decide +kernel
theorem dc_217_107 : decode (ax_code 217) 107 = .ok (.aload_n 0, 1) := by decide +kernel
theorem dc_217_108 : decode (ax_code 217) 108 = .ok (.iload_n 1, 1) := by decide +kernel
theorem dc_217_109 : decode (ax_code 217) 109 = .ok (.iload 4, 2) := by decide +kernel
theorem dc_217_111 : decode (ax_code 217) 111 = .ok (.invokevirtual 211, 3) := by decide +kernel
theorem dc_217_114 : decode (ax_code 217) 114 = .ok (.invokevirtual 289, 3) := by decide +kernel
theorem dc_217_117 : decode (ax_code 217) 117 = .ok (.goto 4, 3) := by decide +kernel
theorem dc_217_120 : decode (ax_code 217) 120 = .ok (.iconst (-1), 1) := by decide +kernel
theorem dc_217_121 : decode (ax_code 217) 121 = .ok (.iastore, 1) := by decide +kernel
theorem dc_217_122 : decode (ax_code 217) 122 = .ok (.aload_n 0, 1) := by decide +kernel
theorem dc_217_123 : decode (ax_code 217) 123 = .ok (.getfield 60, 3) := by decide +kernel
theorem dc_217_126 : decode (ax_code 217) 126 = .ok (.bipush 6, 2) := by decide +kernel
theorem dc_217_128 : decode (ax_code 217) 128 = .ok (.aload_n 0, 1) := by decide +kernel
theorem dc_217_129 : decode (ax_code 217) 129 = .ok (.getfield 286, 3) := by decide +kernel
theorem dc_217_132 : decode (ax_code 217) 132 = .ok (.imul, 1) := by decide +kernel
theorem dc_217_133 : decode (ax_code 217) 133 = .ok (.iload 4, 2) := by decide +kernel
theorem dc_217_135 : decode (ax_code 217) 135 = .ok (.iadd, 1) := by decide +kernel
theorem dc_217_136 : decode (ax_code 217) 136 = .ok (.aload_n 0, 1) := by decide +kernel
theorem dc_217_137 : decode (ax_code 217) 137 = .ok (.getfield 36, 3) := by decide +kernel
theorem dc_217_140 : decode (ax_code 217) 140 = .ok (.iload 4, 2) := by decide +kernel
theorem dc_217_142 : decode (ax_code 217) 142 = .ok (.iaload, 1) := by decide +kernel
theorem dc_217_143 : decode (ax_code 217) 143 = .ok (.iastore, 1) := by decide +kernel
theorem dc_217_144 : decode (ax_code 217) 144 = .ok (.iinc 4 1, 3) := by decide +kernel
theorem dc_217_147 : decode (ax_code 217) 147 = .ok (.goto (-102), 3) := by decide +kernel
theorem dc_217_150 : decode (ax_code 217) 150 = .ok (.aload_n 0, 1) := by decide +kernel
theorem dc_217_151 : decode (ax_code 217) 151 = .ok (.getfield 54, 3) := by decide +kernel
theorem dc_217_154 : decode (ax_code 217) 154 = .ok (.aload_n 0, 1) := by decide +kernel
theorem dc_217_155 : decode (ax_code 217) 155 = .ok (.getfield 286, 3) := by decide +kernel
theorem dc_217_158 : decode (ax_code 217) 158 = .ok (.aload_n 0, 1) := by decide +kernel
theorem dc_217_159 : decode (ax_code 217) 159 = .ok (.iload_n 1, 1) := by decide +kernel
theorem dc_217_160 : decode (ax_code 217) 160 = .ok (.invokevirtual 276, 3) := by decide +kernel
theorem dc_217_163 : decode (ax_code 217) 163 = .ok (.iastore, 1) := by decide +kernel
theorem dc_217_164 : decode (ax_code 217) 164 = .ok (.aload_n 0, 1) := by decide +kernel
theorem dc_217_165 : decode (ax_code 217) 165 = .ok (.dup, 1) := by decide +kernel
theorem dc_217_166 : decode (ax_code 217) 166 = .ok (.getfield 286, 3) := by decide +kernel
theorem dc_217_169 : decode (ax_code 217) 169 = .ok (.iconst 1, 1) := by decide +kernel
theorem dc_217_170 : decode (ax_code 217) 170 = .ok (.iadd, 1) := by decide +kernel
theorem dc_217_171 : decode (ax_code 217) 171 = .ok (.putfield 286, 3) := by decide +kernel
theorem dc_217_174 : decode (ax_code 217) 174 = .ok (.iinc 3 1, 3) := by decide +kernel
theorem dc_217_177 : decode (ax_code 217) 177 = .ok (.goto (-161), 3) := by decide +kernel
theorem dc_217_180 : decode (ax_code 217) 180 = .ok (.return_, 1) := by decide +kernel
theorem dc_218_0 : decode (ax_code 218) 0 = .ok (.iconst 0, 1) := by decide +kernel
theorem dc_218_1 : decode (ax_code 218) 1 = .ok (.istore_n 3, 1) := by decide +kernel
theorem dc_218_2 : decode (ax_code 218) 2 = .ok (.iload_n 3, 1) := by decide +kernel
theorem dc_218_3 : decode (ax_code 218) 3 = .ok (.aload_n 0, 1) := by decide +kernel
theorem dc_218_4 : decode (ax_code 218) 4 = .ok (.getfield 232, 3) := by decide +kernel
theorem dc_218_7 : decode (ax_code 218) 7 = .ok (.if_icmp .ge 31, 3) := by decide +kernel
theorem dc_218_10 : decode (ax_code 218) 10 = .ok (.aload_n 0, 1) := by decide +kernel
theorem dc_218_11 : decode (ax_code 218) 11 = .ok (.getfield 39, 3) := by decide +kernel
theorem dc_218_14 : decode (ax_code 218) 14 = .ok (.iload_n 3, 1) := by decide +kernel
theorem dc_218_15 : decode (ax_code 218) 15 = .ok (.iaload, 1) := by decide +kernel
theorem dc_218_16 : decode (ax_code 218) 16 = .ok (.iload_n 1, 1) := by decide +kernel
theorem dc_218_17 : decode (ax_code 218) 17 = .ok (.if_icmp .ne 15, 3) := by decide +kernel
theorem dc_218_20 : decode (ax_code 218) 20 = .ok (.aload_n 0, 1) := by decide +kernel
theorem dc_218_21 : decode (ax_code 218) 21 = .ok (.getfield 42, 3) := by decide +kernel
theorem dc_218_24 : decode (ax_code 218) 24 = .ok (.iload_n 3, 1) := by decide +kernel
theorem dc_218_25 : decode (ax_code 218) 25 = .ok (.iaload, 1) := by decide +kernel
theorem dc_218_26 : decode (ax_code 218) 26 = .ok (.iload_n 2, 1) := by decide +kernel
theorem dc_218_27 : decode (ax_code 218) 27 = .ok (.if_icmp .ne 5, 3) := by decide +kernel
theorem dc_218_30 : decode (ax_code 218) 30 = .ok (.iload_n 3, 1) := by decide +kernel
theorem dc_218_31 : decode (ax_code 218) 31 = .ok (.ireturn, 1) := by decide +kernel
theorem dc_218_32 : decode (ax_code 218) 32 = .ok (.iinc 3 1, 3) := by decide +kernel
theorem dc_218_35 : decode (ax_code 218) 35 = .ok (.goto (-33), 3) := by decide +kernel
theorem dc_218_38 : decode (ax_code 218) 38 = .ok (.iconst (-1), 1) := by decide +kernel
theorem dc_218_39 : decode (ax_code 218) 39 = .ok (.ireturn, 1) := by decide +kernel
theorem dc_219_0 : decode (ax_code 219) 0 = .ok (.lconst 0, 1) := by decide +kernel
theorem dc_219_1 : decode (ax_code 219) 1 = .ok (.lstore_n 1, 1) := by decide +kernel
theorem dc_219_2 : decode (ax_code 219) 2 = .ok (.iconst 0, 1) := by decide +kernel
theorem dc_219_3 : decode (ax_code 219) 3 = .ok (.istore_n 3, 1) := by decide +kernel
theorem dc_219_4 : decode (ax_code 219) 4 = .ok (.iload_n 3, 1) := by decide +kernel
theorem dc_219_5 : decode (ax_code 219) 5 = .ok (.aload_n 0, 1) := by decide +kernel
theorem dc_219_6 : decode (ax_code 219) 6 = .ok (.getfield 286, 3) := by decide +kernel
theorem dc_219_9 : decode (ax_code 219) 9 = .ok (.if_icmp .ge 103, 3) := by decide +kernel
theorem dc_219_12 : decode (ax_code 219) 12 = .ok (.iconst 1, 1) := by decide +kernel
theorem dc_219_13 : decode (ax_code 219) 13 = .ok (.istore 4, 2) := by decide +kernel
theorem dc_219_15 : decode (ax_code 219) 15 = .ok (.iconst 0, 1) := by decide +kernel
theorem dc_219_16 : decode (ax_code 219) 16 = .ok (.istore 5, 2) := by decide +kernel
theorem dc_219_18 : decode (ax_code 219) 18 = .ok (.iload 5, 2) := by decide +kernel
theorem dc_219_20 : decode (ax_code 219) 20 = .ok (.aload_n 0, 1) := by decide +kernel
theorem dc_219_21 : decode (ax_code 219) 21 = .ok (.getfield 127, 3) := by decide +kernel
theorem dc_219_24 : decode (ax_code 219) 24 = .ok (.if_icmp .ge 63, 3) := by decide +kernel
theorem dc_219_27 : decode (ax_code 219) 27 = .ok (.iload 4, 2) := by decide +kernel
theorem dc_219_29 : decode (ax_code 219) 29 = .ok (.ifCond .eq 58, 3) := by decide +kernel
theorem dc_219_32 : decode (ax_code 219) 32 = .ok (.aload_n 0, 1) := by decide +kernel
theorem dc_219_33 : decode (ax_code 219) 33 = .ok (.getfield 57, 3) := by decide +kernel
theorem dc_219_36 : decode (ax_code 219) 36 = .ok (.bipush 6, 2) := by decide +kernel
theorem dc_219_38 : decode (ax_code 219) 38 = .ok (.iload_n 3, 1) := by decide +kernel
theorem dc_219_39 : decode (ax_code 219) 39 = .ok (.imul, 1) := by decide +kernel
theorem dc_219_40 : decode (ax_code 219) 40 = .ok (.iload 5, 2) := by decide +kernel
theorem dc_219_42 : decode (ax_code 219) 42 = .ok (.iadd, 1) := by decide +kernel
theorem dc_219_43 : decode (ax_code 219) 43 = .ok (.iaload, 1) := by decide +kernel
theorem dc_219_44 : decode (ax_code 219) 44 = .ok (.istore 6, 2) := by decide +kernel
theorem dc_219_46 : decode (ax_code 219) 46 = .ok (.iload 6, 2) := by decide +kernel
theorem dc_219_48 : decode (ax_code 219) 48 = .ok (.iconst (-1), 1) := by decide +kernel
theorem dc_219_49 : decode (ax_code 219) 49 = .ok (.if_icmp .eq 25, 3) := by decide +kernel
theorem dc_219_52 : decode (ax_code 219) 52 = .ok (.aload_n 0, 1) := by decide +kernel
theorem dc_219_53 : decode (ax_code 219) 53 = .ok (.getfield 48, 3) := by decide +kernel
theorem dc_219_56 : decode (ax_code 219) 56 = .ok (.iload 6, 2) := by decide +kernel
theorem dc_219_58 : decode (ax_code 219) 58 = .ok (.iaload, 1) := by decide +kernel
theorem dc_219_59 : decode (ax_code 219) 59 = .ok (.aload_n 0, 1) := by decide +kernel
theorem dc_219_60 : decode (ax_code 219) 60 = .ok (.getfield 60, 3) := by decide +kernel
theorem dc_219_63 : decode (ax_code 219) 63 = .ok (.bipush 6, 2) := by decide +kernel
theorem dc_219_65 : decode (ax_code 219) 65 = .ok (.iload_n 3, 1) := by decide +kernel
theorem dc_219_66 : decode (ax_code 219) 66 = .ok (.imul, 1) := by decide +kernel
theorem dc_219_67 : decode (ax_code 219) 67 = .ok (.iload 5, 2) := by decide +kernel
theorem dc_219_69 : decode (ax_code 219) 69 = .ok (.iadd, 1) := by decide +kernel
theorem dc_219_70 : decode (ax_code 219) 70 = .ok (.iaload, 1) := by decide +kernel
theorem dc_219_71 : decode (ax_code 219) 71 = .ok (.if_icmp .ne 7, 3) := by decide +kernel
theorem dc_219_74 : decode (ax_code 219) 74 = .ok (.iconst 1, 1) := by decide +kernel
theorem dc_219_75 : decode (ax_code 219) 75 = .ok (.goto 4, 3) := by decide +kernel
theorem dc_219_78 : decode (ax_code 219) 78 = .ok (.iconst 0, 1) := by decide +kernel
theorem dc_219_79 : decode (ax_code 219) 79 = .ok (.istore 4, 2) := by decide +kernel
theorem dc_219_81 : decode (ax_code 219) 81 = .ok (.iinc 5 1, 3) := by decide +kernel
theorem dc_219_84 : decode (ax_code 219) 84 = .ok (.goto (-66), 3) := by decide +kernel
theorem dc_219_87 : decode (ax_code 219) 87 = .ok (.lload_n 1, 1) := by decide +kernel
theorem dc_219_88 : decode (ax_code 219) 88 = .ok (.iload 4, 2) := by decide +kernel
theorem dc_219_90 : decode (ax_code 219) 90 = .ok (.ifCond .eq 13, 3) := by decide +kernel
theorem dc_219_93 : decode (ax_code 219) 93 = .ok (.aload_n 0, 1) := by decide +kernel
theorem dc_219_94 : decode (ax_code 219) 94 = .ok (.getfield 54, 3) := by decide +kernel
theorem dc_219_97 : decode (ax_code 219) 97 = .ok (.iload_n 3, 1) := by decide +kernel
theorem dc_219_98 : decode (ax_code 219) 98 = .ok (.iaload, 1) := by decide +kernel
theorem dc_219_99 : decode (ax_code 219) 99 = .ok (.i2l, 1) := by decide +kernel
theorem dc_219_100 : decode (ax_code 219) 100 = .ok (.goto 4, 3) := by decide +kernel
theorem dc_219_103 : decode (ax_code 219) 103 = .ok (.lconst 0, 1) := by decide +kernel
theorem dc_219_104 : decode (ax_code 219) 104 = .ok (.ladd, 1) := by decide +kernel
theorem dc_219_105 : decode (ax_code 219) 105 = .ok (.lstore_n 1, 1) := by decide +kernel
theorem dc_219_106 : decode (ax_code 219) 106 = .ok (.iinc 3 1, 3) := by decide +kernel
theorem dc_219_109 : decode (ax_code 219) 109 = .ok (.goto (-105), 3) := by decide +kernel
theorem dc_219_112 : decode (ax_code 219) 112 = .ok (.lload_n 1, 1) := by decide +kernel
theorem dc_219_113 : decode (ax_code 219) 113 = .ok (.lreturn, 1) := by decide +kernel
theorem dc_220_0 : decode (ax_code 220) 0 = .ok (.aload_n 0, 1) := by decide +kernel
theorem dc_220_1 : decode (ax_code 220) 1 = .ok (.getfield 232, 3) := by decide +kernel
theorem dc_220_4 : decode (ax_code 220) 4 = .ok (.iconst 1, 1) := by decide +kernel
theorem dc_220_5 : decode (ax_code 220) 5 = .ok (.isub, 1) := by decide +kernel
theorem dc_220_6 : decode (ax_code 220) 6 = .ok (.istore_n 1, 1) := by decide +kernel
theorem dc_220_7 : decode (ax_code 220) 7 = .ok (.iload_n 1, 1) := by decide +kernel
theorem dc_220_8 : decode (ax_code 220) 8 = .ok (.ifCond .lt 38, 3) := by decide +kernel
theorem dc_220_11 : decode (ax_code 220) 11 = .ok (.aload_n 0, 1) := by decide +kernel
theorem dc_220_12 : decode (ax_code 220) 12 = .ok (.getfield 48, 3) := by decide +kernel
theorem dc_220_15 : decode (ax_code 220) 15 = .ok (.iload_n 1, 1) := by decide +kernel
theorem dc_220_16 : decode (ax_code 220) 16 = .ok (.iaload, 1) := by decide +kernel
theorem dc_220_17 : decode (ax_code 220) 17 = .ok (.aload_n 0, 1) := by decide +kernel
theorem dc_220_18 : decode (ax_code 220) 18 = .ok (.getfield 23, 3) := by decide +kernel
theorem dc_220_21 : decode (ax_code 220) 21 = .ok (.aload_n 0, 1) := by decide +kernel
theorem dc_220_22 : decode (ax_code 220) 22 = .ok (.getfield 39, 3) := by decide +kernel
theorem dc_220_25 : decode (ax_code 220) 25 = .ok (.iload_n 1, 1) := by decide +kernel
theorem dc_220_26 : decode (ax_code 220) 26 = .ok (.iaload, 1) := by decide +kernel
theorem dc_220_27 : decode (ax_code 220) 27 = .ok (.iaload, 1) := by decide +kernel
theorem dc_220_28 : decode (ax_code 220) 28 = .ok (.iconst 1, 1) := by decide +kernel
theorem dc_220_29 : decode (ax_code 220) 29 = .ok (.isub, 1) := by decide +kernel
theorem dc_220_30 : decode (ax_code 220) 30 = .ok (.if_icmp .ne 16, 3) := by decide +kernel
theorem dc_220_33 : decode (ax_code 220) 33 = .ok (.aload_n 0, 1) := by decide +kernel
theorem dc_220_34 : decode (ax_code 220) 34 = .ok (.getfield 48, 3) := by decide +kernel
theorem dc_220_37 : decode (ax_code 220) 37 = .ok (.iload_n 1, 1) := by decide +kernel
theorem dc_220_38 : decode (ax_code 220) 38 = .ok (.iconst 0, 1) := by decide +kernel
theorem dc_220_39 : decode (ax_code 220) 39 = .ok (.iastore, 1) := by decide +kernel
theorem dc_220_40 : decode (ax_code 220) 40 = .ok (.iinc 1 (-1), 3) := by decide +kernel
theorem dc_220_43 : decode (ax_code 220) 43 = .ok (.goto (-36), 3) := by decide +kernel
theorem dc_220_46 : decode (ax_code 220) 46 = .ok (.iload_n 1, 1) := by decide +kernel
theorem dc_220_47 : decode (ax_code 220) 47 = .ok (.ifCond .lt 13, 3) := by decide +kernel
theorem dc_220_50 : decode (ax_code 220) 50 = .ok (.aload_n 0, 1) := by decide +kernel
theorem dc_220_51 : decode (ax_code 220) 51 = .ok (.getfield 48, 3) := by decide +kernel
theorem dc_220_54 : decode (ax_code 220) 54 = .ok (.iload_n 1, 1) := by decide +kernel
theorem dc_220_55 : decode (ax_code 220) 55 = .ok (.dup2, 1) := by decide +kernel
theorem dc_220_56 : decode (ax_code 220) 56 = .ok (.iaload, 1) := by decide +kernel
theorem dc_220_57 : decode (ax_code 220) 57 = .ok (.iconst 1, 1) := by decide +kernel
theorem dc_220_58 : decode (ax_code 220) 58 = .ok (.iadd, 1) := by decide +kernel
theorem dc_220_59 : decode (ax_code 220) 59 = .ok (.iastore, 1) := by decide +kernel
theorem dc_220_60 : decode (ax_code 220) 60 = .ok (.iload_n 1, 1) := by decide +kernel
theorem dc_220_61 : decode (ax_code 220) 61 = .ok (.ifCond .lt 7, 3) := by decide +kernel
theorem dc_220_64 : decode (ax_code 220) 64 = .ok (.iconst 1, 1) := by decide +kernel
theorem dc_220_65 : decode (ax_code 220) 65 = .ok (.goto 4, 3) := by decide +kernel
theorem dc_220_68 : decode (ax_code 220) 68 = .ok (.iconst 0, 1) := by decide +kernel
theorem dc_220_69 : decode (ax_code 220) 69 = .ok (.ireturn, 1) := by decide +kernel
theorem dc_221_0 : decode (ax_code 221) 0 = .ok (.iload_n 1, 1) := by decide +kernel
theorem dc_221_1 : decode (ax_code 221) 1 = .ok (.invokestatic 149, 3) := by decide +kernel
theorem dc_221_4 : decode (ax_code 221) 4 = .ok (.ifCond .ne 6, 3) := by decide +kernel
theorem dc_221_7 : decode (ax_code 221) 7 = .ok (.bipush (-2), 2) := by decide +kernel
theorem dc_221_9 : decode (ax_code 221) 9 = .ok (.ireturn, 1) := by decide +kernel
theorem dc_221_10 : decode (ax_code 221) 10 = .ok (.aload_n 0, 1) := by decide +kernel
theorem dc_221_11 : decode (ax_code 221) 11 = .ok (.iload_n 1, 1) := by decide +kernel
theorem dc_221_12 : decode (ax_code 221) 12 = .ok (.invokevirtual 305, 3) := by decide +kernel
theorem dc_221_15 : decode (ax_code 221) 15 = .ok (.ifCond .eq 6, 3) := by decide +kernel
theorem dc_221_18 : decode (ax_code 221) 18 = .ok (.bipush (-5), 2) := by decide +kernel
theorem dc_221_20 : decode (ax_code 221) 20 = .ok (.ireturn, 1) := by decide +kernel
theorem dc_221_21 : decode (ax_code 221) 21 = .ok (.aload_n 0, 1) := by decide +kernel
theorem dc_221_22 : decode (ax_code 221) 22 = .ok (.iload_n 1, 1) := by decide +kernel
theorem dc_221_23 : decode (ax_code 221) 23 = .ok (.invokevirtual 308, 3) := by decide +kernel
theorem dc_221_26 : decode (ax_code 221) 26 = .ok (.iconst 0, 1) := by decide +kernel
theorem dc_221_27 : decode (ax_code 221) 27 = .ok (.istore_n 2, 1) := by decide +kernel
theorem dc_221_28 : decode (ax_code 221) 28 = .ok (.iconst 0, 1) := by decide +kernel
theorem dc_221_29 : decode (ax_code 221) 29 = .ok (.istore_n 3, 1) := by decide +kernel
theorem dc_221_30 : decode (ax_code 221) 30 = .ok (.iconst 0, 1) := by decide +kernel
theorem dc_221_31 : decode (ax_code 221) 31 = .ok (.istore 4, 2) := by decide +kernel
theorem dc_221_33 : decode (ax_code 221) 33 = .ok (.iload 4, 2) := by decide +kernel
theorem dc_221_35 : decode (ax_code 221) 35 = .ok (.aload_n 0, 1) := by decide +kernel
theorem dc_221_36 : decode (ax_code 221) 36 = .ok (.getfield 232, 3) := by decide +kernel
theorem dc_221_39 : decode (ax_code 221) 39 = .ok (.if_icmp .ge 77, 3) := by decide +kernel
theorem dc_221_42 : decode (ax_code 221) 42 = .ok (.iload_n 2, 1) := by decide +kernel
theorem dc_221_43 : decode (ax_code 221) 43 = .ok (.aload_n 0, 1) := by decide +kernel
theorem dc_221_44 : decode (ax_code 221) 44 = .ok (.iload_n 1, 1) := by decide +kernel
theorem dc_221_45 : decode (ax_code 221) 45 = .ok (.aload_n 0, 1) := by decide +kernel
theorem dc_221_46 : decode (ax_code 221) 46 = .ok (.getfield 39, 3) := by decide +kernel
theorem dc_221_49 : decode (ax_code 221) 49 = .ok (.iload 4, 2) := by decide +kernel
theorem dc_221_51 : decode (ax_code 221) 51 = .ok (.iaload, 1) := by decide +kernel
theorem dc_221_52 : decode (ax_code 221) 52 = .ok (.aload_n 0, 1) := by decide +kernel
theorem dc_221_53 : decode (ax_code 221) 53 = .ok (.getfield 42, 3) := by decide +kernel
theorem dc_221_56 : decode (ax_code 221) 56 = .ok (.iload 4, 2) := by decide +kernel
theorem dc_221_58 : decode (ax_code 221) 58 = .ok (.iaload, 1) := by decide +kernel
theorem dc_221_59 : decode (ax_code 221) 59 = .ok (.invokevirtual 218, 3) := by decide +kernel
theorem dc_221_62 : decode (ax_code 221) 62 = .ok (.iconst (-1), 1) := by decide +kernel
theorem dc_221_63 : decode (ax_code 221) 63 = .ok (.if_icmp .ne 7, 3) := by decide +kernel
theorem dc_221_66 : decode (ax_code 221) 66 = .ok (.iconst 1, 1) := by decide +kernel
theorem dc_221_67 : decode (ax_code 221) 67 = .ok (.goto 4, 3) := by decide +kernel
theorem dc_221_70 : decode (ax_code 221) 70 = .ok (.iconst 0, 1) := by decide +kernel
theorem dc_221_71 : decode (ax_code 221) 71 = .ok (.iadd, 1) := by decide +kernel
theorem dc_221_72 : decode (ax_code 221) 72 = .ok (.istore_n 2, 1) := by decide +kernel
theorem dc_221_73 : decode (ax_code 221) 73 = .ok (.iload_n 3, 1) := by decide +kernel
theorem dc_221_74 : decode (ax_code 221) 74 = .ok (.aload_n 0, 1) := by decide +kernel
theorem dc_221_75 : decode (ax_code 221) 75 = .ok (.iload_n 1, 1) := by decide +kernel
theorem dc_221_76 : decode (ax_code 221) 76 = .ok (.aload_n 0, 1) := by decide +kernel
theorem dc_221_77 : decode (ax_code 221) 77 = .ok (.getfield 39, 3) := by decide +kernel
theorem dc_221_80 : decode (ax_code 221) 80 = .ok (.iload 4, 2) := by decide +kernel
theorem dc_221_82 : decode (ax_code 221) 82 = .ok (.iaload, 1) := by decide +kernel
theorem dc_221_83 : decode (ax_code 221) 83 = .ok (.aload_n 0, 1) := by decide +kernel
theorem dc_221_84 : decode (ax_code 221) 84 = .ok (.getfield 42, 3) := by decide +kernel
theorem dc_221_87 : decode (ax_code 221) 87 = .ok (.iload 4, 2) := by decide +kernel
theorem dc_221_89 : decode (ax_code 221) 89 = .ok (.iaload, 1) := by decide +kernel
theorem dc_221_90 : decode (ax_code 221) 90 = .ok (.invokevirtual 221, 3) := by decide +kernel
theorem dc_221_93 : decode (ax_code 221) 93 = .ok (.aload_n 0, 1) := by decide +kernel
theorem dc_221_94 : decode (ax_code 221) 94 = .ok (.getfield 51, 3) := by decide +kernel
theorem dc_221_97 : decode (ax_code 221) 97 = .ok (.iload 4, 2) := by decide +kernel
theorem dc_221_99 : decode (ax_code 221) 99 = .ok (.iaload, 1) := by decide +kernel
theorem dc_221_100 : decode (ax_code 221) 100 = .ok (.if_icmp .ne 7, 3) := by decide +kernel
theorem dc_221_103 : decode (ax_code 221) 103 = .ok (.iconst 0, 1) := by decide +kernel
theorem dc_221_104 : decode (ax_code 221) 104 = .ok (.goto 4, 3) := by decide +kernel
theorem dc_221_107 : decode (ax_code 221) 107 = .ok (.iconst 1, 1) := by decide +kernel
theorem dc_221_108 : decode (ax_code 221) 108 = .ok (.iadd, 1) := by decide +kernel
theorem dc_221_109 : decode (ax_code 221) 109 = .ok (.istore_n 3, 1) := by decide +kernel
theorem dc_221_110 : decode (ax_code 221) 110 = .ok (.iinc 4 1, 3) := by decide +kernel
theorem dc_221_113 : decode (ax_code 221) 113 = .ok (.goto (-80), 3) := by decide +kernel
theorem dc_221_116 : decode (ax_code 221) 116 = .ok (.aload_n 0, 1) := by decide +kernel
theorem dc_221_117 : decode (ax_code 221) 117 = .ok (.getfield 136, 3) := by decide +kernel
theorem dc_221_120 : decode (ax_code 221) 120 = .ok (.iload_n 2, 1) := by decide +kernel
theorem dc_221_121 : decode (ax_code 221) 121 = .ok (.iadd, 1) := by decide +kernel
theorem dc_221_122 : decode (ax_code 221) 122 = .ok (.bipush 40, 2) := by decide +kernel
theorem dc_221_124 : decode (ax_code 221) 124 = .ok (.if_icmp .le 6, 3) := by decide +kernel
theorem dc_221_127 : decode (ax_code 221) 127 = .ok (.bipush (-4), 2) := by decide +kernel
theorem dc_221_129 : decode (ax_code 221) 129 = .ok (.ireturn, 1) := by decide +kernel
theorem dc_221_130 : decode (ax_code 221) 130 = .ok (.iconst 0, 1) := by decide +kernel
theorem dc_221_131 : decode (ax_code 221) 131 = .ok (.istore 4, 2) := by decide +kernel
theorem dc_221_133 : decode (ax_code 221) 133 = .ok (.iload 4, 2) := by decide +kernel
theorem dc_221_135 : decode (ax_code 221) 135 = .ok (.aload_n 0, 1) := by decide +kernel
theorem dc_221_136 : decode (ax_code 221) 136 = .ok (.getfield 232, 3) := by decide +kernel
theorem dc_221_139 : decode (ax_code 221) 139 = .ok (.if_icmp .ge 36, 3) := by decide +kernel
theorem dc_221_142 : decode (ax_code 221) 142 = .ok (.aload_n 0, 1) := by decide +kernel
theorem dc_221_143 : decode (ax_code 221) 143 = .ok (.iload_n 1, 1) := by decide +kernel
theorem dc_221_144 : decode (ax_code 221) 144 = .ok (.aload_n 0, 1) := by decide +kernel
theorem dc_221_145 : decode (ax_code 221) 145 = .ok (.getfield 39, 3) := by decide +kernel
theorem dc_221_148 : decode (ax_code 221) 148 = .ok (.iload 4, 2) := by decide +kernel
theorem dc_221_150 : decode (ax_code 221) 150 = .ok (.iaload, 1) := by decide +kernel
theorem dc_221_151 : decode (ax_code 221) 151 = .ok (.aload_n 0, 1) := by decide +kernel
theorem dc_221_152 : decode (ax_code 221) 152 = .ok (.getfield 42, 3) := by decide +kernel
theorem dc_221_155 : decode (ax_code 221) 155 = .ok (.iload 4, 2) := by decide +kernel
theorem dc_221_157 : decode (ax_code 221) 157 = .ok (.iaload, 1) := by decide +kernel
theorem dc_221_158 : decode (ax_code 221) 158 = .ok (.aload_n 0, 1) := by decide +kernel
theorem dc_221_159 : decode (ax_code 221) 159 = .ok (.getfield 51, 3) := by decide +kernel
theorem dc_221_162 : decode (ax_code 221) 162 = .ok (.iload 4, 2) := by decide +kernel
theorem dc_221_164 : decode (ax_code 221) 164 = .ok (.iaload, 1) := by decide +kernel
theorem dc_221_165 : decode (ax_code 221) 165 = .ok (.invokevirtual 245, 3) := by decide +kernel
theorem dc_221_168 : decode (ax_code 221) 168 = .ok (.pop, 1) := by decide +kernel
theorem dc_221_169 : decode (ax_code 221) 169 = .ok (.iinc 4 1, 3) := by decide +kernel
theorem dc_221_172 : decode (ax_code 221) 172 = .ok (.goto (-39), 3) := by decide +kernel
theorem dc_221_175 : decode (ax_code 221) 175 = .ok (.iload_n 3, 1) := by decide +kernel
theorem dc_221_176 : decode (ax_code 221) 176 = .ok (.ireturn, 1) := by decide +kernel
theorem dc_222_0 : decode (ax_code 222) 0 = .ok (.iconst 0, 1) := by decide +kernel
theorem dc_222_1 : decode (ax_code 222) 1 = .ok (.istore_n 1, 1) := by decide +kernel
theorem dc_222_2 : decode (ax_code 222) 2 = .ok (.iload_n 1, 1) := by decide +kernel
theorem dc_222_3 : decode (ax_code 222) 3 = .ok (.iconst 3, 1) := by decide +kernel
theorem dc_222_4 : decode (ax_code 222) 4 = .ok (.if_icmp .ge 20, 3) := by decide +kernel
theorem dc_222_7 : decode (ax_code 222) 7 = .ok (.aload_n 0, 1) := by decide +kernel
theorem dc_222_8 : decode (ax_code 222) 8 = .ok (.iload_n 1, 1) := by decide +kernel
theorem dc_222_9 : decode (ax_code 222) 9 = .ok (.invokevirtual 305, 3) := by decide +kernel
theorem dc_222_12 : decode (ax_code 222) 12 = .ok (.ifCond .eq 6, 3) := by decide +kernel
theorem dc_222_15 : decode (ax_code 222) 15 = .ok (.bipush (-5), 2) := by decide +kernel
theorem dc_222_17 : decode (ax_code 222) 17 = .ok (.ireturn, 1) := by decide +kernel
theorem dc_222_18 : decode (ax_code 222) 18 = .ok (.iinc 1 1, 3) := by decide +kernel
theorem dc_222_21 : decode (ax_code 222) 21 = .ok (.goto (-19), 3) := by decide +kernel
theorem dc_222_24 : decode (ax_code 222) 24 = .ok (.iconst 0, 1) := by decide +kernel
theorem dc_222_25 : decode (ax_code 222) 25 = .ok (.istore_n 1, 1) := by decide +kernel
theorem dc_222_26 : decode (ax_code 222) 26 = .ok (.iload_n 1, 1) := by decide +kernel
theorem dc_222_27 : decode (ax_code 222) 27 = .ok (.iconst 3, 1) := by decide +kernel
theorem dc_222_28 : decode (ax_code 222) 28 = .ok (.if_icmp .ge 29, 3) := by decide +kernel
theorem dc_222_31 : decode (ax_code 222) 31 = .ok (.aload_n 0, 1) := by decide +kernel
theorem dc_222_32 : decode (ax_code 222) 32 = .ok (.iload_n 1, 1) := by decide +kernel
theorem dc_222_33 : decode (ax_code 222) 33 = .ok (.invokevirtual 308, 3) := by decide +kernel
theorem dc_222_36 : decode (ax_code 222) 36 = .ok (.aload_n 0, 1) := by decide +kernel
theorem dc_222_37 : decode (ax_code 222) 37 = .ok (.getfield 298, 3) := by decide +kernel
theorem dc_222_40 : decode (ax_code 222) 40 = .ok (.aload_n 0, 1) := by decide +kernel
theorem dc_222_41 : decode (ax_code 222) 41 = .ok (.iload_n 1, 1) := by decide +kernel
theorem dc_222_42 : decode (ax_code 222) 42 = .ok (.invokevirtual 283, 3) := by decide +kernel
theorem dc_222_45 : decode (ax_code 222) 45 = .ok (.lcmp, 1) := by decide +kernel
theorem dc_222_46 : decode (ax_code 222) 46 = .ok (.ifCond .eq 5, 3) := by decide +kernel
theorem dc_222_49 : decode (ax_code 222) 49 = .ok (.iconst 0, 1) := by decide +kernel
theorem dc_222_50 : decode (ax_code 222) 50 = .ok (.ireturn, 1) := by decide +kernel
theorem dc_222_51 : decode (ax_code 222) 51 = .ok (.iinc 1 1, 3) := by decide +kernel
theorem dc_222_54 : decode (ax_code 222) 54 = .ok (.goto (-28), 3) := by decide +kernel
theorem dc_222_57 : decode (ax_code 222) 57 = .ok (.iconst 1, 1) := by decide +kernel
theorem dc_222_58 : decode (ax_code 222) 58 = .ok (.ireturn, 1) := by decide +kernel
theorem dc_223_0 : decode (ax_code 223) 0 = .ok (.lload_n 1, 1) := by decide +kernel
theorem dc_223_1 : decode (ax_code 223) 1 = .ok (.lconst 1, 1) := by decide +kernel
theorem dc_223_2 : decode (ax_code 223) 2 = .ok (.ldc2_w 311, 3) := by decide +kernel
theorem dc_223_5 : decode (ax_code 223) 5 = .ok (.invokestatic 123, 3) := by decide +kernel
theorem dc_223_8 : decode (ax_code 223) 8 = .ok (.ifCond .ne 6, 3) := by decide +kernel
theorem dc_223_11 : decode (ax_code 223) 11 = .ok (.bipush (-2), 2) := by decide +kernel
theorem dc_223_13 : decode (ax_code 223) 13 = .ok (.ireturn, 1) := by decide +kernel
theorem dc_223_14 : decode (ax_code 223) 14 = .ok (.aload_n 0, 1) := by decide +kernel
theorem dc_223_15 : decode (ax_code 223) 15 = .ok (.getfield 32, 3) := by decide +kernel
theorem dc_223_18 : decode (ax_code 223) 18 = .ok (.lload_n 1, 1) := by decide +kernel
theorem dc_223_19 : decode (ax_code 223) 19 = .ok (.invokestatic 279, 3) := by decide +kernel
theorem dc_223_22 : decode (ax_code 223) 22 = .ok (.ifCond .ne 6, 3) := by decide +kernel
theorem dc_223_25 : decode (ax_code 223) 25 = .ok (.bipush (-5), 2) := by decide +kernel
theorem dc_223_27 : decode (ax_code 223) 27 = .ok (.ireturn, 1) := by decide +kernel
theorem dc_223_28 : decode (ax_code 223) 28 = .ok (.aload_n 0, 1) := by decide +kernel
theorem dc_223_29 : decode (ax_code 223) 29 = .ok (.dup, 1) := by decide +kernel
theorem dc_223_30 : decode (ax_code 223) 30 = .ok (.getfield 32, 3) := by decide +kernel
theorem dc_223_33 : decode (ax_code 223) 33 = .ok (.lload_n 1, 1) := by decide +kernel
theorem dc_223_34 : decode (ax_code 223) 34 = .ok (.lmul, 1) := by decide +kernel
theorem dc_223_35 : decode (ax_code 223) 35 = .ok (.putfield 32, 3) := by decide +kernel
theorem dc_223_38 : decode (ax_code 223) 38 = .ok (.iconst 1, 1) := by decide +kernel
theorem dc_223_39 : decode (ax_code 223) 39 = .ok (.ireturn, 1) := by decide +kernel
theorem dc_224_0 : decode (ax_code 224) 0 = .ok (.iload_n 1, 1) := by decide +kernel
theorem dc_224_1 : decode (ax_code 224) 1 = .ok (.i2l, 1) := by decide +kernel
theorem dc_224_2 : decode (ax_code 224) 2 = .ok (.lconst 1, 1) := by decide +kernel
theorem dc_224_3 : decode (ax_code 224) 3 = .ok (.ldc2_w 257, 3) := by decide +kernel
theorem dc_224_6 : decode (ax_code 224) 6 = .ok (.invokestatic 123, 3) := by decide +kernel
theorem dc_224_9 : decode (ax_code 224) 9 = .ok (.ifCond .ne 6, 3) := by decide +kernel
theorem dc_224_12 : decode (ax_code 224) 12 = .ok (.bipush (-2), 2) := by decide +kernel
theorem dc_224_14 : decode (ax_code 224) 14 = .ok (.ireturn, 1) := by decide +kernel
theorem dc_224_15 : decode (ax_code 224) 15 = .ok (.aload_n 0, 1) := by decide +kernel
theorem dc_224_16 : decode (ax_code 224) 16 = .ok (.getfield 313, 3) := by decide +kernel
theorem dc_224_19 : decode (ax_code 224) 19 = .ok (.iload_n 1, 1) := by decide +kernel
theorem dc_224_20 : decode (ax_code 224) 20 = .ok (.iadd, 1) := by decide +kernel
theorem dc_224_21 : decode (ax_code 224) 21 = .ok (.bipush 120, 2) := by decide +kernel
theorem dc_224_23 : decode (ax_code 224) 23 = .ok (.if_icmp .le 6, 3) := by decide +kernel
theorem dc_224_26 : decode (ax_code 224) 26 = .ok (.bipush (-4), 2) := by decide +kernel
theorem dc_224_28 : decode (ax_code 224) 28 = .ok (.ireturn, 1) := by decide +kernel
theorem dc_224_29 : decode (ax_code 224) 29 = .ok (.iconst 0, 1) := by decide +kernel
theorem dc_224_30 : decode (ax_code 224) 30 = .ok (.istore_n 3, 1) := by decide +kernel
theorem dc_224_31 : decode (ax_code 224) 31 = .ok (.iload_n 3, 1) := by decide +kernel
theorem dc_224_32 : decode (ax_code 224) 32 = .ok (.iload_n 1, 1) := by decide +kernel
theorem dc_224_33 : decode (ax_code 224) 33 = .ok (.if_icmp .ge 41, 3) := by decide +kernel
theorem dc_224_36 : decode (ax_code 224) 36 = .ok (.aload_n 0, 1) := by decide +kernel
theorem dc_224_37 : decode (ax_code 224) 37 = .ok (.getfield 63, 3) := by decide +kernel
theorem dc_224_40 : decode (ax_code 224) 40 = .ok (.aload_n 0, 1) := by decide +kernel
theorem dc_224_41 : decode (ax_code 224) 41 = .ok (.getfield 313, 3) := by decide +kernel
theorem dc_224_44 : decode (ax_code 224) 44 = .ok (.iload_n 2, 1) := by decide +kernel
theorem dc_224_45 : decode (ax_code 224) 45 = .ok (.bipush 24, 2) := by decide +kernel
theorem dc_224_47 : decode (ax_code 224) 47 = .ok (.bipush 8, 2) := by decide +kernel
theorem dc_224_49 : decode (ax_code 224) 49 = .ok (.iload_n 3, 1) := by decide +kernel
theorem dc_224_50 : decode (ax_code 224) 50 = .ok (.imul, 1) := by decide +kernel
theorem dc_224_51 : decode (ax_code 224) 51 = .ok (.isub, 1) := by decide +kernel
theorem dc_224_52 : decode (ax_code 224) 52 = .ok (.iushr, 1) := by decide +kernel
theorem dc_224_53 : decode (ax_code 224) 53 = .ok (.sipush 255, 3) := by decide +kernel
theorem dc_224_56 : decode (ax_code 224) 56 = .ok (.iand, 1) := by decide +kernel
theorem dc_224_57 : decode (ax_code 224) 57 = .ok (.iastore, 1) := by decide +kernel
theorem dc_224_58 : decode (ax_code 224) 58 = .ok (.aload_n 0, 1) := by decide +kernel
theorem dc_224_59 : decode (ax_code 224) 59 = .ok (.dup, 1) := by decide +kernel
theorem dc_224_60 : decode (ax_code 224) 60 = .ok (.getfield 313, 3) := by decide +kernel
theorem dc_224_63 : decode (ax_code 224) 63 = .ok (.iconst 1, 1) := by decide +kernel
theorem dc_224_64 : decode (ax_code 224) 64 = .ok (.iadd, 1) := by decide +kernel
theorem dc_224_65 : decode (ax_code 224) 65 = .ok (.putfield 313, 3) := by decide +kernel
theorem dc_224_68 : decode (ax_code 224) 68 = .ok (.iinc 3 1, 3) := by decide +kernel
theorem dc_224_71 : decode (ax_code 224) 71 = .ok (.goto (-40), 3) := by decide +kernel
theorem dc_224_74 : decode (ax_code 224) 74 = .ok (.aload_n 0, 1) := by decide +kernel
theorem dc_224_75 : decode (ax_code 224) 75 = .ok (.getfield 313, 3) := by decide +kernel
theorem dc_224_78 : decode (ax_code 224) 78 = .ok (.ireturn, 1) := by decide +kernel
theorem dc_225_0 : decode (ax_code 225) 0 = .ok (.aload_n 0, 1) := by decide +kernel
theorem dc_225_1 : decode (ax_code 225) 1 = .ok (.getfield 127, 3) := by decide +kernel
theorem dc_225_4 : decode (ax_code 225) 4 = .ok (.istore_n 1, 1) := by decide +kernel
theorem dc_225_5 : decode (ax_code 225) 5 = .ok (.aload_n 0, 1) := by decide +kernel
theorem dc_225_6 : decode (ax_code 225) 6 = .ok (.iconst 0, 1) := by decide +kernel
theorem dc_225_7 : decode (ax_code 225) 7 = .ok (.putfield 316, 3) := by decide +kernel
theorem dc_225_10 : decode (ax_code 225) 10 = .ok (.iconst 0, 1) := by decide +kernel
theorem dc_225_11 : decode (ax_code 225) 11 = .ok (.istore_n 2, 1) := by decide +kernel
theorem dc_225_12 : decode (ax_code 225) 12 = .ok (.iconst 1, 1) := by decide +kernel
theorem dc_225_13 : decode (ax_code 225) 13 = .ok (.istore_n 3, 1) := by decide +kernel
theorem dc_225_14 : decode (ax_code 225) 14 = .ok (.iconst 1, 1) := by decide +kernel
theorem dc_225_15 : decode (ax_code 225) 15 = .ok (.istore 4, 2) := by decide +kernel
theorem dc_225_17 : decode (ax_code 225) 17 = .ok (.iload_n 3, 1) := by decide +kernel
theorem dc_225_18 : decode (ax_code 225) 18 = .ok (.ifCond .eq 62, 3) := by decide +kernel
theorem dc_225_21 : decode (ax_code 225) 21 = .ok (.iload 4, 2) := by decide +kernel
theorem dc_225_23 : decode (ax_code 225) 23 = .ok (.ifCond .eq 57, 3) := by decide +kernel
theorem dc_225_26 : decode (ax_code 225) 26 = .ok (.aload_n 0, 1) := by decide +kernel
theorem dc_225_27 : decode (ax_code 225) 27 = .ok (.invokevirtual 360, 3) := by decide +kernel
theorem dc_225_30 : decode (ax_code 225) 30 = .ok (.istore_n 3, 1) := by decide +kernel
theorem dc_225_31 : decode (ax_code 225) 31 = .ok (.iinc 2 1, 3) := by decide +kernel
theorem dc_225_34 : decode (ax_code 225) 34 = .ok (.iload_n 3, 1) := by decide +kernel
theorem dc_225_35 : decode (ax_code 225) 35 = .ok (.ifCond .eq (-18), 3) := by decide +kernel
theorem dc_225_38 : decode (ax_code 225) 38 = .ok (.aload_n 0, 1) := by decide +kernel
theorem dc_225_39 : decode (ax_code 225) 39 = .ok (.invokevirtual 343, 3) := by decide +kernel
theorem dc_225_42 : decode (ax_code 225) 42 = .ok (.aload_n 0, 1) := by decide +kernel
theorem dc_225_43 : decode (ax_code 225) 43 = .ok (.ldc_w 363, 3) := by decide +kernel
theorem dc_225_46 : decode (ax_code 225) 46 = .ok (.invokevirtual 353, 3) := by decide +kernel
theorem dc_225_49 : decode (ax_code 225) 49 = .ok (.istore 4, 2) := by decide +kernel
theorem dc_225_51 : decode (ax_code 225) 51 = .ok (.aload_n 0, 1) := by decide +kernel
theorem dc_225_52 : decode (ax_code 225) 52 = .ok (.iload 4, 2) := by decide +kernel
theorem dc_225_54 : decode (ax_code 225) 54 = .ok (.ifCond .ne 14, 3) := by decide +kernel
theorem dc_225_57 : decode (ax_code 225) 57 = .ok (.aload_n 0, 1) := by decide +kernel
theorem dc_225_58 : decode (ax_code 225) 58 = .ok (.getfield 322, 3) := by decide +kernel
theorem dc_225_61 : decode (ax_code 225) 61 = .ok (.aload_n 0, 1) := by decide +kernel
theorem dc_225_62 : decode (ax_code 225) 62 = .ok (.getfield 313, 3) := by decide +kernel
theorem dc_225_65 : decode (ax_code 225) 65 = .ok (.if_icmp .ne 7, 3) := by decide +kernel
theorem dc_225_68 : decode (ax_code 225) 68 = .ok (.iconst 1, 1) := by decide +kernel
theorem dc_225_69 : decode (ax_code 225) 69 = .ok (.goto 4, 3) := by decide +kernel
theorem dc_225_72 : decode (ax_code 225) 72 = .ok (.iconst 0, 1) := by decide +kernel
theorem dc_225_73 : decode (ax_code 225) 73 = .ok (.invokevirtual 349, 3) := by decide +kernel
theorem dc_225_76 : decode (ax_code 225) 76 = .ok (.istore_n 3, 1) := by decide +kernel
theorem dc_225_77 : decode (ax_code 225) 77 = .ok (.goto (-60), 3) := by decide +kernel
theorem dc_225_80 : decode (ax_code 225) 80 = .ok (.aload_n 0, 1) := by decide +kernel
theorem dc_225_81 : decode (ax_code 225) 81 = .ok (.iconst 0, 1) := by decide +kernel
theorem dc_225_82 : decode (ax_code 225) 82 = .ok (.putfield 313, 3) := by decide +kernel
theorem dc_225_85 : decode (ax_code 225) 85 = .ok (.iload_n 3, 1) := by decide +kernel
theorem dc_225_86 : decode (ax_code 225) 86 = .ok (.ifCond .ne 16, 3) := by decide +kernel
theorem dc_225_89 : decode (ax_code 225) 89 = .ok (.aload_n 0, 1) := by decide +kernel
theorem dc_225_90 : decode (ax_code 225) 90 = .ok (.iload_n 1, 1) := by decide +kernel
theorem dc_225_91 : decode (ax_code 225) 91 = .ok (.putfield 127, 3) := by decide +kernel
theorem dc_225_94 : decode (ax_code 225) 94 = .ok (.bipush (-100), 2) := by decide +kernel
theorem dc_225_96 : decode (ax_code 225) 96 = .ok (.aload_n 0, 1) := by decide +kernel
theorem dc_225_97 : decode (ax_code 225) 97 = .ok (.getfield 319, 3) := by decide +kernel
theorem dc_225_100 : decode (ax_code 225) 100 = .ok (.isub, 1) := by decide +kernel
theorem dc_225_101 : decode (ax_code 225) 101 = .ok (.ireturn, 1) := by decide +kernel
theorem dc_225_102 : decode (ax_code 225) 102 = .ok (.iload_n 2, 1) := by decide +kernel
theorem dc_225_103 : decode (ax_code 225) 103 = .ok (.ireturn, 1) := by decide +kernel
theorem dc_226_0 : decode (ax_code 226) 0 = .ok (.aload_n 0, 1) := by decide +kernel
theorem dc_226_1 : decode (ax_code 226) 1 = .ok (.invokevirtual 343, 3) := by decide +kernel
theorem dc_226_4 : decode (ax_code 226) 4 = .ok (.iconst 0, 1) := by decide +kernel
theorem dc_226_5 : decode (ax_code 226) 5 = .ok (.istore_n 1, 1) := by decide +kernel
theorem dc_226_6 : decode (ax_code 226) 6 = .ok (.iload_n 1, 1) := by decide +kernel
theorem dc_226_7 : decode (ax_code 226) 7 = .ok (.bipush 7, 2) := by decide +kernel
theorem dc_226_9 : decode (ax_code 226) 9 = .ok (.if_icmp .gt 22, 3) := by decide +kernel
theorem dc_226_12 : decode (ax_code 226) 12 = .ok (.aload_n 0, 1) := by decide +kernel
theorem dc_226_13 : decode (ax_code 226) 13 = .ok (.aload_n 0, 1) := by decide +kernel
theorem dc_226_14 : decode (ax_code 226) 14 = .ok (.getfield 84, 3) := by decide +kernel
theorem dc_226_17 : decode (ax_code 226) 17 = .ok (.iload_n 1, 1) := by decide +kernel
theorem dc_226_18 : decode (ax_code 226) 18 = .ok (.aaload, 1) := by decide +kernel
theorem dc_226_19 : decode (ax_code 226) 19 = .ok (.invokevirtual 353, 3) := by decide +kernel
theorem dc_226_22 : decode (ax_code 226) 22 = .ok (.ifCond .ne 9, 3) := by decide +kernel
theorem dc_226_25 : decode (ax_code 226) 25 = .ok (.iinc 1 1, 3) := by decide +kernel
theorem dc_226_28 : decode (ax_code 226) 28 = .ok (.goto (-22), 3) := by decide +kernel
theorem dc_226_31 : decode (ax_code 226) 31 = .ok (.aload_n 0, 1) := by decide +kernel
theorem dc_226_32 : decode (ax_code 226) 32 = .ok (.iload_n 1, 1) := by decide +kernel
theorem dc_226_33 : decode (ax_code 226) 33 = .ok (.bipush 7, 2) := by decide +kernel
theorem dc_226_35 : decode (ax_code 226) 35 = .ok (.if_icmp .gt 24, 3) := by decide +kernel
theorem dc_226_38 : decode (ax_code 226) 38 = .ok (.aload_n 0, 1) := by decide +kernel
theorem dc_226_39 : decode (ax_code 226) 39 = .ok (.getfield 127, 3) := by decide +kernel
theorem dc_226_42 : decode (ax_code 226) 42 = .ok (.bipush 6, 2) := by decide +kernel
theorem dc_226_44 : decode (ax_code 226) 44 = .ok (.if_icmp .ge 15, 3) := by decide +kernel
theorem dc_226_47 : decode (ax_code 226) 47 = .ok (.aload_n 0, 1) := by decide +kernel
theorem dc_226_48 : decode (ax_code 226) 48 = .ok (.iload_n 1, 1) := by decide +kernel
theorem dc_226_49 : decode (ax_code 226) 49 = .ok (.invokevirtual 167, 3) := by decide +kernel
theorem dc_226_52 : decode (ax_code 226) 52 = .ok (.ifCond .eq 7, 3) := by decide +kernel
theorem dc_226_55 : decode (ax_code 226) 55 = .ok (.iconst 1, 1) := by decide +kernel
theorem dc_226_56 : decode (ax_code 226) 56 = .ok (.goto 4, 3) := by decide +kernel
theorem dc_226_59 : decode (ax_code 226) 59 = .ok (.iconst 0, 1) := by decide +kernel
theorem dc_226_60 : decode (ax_code 226) 60 = .ok (.invokevirtual 349, 3) := by decide +kernel
theorem dc_226_63 : decode (ax_code 226) 63 = .ok (.ifCond .ne 5, 3) := by decide +kernel
theorem dc_226_66 : decode (ax_code 226) 66 = .ok (.iconst 0, 1) := by decide +kernel
theorem dc_226_67 : decode (ax_code 226) 67 = .ok (.ireturn, 1) := by decide +kernel
theorem dc_226_68 : decode (ax_code 226) 68 = .ok (.iconst 0, 1) := by decide +kernel
theorem dc_226_69 : decode (ax_code 226) 69 = .ok (.istore_n 2, 1) := by decide +kernel
theorem dc_226_70 : decode (ax_code 226) 70 = .ok (.iconst 0, 1) := by decide +kernel
theorem dc_226_71 : decode (ax_code 226) 71 = .ok (.istore_n 3, 1) := by decide +kernel
theorem dc_226_72 : decode (ax_code 226) 72 = .ok (.iload_n 1, 1) := by decide +kernel
theorem dc_226_73 : decode (ax_code 226) 73 = .ok (.iconst 1, 1) := by decide +kernel
theorem dc_226_74 : decode (ax_code 226) 74 = .ok (.if_icmp .eq 25, 3) := by decide +kernel
theorem dc_226_77 : decode (ax_code 226) 77 = .ok (.iload_n 1, 1) := by decide +kernel
theorem dc_226_78 : decode (ax_code 226) 78 = .ok (.bipush 6, 2) := by decide +kernel
theorem dc_226_80 : decode (ax_code 226) 80 = .ok (.if_icmp .eq 19, 3) := by decide +kernel
theorem dc_226_83 : decode (ax_code 226) 83 = .ok (.aload_n 0, 1) := by decide +kernel
theorem dc_226_84 : decode (ax_code 226) 84 = .ok (.iconst 0, 1) := by decide +kernel
theorem dc_226_85 : decode (ax_code 226) 85 = .ok (.iconst 2, 1) := by decide +kernel
theorem dc_226_86 : decode (ax_code 226) 86 = .ok (.invokevirtual 357, 3) := by decide +kernel
theorem dc_226_89 : decode (ax_code 226) 89 = .ok (.ifCond .ne 5, 3) := by decide +kernel
theorem dc_226_92 : decode (ax_code 226) 92 = .ok (.iconst 0, 1) := by decide +kernel
theorem dc_226_93 : decode (ax_code 226) 93 = .ok (.ireturn, 1) := by decide +kernel
theorem dc_226_94 : decode (ax_code 226) 94 = .ok (.aload_n 0, 1) := by decide +kernel
theorem dc_226_95 : decode (ax_code 226) 95 = .ok (.getfield 346, 3) := by decide +kernel
theorem dc_226_98 : decode (ax_code 226) 98 = .ok (.istore_n 2, 1) := by decide +kernel
theorem dc_226_99 : decode (ax_code 226) 99 = .ok (.iload_n 1, 1) := by decide +kernel
theorem dc_226_100 : decode (ax_code 226) 100 = .ok (.invokestatic 154, 3) := by decide +kernel
theorem dc_226_103 : decode (ax_code 226) 103 = .ok (.ifCond .eq 19, 3) := by decide +kernel
theorem dc_226_106 : decode (ax_code 226) 106 = .ok (.aload_n 0, 1) := by decide +kernel
theorem dc_226_107 : decode (ax_code 226) 107 = .ok (.iconst 2, 1) := by decide +kernel
theorem dc_226_108 : decode (ax_code 226) 108 = .ok (.iconst 3, 1) := by decide +kernel
theorem dc_226_109 : decode (ax_code 226) 109 = .ok (.invokevirtual 357, 3) := by decide +kernel
theorem dc_226_112 : decode (ax_code 226) 112 = .ok (.ifCond .ne 5, 3) := by decide +kernel
theorem dc_226_115 : decode (ax_code 226) 115 = .ok (.iconst 0, 1) := by decide +kernel
theorem dc_226_116 : decode (ax_code 226) 116 = .ok (.ireturn, 1) := by decide +kernel
theorem dc_226_117 : decode (ax_code 226) 117 = .ok (.aload_n 0, 1) := by decide +kernel
theorem dc_226_118 : decode (ax_code 226) 118 = .ok (.getfield 346, 3) := by decide +kernel
theorem dc_226_121 : decode (ax_code 226) 121 = .ok (.istore_n 3, 1) := by decide +kernel
theorem dc_226_122 : decode (ax_code 226) 122 = .ok (.aload_n 0, 1) := by decide +kernel
theorem dc_226_123 : decode (ax_code 226) 123 = .ok (.iload_n 1, 1) := by decide +kernel
theorem dc_226_124 : decode (ax_code 226) 124 = .ok (.iload_n 2, 1) := by decide +kernel
theorem dc_226_125 : decode (ax_code 226) 125 = .ok (.iload_n 3, 1) := by decide +kernel
theorem dc_226_126 : decode (ax_code 226) 126 = .ok (.invokevirtual 170, 3) := by decide +kernel
theorem dc_226_129 : decode (ax_code 226) 129 = .ok (.pop, 1) := by decide +kernel
theorem dc_226_130 : decode (ax_code 226) 130 = .ok (.iconst 1, 1) := by decide +kernel
theorem dc_226_131 : decode (ax_code 226) 131 = .ok (.ireturn, 1) := by decide +kernel
theorem dc_227_0 : decode (ax_code 227) 0 = .ok (.aload_n 0, 1) := by decide +kernel
theorem dc_227_1 : decode (ax_code 227) 1 = .ok (.invokevirtual 325, 3) := by decide +kernel
theorem dc_227_4 : decode (ax_code 227) 4 = .ok (.bipush 32, 2) := by decide +kernel
theorem dc_227_6 : decode (ax_code 227) 6 = .ok (.if_icmp .ne 16, 3) := by decide +kernel
theorem dc_227_9 : decode (ax_code 227) 9 = .ok (.aload_n 0, 1) := by decide +kernel
theorem dc_227_10 : decode (ax_code 227) 10 = .ok (.dup, 1) := by decide +kernel
theorem dc_227_11 : decode (ax_code 227) 11 = .ok (.getfield 316, 3) := by decide +kernel
theorem dc_227_14 : decode (ax_code 227) 14 = .ok (.iconst 1, 1) := by decide +kernel
theorem dc_227_15 : decode (ax_code 227) 15 = .ok (.iadd, 1) := by decide +kernel
theorem dc_227_16 : decode (ax_code 227) 16 = .ok (.putfield 316, 3) := by decide +kernel
theorem dc_227_19 : decode (ax_code 227) 19 = .ok (.goto (-19), 3) := by decide +kernel
theorem dc_227_22 : decode (ax_code 227) 22 = .ok (.aload_n 0, 1) := by decide +kernel
theorem dc_227_23 : decode (ax_code 227) 23 = .ok (.aload_n 0, 1) := by decide +kernel
theorem dc_227_24 : decode (ax_code 227) 24 = .ok (.getfield 316, 3) := by decide +kernel
theorem dc_227_27 : decode (ax_code 227) 27 = .ok (.putfield 322, 3) := by decide +kernel
theorem dc_227_30 : decode (ax_code 227) 30 = .ok (.aload_n 0, 1) := by decide +kernel
theorem dc_227_31 : decode (ax_code 227) 31 = .ok (.invokevirtual 325, 3) := by decide +kernel
theorem dc_227_34 : decode (ax_code 227) 34 = .ok (.i2l, 1) := by decide +kernel
theorem dc_227_35 : decode (ax_code 227) 35 = .ok (.ldc2_w 328, 3) := by decide +kernel
theorem dc_227_38 : decode (ax_code 227) 38 = .ok (.ldc2_w 330, 3) := by decide +kernel
theorem dc_227_41 : decode (ax_code 227) 41 = .ok (.invokestatic 123, 3) := by decide +kernel
theorem dc_227_44 : decode (ax_code 227) 44 = .ok (.ifCond .eq 33, 3) := by decide +kernel
theorem dc_227_47 : decode (ax_code 227) 47 = .ok (.aload_n 0, 1) := by decide +kernel
theorem dc_227_48 : decode (ax_code 227) 48 = .ok (.invokevirtual 325, 3) := by decide +kernel
theorem dc_227_51 : decode (ax_code 227) 51 = .ok (.i2l, 1) := by decide +kernel
theorem dc_227_52 : decode (ax_code 227) 52 = .ok (.ldc2_w 328, 3) := by decide +kernel
theorem dc_227_55 : decode (ax_code 227) 55 = .ok (.ldc2_w 330, 3) := by decide +kernel
theorem dc_227_58 : decode (ax_code 227) 58 = .ok (.invokestatic 123, 3) := by decide +kernel
theorem dc_227_61 : decode (ax_code 227) 61 = .ok (.ifCond .eq 88, 3) := by decide +kernel
theorem dc_227_64 : decode (ax_code 227) 64 = .ok (.aload_n 0, 1) := by decide +kernel
theorem dc_227_65 : decode (ax_code 227) 65 = .ok (.dup, 1) := by decide +kernel
theorem dc_227_66 : decode (ax_code 227) 66 = .ok (.getfield 316, 3) := by decide +kernel
theorem dc_227_69 : decode (ax_code 227) 69 = .ok (.iconst 1, 1) := by decide +kernel
theorem dc_227_70 : decode (ax_code 227) 70 = .ok (.iadd, 1) := by decide +kernel
theorem dc_227_71 : decode (ax_code 227) 71 = .ok (.putfield 316, 3) := by decide +kernel
theorem dc_227_74 : decode (ax_code 227) 74 = .ok (.goto (-27), 3) := by decide +kernel
theorem dc_227_77 : decode (ax_code 227) 77 = .ok (.aload_n 0, 1) := by decide +kernel
theorem dc_227_78 : decode (ax_code 227) 78 = .ok (.invokevirtual 325, 3) := by decide +kernel
theorem dc_227_81 : decode (ax_code 227) 81 = .ok (.i2l, 1) := by decide +kernel
theorem dc_227_82 : decode (ax_code 227) 82 = .ok (.ldc2_w 332, 3) := by decide +kernel
theorem dc_227_85 : decode (ax_code 227) 85 = .ok (.ldc2_w 334, 3) := by decide +kernel
theorem dc_227_88 : decode (ax_code 227) 88 = .ok (.invokestatic 123, 3) := by decide +kernel
theorem dc_227_91 : decode (ax_code 227) 91 = .ok (.ifCond .eq 33, 3) := by decide +kernel
theorem dc_227_94 : decode (ax_code 227) 94 = .ok (.aload_n 0, 1) := by decide +kernel
theorem dc_227_95 : decode (ax_code 227) 95 = .ok (.invokevirtual 325, 3) := by decide +kernel
theorem dc_227_98 : decode (ax_code 227) 98 = .ok (.i2l, 1) := by decide +kernel
theorem dc_227_99 : decode (ax_code 227) 99 = .ok (.ldc2_w 332, 3) := by decide +kernel
theorem dc_227_102 : decode (ax_code 227) 102 = .ok (.ldc2_w 334, 3) := by decide +kernel
theorem dc_227_105 : decode (ax_code 227) 105 = .ok (.invokestatic 123, 3) := by decide +kernel
theorem dc_227_108 : decode (ax_code 227) 108 = .ok (.ifCond .eq 41, 3) := by decide +kernel
theorem dc_227_111 : decode (ax_code 227) 111 = .ok (.aload_n 0, 1) := by decide +kernel
theorem dc_227_112 : decode (ax_code 227) 112 = .ok (.dup, 1) := by decide +kernel
theorem dc_227_113 : decode (ax_code 227) 113 = .ok (.getfield 316, 3) := by decide +kernel
theorem dc_227_116 : decode (ax_code 227) 116 = .ok (.iconst 1, 1) := by decide +kernel
theorem dc_227_117 : decode (ax_code 227) 117 = .ok (.iadd, 1) := by decide +kernel
theorem dc_227_118 : decode (ax_code 227) 118 = .ok (.putfield 316, 3) := by decide +kernel
theorem dc_227_121 : decode (ax_code 227) 121 = .ok (.goto (-27), 3) := by decide +kernel
theorem dc_227_124 : decode (ax_code 227) 124 = .ok (.aload_n 0, 1) := by decide +kernel
theorem dc_227_125 : decode (ax_code 227) 125 = .ok (.dup, 1) := by decide +kernel
theorem dc_227_126 : decode (ax_code 227) 126 = .ok (.getfield 316, 3) := by decide +kernel
theorem dc_227_129 : decode (ax_code 227) 129 = .ok (.aload_n 0, 1) := by decide +kernel
theorem dc_227_130 : decode (ax_code 227) 130 = .ok (.getfield 316, 3) := by decide +kernel
theorem dc_227_133 : decode (ax_code 227) 133 = .ok (.aload_n 0, 1) := by decide +kernel
theorem dc_227_134 : decode (ax_code 227) 134 = .ok (.getfield 313, 3) := by decide +kernel
theorem dc_227_137 : decode (ax_code 227) 137 = .ok (.if_icmp .ge 7, 3) := by decide +kernel
theorem dc_227_140 : decode (ax_code 227) 140 = .ok (.iconst 1, 1) := by decide +kernel
theorem dc_227_141 : decode (ax_code 227) 141 = .ok (.goto 4, 3) := by decide +kernel
theorem dc_227_144 : decode (ax_code 227) 144 = .ok (.iconst 0, 1) := by decide +kernel
theorem dc_227_145 : decode (ax_code 227) 145 = .ok (.iadd, 1) := by decide +kernel
theorem dc_227_146 : decode (ax_code 227) 146 = .ok (.putfield 316, 3) := by decide +kernel
theorem dc_227_149 : decode (ax_code 227) 149 = .ok (.return_, 1) := by decide +kernel
theorem dc_228_0 : decode (ax_code 228) 0 = .ok (.aload_n 0, 1) := by decide +kernel
theorem dc_228_1 : decode (ax_code 228) 1 = .ok (.getfield 316, 3) := by decide +kernel
theorem dc_228_4 : decode (ax_code 228) 4 = .ok (.aload_n 0, 1) := by decide +kernel
theorem dc_228_5 : decode (ax_code 228) 5 = .ok (.getfield 313, 3) := by decide +kernel
theorem dc_228_8 : decode (ax_code 228) 8 = .ok (.if_icmp .ge 15, 3) := by decide +kernel
theorem dc_228_11 : decode (ax_code 228) 11 = .ok (.aload_n 0, 1) := by decide +kernel
theorem dc_228_12 : decode (ax_code 228) 12 = .ok (.getfield 63, 3) := by decide +kernel
theorem dc_228_15 : decode (ax_code 228) 15 = .ok (.aload_n 0, 1) := by decide +kernel
theorem dc_228_16 : decode (ax_code 228) 16 = .ok (.getfield 316, 3) := by decide +kernel
theorem dc_228_19 : decode (ax_code 228) 19 = .ok (.iaload, 1) := by decide +kernel
theorem dc_228_20 : decode (ax_code 228) 20 = .ok (.goto 4, 3) := by decide +kernel
theorem dc_228_23 : decode (ax_code 228) 23 = .ok (.iconst (-1), 1) := by decide +kernel
theorem dc_228_24 : decode (ax_code 228) 24 = .ok (.ireturn, 1) := by decide +kernel
theorem dc_229_0 : decode (ax_code 229) 0 = .ok (.aload_n 0, 1) := by decide +kernel
theorem dc_229_1 : decode (ax_code 229) 1 = .ok (.getfield 316, 3) := by decide +kernel
theorem dc_229_4 : decode (ax_code 229) 4 = .ok (.aload_n 0, 1) := by decide +kernel
theorem dc_229_5 : decode (ax_code 229) 5 = .ok (.getfield 322, 3) := by decide +kernel
theorem dc_229_8 : decode (ax_code 229) 8 = .ok (.isub, 1) := by decide +kernel
theorem dc_229_9 : decode (ax_code 229) 9 = .ok (.aload_n 1, 1) := by decide +kernel
theorem dc_229_10 : decode (ax_code 229) 10 = .ok (.invokevirtual 336, 3) := by decide +kernel
theorem dc_229_13 : decode (ax_code 229) 13 = .ok (.if_icmp .ne 7, 3) := by decide +kernel
theorem dc_229_16 : decode (ax_code 229) 16 = .ok (.iconst 1, 1) := by decide +kernel
theorem dc_229_17 : decode (ax_code 229) 17 = .ok (.goto 4, 3) := by decide +kernel
theorem dc_229_20 : decode (ax_code 229) 20 = .ok (.iconst 0, 1) := by decide +kernel
theorem dc_229_21 : decode (ax_code 229) 21 = .ok (.istore_n 2, 1) := by decide +kernel
theorem dc_229_22 : decode (ax_code 229) 22 = .ok (.iconst 0, 1) := by decide +kernel
theorem dc_229_23 : decode (ax_code 229) 23 = .ok (.istore_n 3, 1) := by decide +kernel
theorem dc_229_24 : decode (ax_code 229) 24 = .ok (.iload_n 3, 1) := by decide +kernel
theorem dc_229_25 : decode (ax_code 229) 25 = .ok (.aload_n 1, 1) := by decide +kernel
theorem dc_229_26 : decode (ax_code 229) 26 = .ok (.invokevirtual 336, 3) := by decide +kernel
theorem dc_229_29 : decode (ax_code 229) 29 = .ok (.if_icmp .ge 38, 3) := by decide +kernel
theorem dc_229_32 : decode (ax_code 229) 32 = .ok (.iload_n 2, 1) := by decide +kernel
theorem dc_229_33 : decode (ax_code 229) 33 = .ok (.ifCond .eq 34, 3) := by decide +kernel
theorem dc_229_36 : decode (ax_code 229) 36 = .ok (.aload_n 0, 1) := by decide +kernel
theorem dc_229_37 : decode (ax_code 229) 37 = .ok (.getfield 63, 3) := by decide +kernel
theorem dc_229_40 : decode (ax_code 229) 40 = .ok (.aload_n 0, 1) := by decide +kernel
theorem dc_229_41 : decode (ax_code 229) 41 = .ok (.getfield 322, 3) := by decide +kernel
theorem dc_229_44 : decode (ax_code 229) 44 = .ok (.iload_n 3, 1) := by decide +kernel
theorem dc_229_45 : decode (ax_code 229) 45 = .ok (.iadd, 1) := by decide +kernel
theorem dc_229_46 : decode (ax_code 229) 46 = .ok (.iaload, 1) := by decide +kernel
theorem dc_229_47 : decode (ax_code 229) 47 = .ok (.aload_n 1, 1) := by decide +kernel
theorem dc_229_48 : decode (ax_code 229) 48 = .ok (.iload_n 3, 1) := by decide +kernel
theorem dc_229_49 : decode (ax_code 229) 49 = .ok (.invokevirtual 339, 3) := by decide +kernel
theorem dc_229_52 : decode (ax_code 229) 52 = .ok (.if_icmp .ne 7, 3) := by decide +kernel
theorem dc_229_55 : decode (ax_code 229) 55 = .ok (.iconst 1, 1) := by decide +kernel
theorem dc_229_56 : decode (ax_code 229) 56 = .ok (.goto 4, 3) := by decide +kernel
theorem dc_229_59 : decode (ax_code 229) 59 = .ok (.iconst 0, 1) := by decide +kernel
theorem dc_229_60 : decode (ax_code 229) 60 = .ok (.istore_n 2, 1) := by decide +kernel
theorem dc_229_61 : decode (ax_code 229) 61 = .ok (.iinc 3 1, 3) := by decide +kernel
theorem dc_229_64 : decode (ax_code 229) 64 = .ok (.goto (-40), 3) := by decide +kernel
theorem dc_229_67 : decode (ax_code 229) 67 = .ok (.iload_n 2, 1) := by decide +kernel
theorem dc_229_68 : decode (ax_code 229) 68 = .ok (.ireturn, 1) := by decide +kernel
theorem dc_230_0 : decode (ax_code 230) 0 = .ok (.aload_n 0, 1) := by decide +kernel
theorem dc_230_1 : decode (ax_code 230) 1 = .ok (.iload_n 1, 1) := by decide +kernel
theorem dc_230_2 : decode (ax_code 230) 2 = .ok (.ifCond .eq 10, 3) := by decide +kernel
theorem dc_230_5 : decode (ax_code 230) 5 = .ok (.aload_n 0, 1) := by decide +kernel
theorem dc_230_6 : decode (ax_code 230) 6 = .ok (.getfield 319, 3) := by decide +kernel
theorem dc_230_9 : decode (ax_code 230) 9 = .ok (.goto 7, 3) := by decide +kernel
theorem dc_230_12 : decode (ax_code 230) 12 = .ok (.aload_n 0, 1) := by decide +kernel
theorem dc_230_13 : decode (ax_code 230) 13 = .ok (.getfield 322, 3) := by decide +kernel
theorem dc_230_16 : decode (ax_code 230) 16 = .ok (.putfield 319, 3) := by decide +kernel
theorem dc_230_19 : decode (ax_code 230) 19 = .ok (.iload_n 1, 1) := by decide +kernel
theorem dc_230_20 : decode (ax_code 230) 20 = .ok (.ireturn, 1) := by decide +kernel
theorem dc_231_0 : decode (ax_code 231) 0 = .ok (.aload_n 0, 1) := by decide +kernel
theorem dc_231_1 : decode (ax_code 231) 1 = .ok (.invokevirtual 343, 3) := by decide +kernel
theorem dc_231_4 : decode (ax_code 231) 4 = .ok (.aload_n 0, 1) := by decide +kernel
theorem dc_231_5 : decode (ax_code 231) 5 = .ok (.iconst 0, 1) := by decide +kernel
theorem dc_231_6 : decode (ax_code 231) 6 = .ok (.putfield 346, 3) := by decide +kernel
theorem dc_231_9 : decode (ax_code 231) 9 = .ok (.aload_n 0, 1) := by decide +kernel
theorem dc_231_10 : decode (ax_code 231) 10 = .ok (.getfield 322, 3) := by decide +kernel
theorem dc_231_13 : decode (ax_code 231) 13 = .ok (.istore_n 3, 1) := by decide +kernel
theorem dc_231_14 : decode (ax_code 231) 14 = .ok (.iload_n 3, 1) := by decide +kernel
theorem dc_231_15 : decode (ax_code 231) 15 = .ok (.aload_n 0, 1) := by decide +kernel
theorem dc_231_16 : decode (ax_code 231) 16 = .ok (.getfield 316, 3) := by decide +kernel
theorem dc_231_19 : decode (ax_code 231) 19 = .ok (.if_icmp .ge 46, 3) := by decide +kernel
theorem dc_231_22 : decode (ax_code 231) 22 = .ok (.aload_n 0, 1) := by decide +kernel
theorem dc_231_23 : decode (ax_code 231) 23 = .ok (.aload_n 0, 1) := by decide +kernel
theorem dc_231_24 : decode (ax_code 231) 24 = .ok (.getfield 346, 3) := by decide +kernel
theorem dc_231_27 : decode (ax_code 231) 27 = .ok (.bipush 99, 2) := by decide +kernel
theorem dc_231_29 : decode (ax_code 231) 29 = .ok (.if_icmp .le 10, 3) := by decide +kernel
theorem dc_231_32 : decode (ax_code 231) 32 = .ok (.aload_n 0, 1) := by decide +kernel
theorem dc_231_33 : decode (ax_code 231) 33 = .ok (.getfield 346, 3) := by decide +kernel
theorem dc_231_36 : decode (ax_code 231) 36 = .ok (.goto 20, 3) := by decide +kernel
theorem dc_231_39 : decode (ax_code 231) 39 = .ok (.bipush 10, 2) := by decide +kernel
theorem dc_231_41 : decode (ax_code 231) 41 = .ok (.aload_n 0, 1) := by decide +kernel
theorem dc_231_42 : decode (ax_code 231) 42 = .ok (.getfield 346, 3) := by decide +kernel
theorem dc_231_45 : decode (ax_code 231) 45 = .ok (.imul, 1) := by decide +kernel
theorem dc_231_46 : decode (ax_code 231) 46 = .ok (.aload_n 0, 1) := by decide +kernel
theorem dc_231_47 : decode (ax_code 231) 47 = .ok (.getfield 63, 3) := by decide +kernel
theorem dc_231_50 : decode (ax_code 231) 50 = .ok (.iload_n 3, 1) := by decide +kernel
theorem dc_231_51 : decode (ax_code 231) 51 = .ok (.iaload, 1) := by decide +kernel
theorem dc_231_52 : decode (ax_code 231) 52 = .ok (.iadd, 1) := by decide +kernel
theorem dc_231_53 : decode (ax_code 231) 53 = .ok (.bipush 48, 2) := by decide +kernel
theorem dc_231_55 : decode (ax_code 231) 55 = .ok (.isub, 1) := by decide +kernel
theorem dc_231_56 : decode (ax_code 231) 56 = .ok (.putfield 346, 3) := by decide +kernel
theorem dc_231_59 : decode (ax_code 231) 59 = .ok (.iinc 3 1, 3) := by decide +kernel
theorem dc_231_62 : decode (ax_code 231) 62 = .ok (.goto (-48), 3) := by decide +kernel
theorem dc_231_65 : decode (ax_code 231) 65 = .ok (.aload_n 0, 1) := by decide +kernel
theorem dc_231_66 : decode (ax_code 231) 66 = .ok (.aload_n 0, 1) := by decide +kernel
theorem dc_231_67 : decode (ax_code 231) 67 = .ok (.getfield 322, 3) := by decide +kernel
theorem dc_231_70 : decode (ax_code 231) 70 = .ok (.aload_n 0, 1) := by decide +kernel
theorem dc_231_71 : decode (ax_code 231) 71 = .ok (.getfield 313, 3) := by decide +kernel
theorem dc_231_74 : decode (ax_code 231) 74 = .ok (.if_icmp .ge 44, 3) := by decide +kernel
theorem dc_231_77 : decode (ax_code 231) 77 = .ok (.aload_n 0, 1) := by decide +kernel
theorem dc_231_78 : decode (ax_code 231) 78 = .ok (.getfield 63, 3) := by decide +kernel
theorem dc_231_81 : decode (ax_code 231) 81 = .ok (.aload_n 0, 1) := by decide +kernel
theorem dc_231_82 : decode (ax_code 231) 82 = .ok (.getfield 322, 3) := by decide +kernel
theorem dc_231_85 : decode (ax_code 231) 85 = .ok (.iaload, 1) := by decide +kernel
theorem dc_231_86 : decode (ax_code 231) 86 = .ok (.i2l, 1) := by decide +kernel
theorem dc_231_87 : decode (ax_code 231) 87 = .ok (.ldc2_w 332, 3) := by decide +kernel
theorem dc_231_90 : decode (ax_code 231) 90 = .ok (.ldc2_w 334, 3) := by decide +kernel
theorem dc_231_93 : decode (ax_code 231) 93 = .ok (.invokestatic 123, 3) := by decide +kernel
theorem dc_231_96 : decode (ax_code 231) 96 = .ok (.ifCond .eq 22, 3) := by decide +kernel
theorem dc_231_99 : decode (ax_code 231) 99 = .ok (.aload_n 0, 1) := by decide +kernel
theorem dc_231_100 : decode (ax_code 231) 100 = .ok (.getfield 346, 3) := by decide +kernel
theorem dc_231_103 : decode (ax_code 231) 103 = .ok (.i2l, 1) := by decide +kernel
theorem dc_231_104 : decode (ax_code 231) 104 = .ok (.iload_n 1, 1) := by decide +kernel
theorem dc_231_105 : decode (ax_code 231) 105 = .ok (.i2l, 1) := by decide +kernel
theorem dc_231_106 : decode (ax_code 231) 106 = .ok (.iload_n 2, 1) := by decide +kernel
theorem dc_231_107 : decode (ax_code 231) 107 = .ok (.i2l, 1) := by decide +kernel
theorem dc_231_108 : decode (ax_code 231) 108 = .ok (.invokestatic 123, 3) := by decide +kernel
theorem dc_231_111 : decode (ax_code 231) 111 = .ok (.ifCond .eq 7, 3) := by decide +kernel
theorem dc_231_114 : decode (ax_code 231) 114 = .ok (.iconst 1, 1) := by decide +kernel
theorem dc_231_115 : decode (ax_code 231) 115 = .ok (.goto 4, 3) := by decide +kernel
theorem dc_231_118 : decode (ax_code 231) 118 = .ok (.iconst 0, 1) := by decide +kernel
theorem dc_231_119 : decode (ax_code 231) 119 = .ok (.invokevirtual 349, 3) := by decide +kernel
theorem dc_231_122 : decode (ax_code 231) 122 = .ok (.ireturn, 1) := by decide +kernel
theorem dc_232_0 : decode (ax_code 232) 0 = .ok (.iload_n 1, 1) := by decide +kernel
theorem dc_232_1 : decode (ax_code 232) 1 = .ok (.invokestatic 365, 3) := by decide +kernel
theorem dc_232_4 : decode (ax_code 232) 4 = .ok (.ifCond .eq 9, 3) := by decide +kernel
theorem dc_232_7 : decode (ax_code 232) 7 = .ok (.iload_n 2, 1) := by decide +kernel
theorem dc_232_8 : decode (ax_code 232) 8 = .ok (.bipush 6, 2) := by decide +kernel
theorem dc_232_10 : decode (ax_code 232) 10 = .ok (.if_icmp .le 6, 3) := by decide +kernel
theorem dc_232_13 : decode (ax_code 232) 13 = .ok (.bipush (-2), 2) := by decide +kernel
theorem dc_232_15 : decode (ax_code 232) 15 = .ok (.ireturn, 1) := by decide +kernel
theorem dc_232_16 : decode (ax_code 232) 16 = .ok (.iload_n 2, 1) := by decide +kernel
theorem dc_232_17 : decode (ax_code 232) 17 = .ok (.ifCond .ge 12, 3) := by decide +kernel
theorem dc_232_20 : decode (ax_code 232) 20 = .ok (.iload_n 2, 1) := by decide +kernel
theorem dc_232_21 : decode (ax_code 232) 21 = .ok (.bipush (-9), 2) := by decide +kernel
theorem dc_232_23 : decode (ax_code 232) 23 = .ok (.if_icmp .eq 6, 3) := by decide +kernel
theorem dc_232_26 : decode (ax_code 232) 26 = .ok (.bipush (-14), 2) := by decide +kernel
theorem dc_232_28 : decode (ax_code 232) 28 = .ok (.ireturn, 1) := by decide +kernel
theorem dc_232_29 : decode (ax_code 232) 29 = .ok (.aload_n 0, 1) := by decide +kernel
theorem dc_232_30 : decode (ax_code 232) 30 = .ok (.getfield 88, 3) := by decide +kernel
theorem dc_232_33 : decode (ax_code 232) 33 = .ok (.iload_n 1, 1) := by decide +kernel
theorem dc_232_34 : decode (ax_code 232) 34 = .ok (.iload_n 2, 1) := by decide +kernel
theorem dc_232_35 : decode (ax_code 232) 35 = .ok (.iastore, 1) := by decide +kernel
theorem dc_232_36 : decode (ax_code 232) 36 = .ok (.iconst 0, 1) := by decide +kernel
theorem dc_232_37 : decode (ax_code 232) 37 = .ok (.istore_n 3, 1) := by decide +kernel
theorem dc_232_38 : decode (ax_code 232) 38 = .ok (.iload_n 3, 1) := by decide +kernel
theorem dc_232_39 : decode (ax_code 232) 39 = .ok (.bipush 24, 2) := by decide +kernel
theorem dc_232_41 : decode (ax_code 232) 41 = .ok (.if_icmp .ge 21, 3) := by decide +kernel
theorem dc_232_44 : decode (ax_code 232) 44 = .ok (.aload_n 0, 1) := by decide +kernel
theorem dc_232_45 : decode (ax_code 232) 45 = .ok (.getfield 91, 3) := by decide +kernel
theorem dc_232_48 : decode (ax_code 232) 48 = .ok (.bipush 24, 2) := by decide +kernel
theorem dc_232_50 : decode (ax_code 232) 50 = .ok (.iload_n 1, 1) := by decide +kernel
theorem dc_232_51 : decode (ax_code 232) 51 = .ok (.imul, 1) := by decide +kernel
theorem dc_232_52 : decode (ax_code 232) 52 = .ok (.iload_n 3, 1) := by decide +kernel
theorem dc_232_53 : decode (ax_code 232) 53 = .ok (.iadd, 1) := by decide +kernel
theorem dc_232_54 : decode (ax_code 232) 54 = .ok (.iconst 0, 1) := by decide +kernel
theorem dc_232_55 : decode (ax_code 232) 55 = .ok (.iastore, 1) := by decide +kernel
theorem dc_232_56 : decode (ax_code 232) 56 = .ok (.iinc 3 1, 3) := by decide +kernel
theorem dc_232_59 : decode (ax_code 232) 59 = .ok (.goto (-21), 3) := by decide +kernel
theorem dc_232_62 : decode (ax_code 232) 62 = .ok (.iconst 1, 1) := by decide +kernel
theorem dc_232_63 : decode (ax_code 232) 63 = .ok (.ireturn, 1) := by decide +kernel
theorem dc_233_0 : decode (ax_code 233) 0 = .ok (.iload_n 0, 1) := by decide +kernel
theorem dc_233_1 : decode (ax_code 233) 1 = .ok (.i2l, 1) := by decide +kernel
theorem dc_233_2 : decode (ax_code 233) 2 = .ok (.lconst 0, 1) := by decide +kernel
theorem dc_233_3 : decode (ax_code 233) 3 = .ok (.lconst 1, 1) := by decide +kernel
theorem dc_233_4 : decode (ax_code 233) 4 = .ok (.invokestatic 123, 3) := by decide +kernel
theorem dc_233_7 : decode (ax_code 233) 7 = .ok (.ireturn, 1) := by decide +kernel
theorem dc_234_0 : decode (ax_code 234) 0 = .ok (.iload_n 1, 1) := by decide +kernel
theorem dc_234_1 : decode (ax_code 234) 1 = .ok (.invokestatic 365, 3) := by decide +kernel
theorem dc_234_4 : decode (ax_code 234) 4 = .ok (.ifCond .eq 11, 3) := by decide +kernel
theorem dc_234_7 : decode (ax_code 234) 7 = .ok (.aload_n 0, 1) := by decide +kernel
theorem dc_234_8 : decode (ax_code 234) 8 = .ok (.iload_n 3, 1) := by decide +kernel
theorem dc_234_9 : decode (ax_code 234) 9 = .ok (.invokevirtual 174, 3) := by decide +kernel
theorem dc_234_12 : decode (ax_code 234) 12 = .ok (.ifCond .ne 6, 3) := by decide +kernel
theorem dc_234_15 : decode (ax_code 234) 15 = .ok (.bipush (-2), 2) := by decide +kernel
theorem dc_234_17 : decode (ax_code 234) 17 = .ok (.ireturn, 1) := by decide +kernel
theorem dc_234_18 : decode (ax_code 234) 18 = .ok (.aload_n 0, 1) := by decide +kernel
theorem dc_234_19 : decode (ax_code 234) 19 = .ok (.getfield 88, 3) := by decide +kernel
theorem dc_234_22 : decode (ax_code 234) 22 = .ok (.iload_n 1, 1) := by decide +kernel
theorem dc_234_23 : decode (ax_code 234) 23 = .ok (.iaload, 1) := by decide +kernel
theorem dc_234_24 : decode (ax_code 234) 24 = .ok (.bipush (-9), 2) := by decide +kernel
theorem dc_234_26 : decode (ax_code 234) 26 = .ok (.if_icmp .ne 6, 3) := by decide +kernel
theorem dc_234_29 : decode (ax_code 234) 29 = .ok (.bipush (-11), 2) := by decide +kernel
theorem dc_234_31 : decode (ax_code 234) 31 = .ok (.ireturn, 1) := by decide +kernel
theorem dc_234_32 : decode (ax_code 234) 32 = .ok (.iload_n 2, 1) := by decide +kernel
theorem dc_234_33 : decode (ax_code 234) 33 = .ok (.i2l, 1) := by decide +kernel
theorem dc_234_34 : decode (ax_code 234) 34 = .ok (.lconst 0, 1) := by decide +kernel
theorem dc_234_35 : decode (ax_code 234) 35 = .ok (.aload_n 0, 1) := by decide +kernel
theorem dc_234_36 : decode (ax_code 234) 36 = .ok (.getfield 88, 3) := by decide +kernel
theorem dc_234_39 : decode (ax_code 234) 39 = .ok (.iload_n 1, 1) := by decide +kernel
theorem dc_234_40 : decode (ax_code 234) 40 = .ok (.iaload, 1) := by decide +kernel
theorem dc_234_41 : decode (ax_code 234) 41 = .ok (.iconst 1, 1) := by decide +kernel
theorem dc_234_42 : decode (ax_code 234) 42 = .ok (.isub, 1) := by decide +kernel
theorem dc_234_43 : decode (ax_code 234) 43 = .ok (.i2l, 1) := by decide +kernel
theorem dc_234_44 : decode (ax_code 234) 44 = .ok (.invokestatic 123, 3) := by decide +kernel
theorem dc_234_47 : decode (ax_code 234) 47 = .ok (.ifCond .ne 6, 3) := by decide +kernel
theorem dc_234_50 : decode (ax_code 234) 50 = .ok (.bipush (-12), 2) := by decide +kernel
theorem dc_234_52 : decode (ax_code 234) 52 = .ok (.ireturn, 1) := by decide +kernel
theorem dc_234_53 : decode (ax_code 234) 53 = .ok (.iconst 4, 1) := by decide +kernel
theorem dc_234_54 : decode (ax_code 234) 54 = .ok (.bipush 6, 2) := by decide +kernel
theorem dc_234_56 : decode (ax_code 234) 56 = .ok (.iload_n 1, 1) := by decide +kernel
theorem dc_234_57 : decode (ax_code 234) 57 = .ok (.imul, 1) := by decide +kernel
theorem dc_234_58 : decode (ax_code 234) 58 = .ok (.iload_n 2, 1) := by decide +kernel
theorem dc_234_59 : decode (ax_code 234) 59 = .ok (.iadd, 1) := by decide +kernel
theorem dc_234_60 : decode (ax_code 234) 60 = .ok (.imul, 1) := by decide +kernel
theorem dc_234_61 : decode (ax_code 234) 61 = .ok (.istore 4, 2) := by decide +kernel
theorem dc_234_63 : decode (ax_code 234) 63 = .ok (.aload_n 0, 1) := by decide +kernel
theorem dc_234_64 : decode (ax_code 234) 64 = .ok (.getfield 91, 3) := by decide +kernel
theorem dc_234_67 : decode (ax_code 234) 67 = .ok (.iload 4, 2) := by decide +kernel
theorem dc_234_69 : decode (ax_code 234) 69 = .ok (.iconst 1, 1) := by decide +kernel
theorem dc_234_70 : decode (ax_code 234) 70 = .ok (.iastore, 1) := by decide +kernel
theorem dc_234_71 : decode (ax_code 234) 71 = .ok (.aload_n 0, 1) := by decide +kernel
theorem dc_234_72 : decode (ax_code 234) 72 = .ok (.getfield 91, 3) := by decide +kernel
theorem dc_234_75 : decode (ax_code 234) 75 = .ok (.iload 4, 2) := by decide +kernel
theorem dc_234_77 : decode (ax_code 234) 77 = .ok (.iconst 1, 1) := by decide +kernel
theorem dc_234_78 : decode (ax_code 234) 78 = .ok (.iadd, 1) := by decide +kernel
theorem dc_234_79 : decode (ax_code 234) 79 = .ok (.aload_n 0, 1) := by decide +kernel
theorem dc_234_80 : decode (ax_code 234) 80 = .ok (.getfield 17, 3) := by decide +kernel
theorem dc_234_83 : decode (ax_code 234) 83 = .ok (.iload_n 3, 1) := by decide +kernel
theorem dc_234_84 : decode (ax_code 234) 84 = .ok (.iaload, 1) := by decide +kernel
theorem dc_234_85 : decode (ax_code 234) 85 = .ok (.iastore, 1) := by decide +kernel
theorem dc_234_86 : decode (ax_code 234) 86 = .ok (.aload_n 0, 1) := by decide +kernel
theorem dc_234_87 : decode (ax_code 234) 87 = .ok (.getfield 91, 3) := by decide +kernel
theorem dc_234_90 : decode (ax_code 234) 90 = .ok (.iload 4, 2) := by decide +kernel
theorem dc_234_92 : decode (ax_code 234) 92 = .ok (.iconst 2, 1) := by decide +kernel
theorem dc_234_93 : decode (ax_code 234) 93 = .ok (.iadd, 1) := by decide +kernel
theorem dc_234_94 : decode (ax_code 234) 94 = .ok (.aload_n 0, 1) := by decide +kernel
theorem dc_234_95 : decode (ax_code 234) 95 = .ok (.getfield 20, 3) := by decide +kernel
theorem dc_234_98 : decode (ax_code 234) 98 = .ok (.iload_n 3, 1) := by decide +kernel
theorem dc_234_99 : decode (ax_code 234) 99 = .ok (.iaload, 1) := by decide +kernel
theorem dc_234_100 : decode (ax_code 234) 100 = .ok (.iastore, 1) := by decide +kernel
theorem dc_234_101 : decode (ax_code 234) 101 = .ok (.aload_n 0, 1) := by decide +kernel
theorem dc_234_102 : decode (ax_code 234) 102 = .ok (.getfield 91, 3) := by decide +kernel
theorem dc_234_105 : decode (ax_code 234) 105 = .ok (.iload 4, 2) := by decide +kernel
theorem dc_234_107 : decode (ax_code 234) 107 = .ok (.iconst 3, 1) := by decide +kernel
theorem dc_234_108 : decode (ax_code 234) 108 = .ok (.iadd, 1) := by decide +kernel
theorem dc_234_109 : decode (ax_code 234) 109 = .ok (.aload_n 0, 1) := by decide +kernel
theorem dc_234_110 : decode (ax_code 234) 110 = .ok (.getfield 23, 3) := by decide +kernel
theorem dc_234_113 : decode (ax_code 234) 113 = .ok (.iload_n 3, 1) := by decide +kernel
theorem dc_234_114 : decode (ax_code 234) 114 = .ok (.iaload, 1) := by decide +kernel
theorem dc_234_115 : decode (ax_code 234) 115 = .ok (.iastore, 1) := by decide +kernel
theorem dc_234_116 : decode (ax_code 234) 116 = .ok (.iconst 1, 1) := by decide +kernel
theorem dc_234_117 : decode (ax_code 234) 117 = .ok (.ireturn, 1) := by decide +kernel
theorem dc_235_0 : decode (ax_code 235) 0 = .ok (.iload_n 1, 1) := by decide +kernel
theorem dc_235_1 : decode (ax_code 235) 1 = .ok (.invokestatic 365, 3) := by decide +kernel
theorem dc_235_4 : decode (ax_code 235) 4 = .ok (.ifCond .ne 6, 3) := by decide +kernel
theorem dc_235_7 : decode (ax_code 235) 7 = .ok (.bipush (-2), 2) := by decide +kernel
theorem dc_235_9 : decode (ax_code 235) 9 = .ok (.ireturn, 1) := by decide +kernel
theorem dc_235_10 : decode (ax_code 235) 10 = .ok (.aload_n 0, 1) := by decide +kernel
theorem dc_235_11 : decode (ax_code 235) 11 = .ok (.getfield 88, 3) := by decide +kernel
theorem dc_235_14 : decode (ax_code 235) 14 = .ok (.iload_n 1, 1) := by decide +kernel
theorem dc_235_15 : decode (ax_code 235) 15 = .ok (.iaload, 1) := by decide +kernel
theorem dc_235_16 : decode (ax_code 235) 16 = .ok (.bipush (-9), 2) := by decide +kernel
theorem dc_235_18 : decode (ax_code 235) 18 = .ok (.if_icmp .ne 6, 3) := by decide +kernel
theorem dc_235_21 : decode (ax_code 235) 21 = .ok (.bipush (-11), 2) := by decide +kernel
theorem dc_235_23 : decode (ax_code 235) 23 = .ok (.ireturn, 1) := by decide +kernel
theorem dc_235_24 : decode (ax_code 235) 24 = .ok (.aload_n 0, 1) := by decide +kernel
theorem dc_235_25 : decode (ax_code 235) 25 = .ok (.iconst 0, 1) := by decide +kernel
theorem dc_235_26 : decode (ax_code 235) 26 = .ok (.putfield 127, 3) := by decide +kernel
theorem dc_235_29 : decode (ax_code 235) 29 = .ok (.iconst 0, 1) := by decide +kernel
theorem dc_235_30 : decode (ax_code 235) 30 = .ok (.istore_n 2, 1) := by decide +kernel
theorem dc_235_31 : decode (ax_code 235) 31 = .ok (.iload_n 2, 1) := by decide +kernel
theorem dc_235_32 : decode (ax_code 235) 32 = .ok (.aload_n 0, 1) := by decide +kernel
theorem dc_235_33 : decode (ax_code 235) 33 = .ok (.getfield 88, 3) := by decide +kernel
theorem dc_235_36 : decode (ax_code 235) 36 = .ok (.iload_n 1, 1) := by decide +kernel
theorem dc_235_37 : decode (ax_code 235) 37 = .ok (.iaload, 1) := by decide +kernel
theorem dc_235_38 : decode (ax_code 235) 38 = .ok (.if_icmp .ge 76, 3) := by decide +kernel
theorem dc_235_41 : decode (ax_code 235) 41 = .ok (.iconst 4, 1) := by decide +kernel
theorem dc_235_42 : decode (ax_code 235) 42 = .ok (.bipush 6, 2) := by decide +kernel
theorem dc_235_44 : decode (ax_code 235) 44 = .ok (.iload_n 1, 1) := by decide +kernel
theorem dc_235_45 : decode (ax_code 235) 45 = .ok (.imul, 1) := by decide +kernel
theorem dc_235_46 : decode (ax_code 235) 46 = .ok (.iload_n 2, 1) := by decide +kernel
theorem dc_235_47 : decode (ax_code 235) 47 = .ok (.iadd, 1) := by decide +kernel
theorem dc_235_48 : decode (ax_code 235) 48 = .ok (.imul, 1) := by decide +kernel
theorem dc_235_49 : decode (ax_code 235) 49 = .ok (.istore_n 3, 1) := by decide +kernel
theorem dc_235_50 : decode (ax_code 235) 50 = .ok (.aload_n 0, 1) := by decide +kernel
theorem dc_235_51 : decode (ax_code 235) 51 = .ok (.getfield 91, 3) := by decide +kernel
theorem dc_235_54 : decode (ax_code 235) 54 = .ok (.iload_n 3, 1) := by decide +kernel
theorem dc_235_55 : decode (ax_code 235) 55 = .ok (.iaload, 1) := by decide +kernel
theorem dc_235_56 : decode (ax_code 235) 56 = .ok (.ifCond .eq 18, 3) := by decide +kernel
theorem dc_235_59 : decode (ax_code 235) 59 = .ok (.aload_n 0, 1) := by decide +kernel
theorem dc_235_60 : decode (ax_code 235) 60 = .ok (.aload_n 0, 1) := by decide +kernel
theorem dc_235_61 : decode (ax_code 235) 61 = .ok (.getfield 91, 3) := by decide +kernel
theorem dc_235_64 : decode (ax_code 235) 64 = .ok (.iload_n 3, 1) := by decide +kernel
theorem dc_235_65 : decode (ax_code 235) 65 = .ok (.iconst 1, 1) := by decide +kernel
theorem dc_235_66 : decode (ax_code 235) 66 = .ok (.iadd, 1) := by decide +kernel
theorem dc_235_67 : decode (ax_code 235) 67 = .ok (.iaload, 1) := by decide +kernel
theorem dc_235_68 : decode (ax_code 235) 68 = .ok (.invokevirtual 167, 3) := by decide +kernel
theorem dc_235_71 : decode (ax_code 235) 71 = .ok (.ifCond .ne 8, 3) := by decide +kernel
theorem dc_235_74 : decode (ax_code 235) 74 = .ok (.aload_n 0, 1) := by decide +kernel
theorem dc_235_75 : decode (ax_code 235) 75 = .ok (.getfield 127, 3) := by decide +kernel
theorem dc_235_78 : decode (ax_code 235) 78 = .ok (.ireturn, 1) := by decide +kernel
theorem dc_235_79 : decode (ax_code 235) 79 = .ok (.aload_n 0, 1) := by decide +kernel
theorem dc_235_80 : decode (ax_code 235) 80 = .ok (.aload_n 0, 1) := by decide +kernel
theorem dc_235_81 : decode (ax_code 235) 81 = .ok (.getfield 91, 3) := by decide +kernel
theorem dc_235_84 : decode (ax_code 235) 84 = .ok (.iload_n 3, 1) := by decide +kernel
theorem dc_235_85 : decode (ax_code 235) 85 = .ok (.iconst 1, 1) := by decide +kernel
theorem dc_235_86 : decode (ax_code 235) 86 = .ok (.iadd, 1) := by decide +kernel
theorem dc_235_87 : decode (ax_code 235) 87 = .ok (.iaload, 1) := by decide +kernel
theorem dc_235_88 : decode (ax_code 235) 88 = .ok (.aload_n 0, 1) := by decide +kernel
theorem dc_235_89 : decode (ax_code 235) 89 = .ok (.getfield 91, 3) := by decide +kernel
theorem dc_235_92 : decode (ax_code 235) 92 = .ok (.iload_n 3, 1) := by decide +kernel
theorem dc_235_93 : decode (ax_code 235) 93 = .ok (.iconst 2, 1) := by decide +kernel
theorem dc_235_94 : decode (ax_code 235) 94 = .ok (.iadd, 1) := by decide +kernel
theorem dc_235_95 : decode (ax_code 235) 95 = .ok (.iaload, 1) := by decide +kernel
theorem dc_235_96 : decode (ax_code 235) 96 = .ok (.aload_n 0, 1) := by decide +kernel
theorem dc_235_97 : decode (ax_code 235) 97 = .ok (.getfield 91, 3) := by decide +kernel
theorem dc_235_100 : decode (ax_code 235) 100 = .ok (.iload_n 3, 1) := by decide +kernel
theorem dc_235_101 : decode (ax_code 235) 101 = .ok (.iconst 3, 1) := by decide +kernel
theorem dc_235_102 : decode (ax_code 235) 102 = .ok (.iadd, 1) := by decide +kernel
theorem dc_235_103 : decode (ax_code 235) 103 = .ok (.iaload, 1) := by decide +kernel
theorem dc_235_104 : decode (ax_code 235) 104 = .ok (.invokevirtual 170, 3) := by decide +kernel
theorem dc_235_107 : decode (ax_code 235) 107 = .ok (.pop, 1) := by decide +kernel
theorem dc_235_108 : decode (ax_code 235) 108 = .ok (.iinc 2 1, 3) := by decide +kernel
theorem dc_235_111 : decode (ax_code 235) 111 = .ok (.goto (-80), 3) := by decide +kernel
theorem dc_235_114 : decode (ax_code 235) 114 = .ok (.aload_n 0, 1) := by decide +kernel
theorem dc_235_115 : decode (ax_code 235) 115 = .ok (.getfield 127, 3) := by decide +kernel
theorem dc_235_118 : decode (ax_code 235) 118 = .ok (.ireturn, 1) := by decide +kernel
theorem dc_236_0 : decode (ax_code 236) 0 = .ok (.iload_n 1, 1) := by decide +kernel
theorem dc_236_1 : decode (ax_code 236) 1 = .ok (.invokestatic 368, 3) := by decide +kernel
theorem dc_236_4 : decode (ax_code 236) 4 = .ok (.ifCond .eq 32, 3) := by decide +kernel
theorem dc_236_7 : decode (ax_code 236) 7 = .ok (.iload_n 2, 1) := by decide +kernel
theorem dc_236_8 : decode (ax_code 236) 8 = .ok (.invokestatic 149, 3) := by decide +kernel
theorem dc_236_11 : decode (ax_code 236) 11 = .ok (.ifCond .eq 25, 3) := by decide +kernel
theorem dc_236_14 : decode (ax_code 236) 14 = .ok (.aload_n 0, 1) := by decide +kernel
theorem dc_236_15 : decode (ax_code 236) 15 = .ok (.iload_n 3, 1) := by decide +kernel
theorem dc_236_16 : decode (ax_code 236) 16 = .ok (.invokevirtual 181, 3) := by decide +kernel
theorem dc_236_19 : decode (ax_code 236) 19 = .ok (.ifCond .eq 17, 3) := by decide +kernel
theorem dc_236_22 : decode (ax_code 236) 22 = .ok (.iload 5, 2) := by decide +kernel
theorem dc_236_24 : decode (ax_code 236) 24 = .ok (.i2l, 1) := by decide +kernel
theorem dc_236_25 : decode (ax_code 236) 25 = .ok (.lconst 0, 1) := by decide +kernel
theorem dc_236_26 : decode (ax_code 236) 26 = .ok (.iload_n 3, 1) := by decide +kernel
theorem dc_236_27 : decode (ax_code 236) 27 = .ok (.iconst 1, 1) := by decide +kernel
theorem dc_236_28 : decode (ax_code 236) 28 = .ok (.isub, 1) := by decide +kernel
theorem dc_236_29 : decode (ax_code 236) 29 = .ok (.i2l, 1) := by decide +kernel
theorem dc_236_30 : decode (ax_code 236) 30 = .ok (.invokestatic 123, 3) := by decide +kernel
theorem dc_236_33 : decode (ax_code 236) 33 = .ok (.ifCond .ne 6, 3) := by decide +kernel
theorem dc_236_36 : decode (ax_code 236) 36 = .ok (.bipush (-2), 2) := by decide +kernel
theorem dc_236_38 : decode (ax_code 236) 38 = .ok (.ireturn, 1) := by decide +kernel
theorem dc_236_39 : decode (ax_code 236) 39 = .ok (.aload_n 0, 1) := by decide +kernel
theorem dc_236_40 : decode (ax_code 236) 40 = .ok (.iload_n 1, 1) := by decide +kernel
theorem dc_236_41 : decode (ax_code 236) 41 = .ok (.iconst 0, 1) := by decide +kernel
theorem dc_236_42 : decode (ax_code 236) 42 = .ok (.iconst 5, 1) := by decide +kernel
theorem dc_236_43 : decode (ax_code 236) 43 = .ok (.invokevirtual 371, 3) := by decide +kernel
theorem dc_236_46 : decode (ax_code 236) 46 = .ok (.aload_n 0, 1) := by decide +kernel
theorem dc_236_47 : decode (ax_code 236) 47 = .ok (.iload_n 3, 1) := by decide +kernel
theorem dc_236_48 : decode (ax_code 236) 48 = .ok (.invokevirtual 187, 3) := by decide +kernel
theorem dc_236_51 : decode (ax_code 236) 51 = .ok (.istore 6, 2) := by decide +kernel
theorem dc_236_53 : decode (ax_code 236) 53 = .ok (.iconst 0, 1) := by decide +kernel
theorem dc_236_54 : decode (ax_code 236) 54 = .ok (.istore 7, 2) := by decide +kernel
theorem dc_236_56 : decode (ax_code 236) 56 = .ok (.iload 7, 2) := by decide +kernel
theorem dc_236_58 : decode (ax_code 236) 58 = .ok (.iload 6, 2) := by decide +kernel
theorem dc_236_60 : decode (ax_code 236) 60 = .ok (.if_icmp .ge 45, 3) := by decide +kernel
theorem dc_236_63 : decode (ax_code 236) 63 = .ok (.aload_n 0, 1) := by decide +kernel
theorem dc_236_64 : decode (ax_code 236) 64 = .ok (.iload 7, 2) := by decide +kernel
theorem dc_236_66 : decode (ax_code 236) 66 = .ok (.iload_n 3, 1) := by decide +kernel
theorem dc_236_67 : decode (ax_code 236) 67 = .ok (.invokevirtual 193, 3) := by decide +kernel
theorem dc_236_70 : decode (ax_code 236) 70 = .ok (.aload_n 0, 1) := by decide +kernel
theorem dc_236_71 : decode (ax_code 236) 71 = .ok (.iload_n 2, 1) := by decide +kernel
theorem dc_236_72 : decode (ax_code 236) 72 = .ok (.iload_n 3, 1) := by decide +kernel
theorem dc_236_73 : decode (ax_code 236) 73 = .ok (.invokevirtual 211, 3) := by decide +kernel
theorem dc_236_76 : decode (ax_code 236) 76 = .ok (.iload 4, 2) := by decide +kernel
theorem dc_236_78 : decode (ax_code 236) 78 = .ok (.if_icmp .ne 21, 3) := by decide +kernel
theorem dc_236_81 : decode (ax_code 236) 81 = .ok (.aload_n 0, 1) := by decide +kernel
theorem dc_236_82 : decode (ax_code 236) 82 = .ok (.getfield 100, 3) := by decide +kernel
theorem dc_236_85 : decode (ax_code 236) 85 = .ok (.bipush 40, 2) := by decide +kernel
theorem dc_236_87 : decode (ax_code 236) 87 = .ok (.iload_n 1, 1) := by decide +kernel
theorem dc_236_88 : decode (ax_code 236) 88 = .ok (.imul, 1) := by decide +kernel
theorem dc_236_89 : decode (ax_code 236) 89 = .ok (.aload_n 0, 1) := by decide +kernel
theorem dc_236_90 : decode (ax_code 236) 90 = .ok (.getfield 36, 3) := by decide +kernel
theorem dc_236_93 : decode (ax_code 236) 93 = .ok (.iload 5, 2) := by decide +kernel
theorem dc_236_95 : decode (ax_code 236) 95 = .ok (.iaload, 1) := by decide +kernel
theorem dc_236_96 : decode (ax_code 236) 96 = .ok (.iadd, 1) := by decide +kernel
theorem dc_236_97 : decode (ax_code 236) 97 = .ok (.iconst 1, 1) := by decide +kernel
theorem dc_236_98 : decode (ax_code 236) 98 = .ok (.iastore, 1) := by decide +kernel
theorem dc_236_99 : decode (ax_code 236) 99 = .ok (.iinc 7 1, 3) := by decide +kernel
theorem dc_236_102 : decode (ax_code 236) 102 = .ok (.goto (-46), 3) := by decide +kernel
theorem dc_236_105 : decode (ax_code 236) 105 = .ok (.iconst 0, 1) := by decide +kernel
theorem dc_236_106 : decode (ax_code 236) 106 = .ok (.istore 7, 2) := by decide +kernel
theorem dc_236_108 : decode (ax_code 236) 108 = .ok (.iconst 0, 1) := by decide +kernel
theorem dc_236_109 : decode (ax_code 236) 109 = .ok (.istore 8, 2) := by decide +kernel
theorem dc_236_111 : decode (ax_code 236) 111 = .ok (.iload 8, 2) := by decide +kernel
theorem dc_236_113 : decode (ax_code 236) 113 = .ok (.iconst 5, 1) := by decide +kernel
theorem dc_236_114 : decode (ax_code 236) 114 = .ok (.if_icmp .ge 26, 3) := by decide +kernel
theorem dc_236_117 : decode (ax_code 236) 117 = .ok (.iload 7, 2) := by decide +kernel
theorem dc_236_119 : decode (ax_code 236) 119 = .ok (.aload_n 0, 1) := by decide +kernel
theorem dc_236_120 : decode (ax_code 236) 120 = .ok (.getfield 100, 3) := by decide +kernel
theorem dc_236_123 : decode (ax_code 236) 123 = .ok (.bipush 40, 2) := by decide +kernel
theorem dc_236_125 : decode (ax_code 236) 125 = .ok (.iload_n 1, 1) := by decide +kernel
theorem dc_236_126 : decode (ax_code 236) 126 = .ok (.imul, 1) := by decide +kernel
theorem dc_236_127 : decode (ax_code 236) 127 = .ok (.iload 8, 2) := by decide +kernel
theorem dc_236_129 : decode (ax_code 236) 129 = .ok (.iadd, 1) := by decide +kernel
theorem dc_236_130 : decode (ax_code 236) 130 = .ok (.iaload, 1) := by decide +kernel
theorem dc_236_131 : decode (ax_code 236) 131 = .ok (.iadd, 1) := by decide +kernel
theorem dc_236_132 : decode (ax_code 236) 132 = .ok (.istore 7, 2) := by decide +kernel
theorem dc_236_134 : decode (ax_code 236) 134 = .ok (.iinc 8 1, 3) := by decide +kernel
theorem dc_236_137 : decode (ax_code 236) 137 = .ok (.goto (-26), 3) := by decide +kernel
theorem dc_236_140 : decode (ax_code 236) 140 = .ok (.iload 7, 2) := by decide +kernel
theorem dc_236_142 : decode (ax_code 236) 142 = .ok (.ireturn, 1) := by decide +kernel
theorem dc_237_0 : decode (ax_code 237) 0 = .ok (.iload_n 0, 1) := by decide +kernel
theorem dc_237_1 : decode (ax_code 237) 1 = .ok (.i2l, 1) := by decide +kernel
theorem dc_237_2 : decode (ax_code 237) 2 = .ok (.lconst 0, 1) := by decide +kernel
theorem dc_237_3 : decode (ax_code 237) 3 = .ok (.ldc2_w 157, 3) := by decide +kernel
theorem dc_237_6 : decode (ax_code 237) 6 = .ok (.invokestatic 123, 3) := by decide +kernel
theorem dc_237_9 : decode (ax_code 237) 9 = .ok (.ireturn, 1) := by decide +kernel
theorem dc_238_0 : decode (ax_code 238) 0 = .ok (.aload_n 0, 1) := by decide +kernel
theorem dc_238_1 : decode (ax_code 238) 1 = .ok (.getfield 94, 3) := by decide +kernel
theorem dc_238_4 : decode (ax_code 238) 4 = .ok (.iload_n 1, 1) := by decide +kernel
theorem dc_238_5 : decode (ax_code 238) 5 = .ok (.iload_n 2, 1) := by decide +kernel
theorem dc_238_6 : decode (ax_code 238) 6 = .ok (.iastore, 1) := by decide +kernel
theorem dc_238_7 : decode (ax_code 238) 7 = .ok (.aload_n 0, 1) := by decide +kernel
theorem dc_238_8 : decode (ax_code 238) 8 = .ok (.getfield 97, 3) := by decide +kernel
theorem dc_238_11 : decode (ax_code 238) 11 = .ok (.iload_n 1, 1) := by decide +kernel
theorem dc_238_12 : decode (ax_code 238) 12 = .ok (.iload_n 2, 1) := by decide +kernel
theorem dc_238_13 : decode (ax_code 238) 13 = .ok (.ifCond .ge 7, 3) := by decide +kernel
theorem dc_238_16 : decode (ax_code 238) 16 = .ok (.iconst 0, 1) := by decide +kernel
theorem dc_238_17 : decode (ax_code 238) 17 = .ok (.goto 4, 3) := by decide +kernel
theorem dc_238_20 : decode (ax_code 238) 20 = .ok (.iload_n 3, 1) := by decide +kernel
theorem dc_238_21 : decode (ax_code 238) 21 = .ok (.iastore, 1) := by decide +kernel
theorem dc_238_22 : decode (ax_code 238) 22 = .ok (.iconst 0, 1) := by decide +kernel
theorem dc_238_23 : decode (ax_code 238) 23 = .ok (.istore 4, 2) := by decide +kernel
theorem dc_238_25 : decode (ax_code 238) 25 = .ok (.iload 4, 2) := by decide +kernel
theorem dc_238_27 : decode (ax_code 238) 27 = .ok (.bipush 40, 2) := by decide +kernel
theorem dc_238_29 : decode (ax_code 238) 29 = .ok (.if_icmp .ge 22, 3) := by decide +kernel
theorem dc_238_32 : decode (ax_code 238) 32 = .ok (.aload_n 0, 1) := by decide +kernel
theorem dc_238_33 : decode (ax_code 238) 33 = .ok (.getfield 100, 3) := by decide +kernel
theorem dc_238_36 : decode (ax_code 238) 36 = .ok (.bipush 40, 2) := by decide +kernel
theorem dc_238_38 : decode (ax_code 238) 38 = .ok (.iload_n 1, 1) := by decide +kernel
theorem dc_238_39 : decode (ax_code 238) 39 = .ok (.imul, 1) := by decide +kernel
theorem dc_238_40 : decode (ax_code 238) 40 = .ok (.iload 4, 2) := by decide +kernel
theorem dc_238_42 : decode (ax_code 238) 42 = .ok (.iadd, 1) := by decide +kernel
theorem dc_238_43 : decode (ax_code 238) 43 = .ok (.iconst 0, 1) := by decide +kernel
theorem dc_238_44 : decode (ax_code 238) 44 = .ok (.iastore, 1) := by decide +kernel
theorem dc_238_45 : decode (ax_code 238) 45 = .ok (.iinc 4 1, 3) := by decide +kernel
theorem dc_238_48 : decode (ax_code 238) 48 = .ok (.goto (-23), 3) := by decide +kernel
theorem dc_238_51 : decode (ax_code 238) 51 = .ok (.return_, 1) := by decide +kernel
theorem dc_239_0 : decode (ax_code 239) 0 = .ok (.iload_n 1, 1) := by decide +kernel
theorem dc_239_1 : decode (ax_code 239) 1 = .ok (.invokestatic 368, 3) := by decide +kernel
theorem dc_239_4 : decode (ax_code 239) 4 = .ok (.ifCond .eq 25, 3) := by decide +kernel
theorem dc_239_7 : decode (ax_code 239) 7 = .ok (.iload_n 2, 1) := by decide +kernel
theorem dc_239_8 : decode (ax_code 239) 8 = .ok (.i2l, 1) := by decide +kernel
theorem dc_239_9 : decode (ax_code 239) 9 = .ok (.ldc2_w 274, 3) := by decide +kernel
theorem dc_239_12 : decode (ax_code 239) 12 = .ok (.lconst 1, 1) := by decide +kernel
theorem dc_239_13 : decode (ax_code 239) 13 = .ok (.invokestatic 123, 3) := by decide +kernel
theorem dc_239_16 : decode (ax_code 239) 16 = .ok (.ifCond .eq 13, 3) := by decide +kernel
theorem dc_239_19 : decode (ax_code 239) 19 = .ok (.iload_n 2, 1) := by decide +kernel
theorem dc_239_20 : decode (ax_code 239) 20 = .ok (.ifCond .lt 12, 3) := by decide +kernel
theorem dc_239_23 : decode (ax_code 239) 23 = .ok (.iload_n 3, 1) := by decide +kernel
theorem dc_239_24 : decode (ax_code 239) 24 = .ok (.bipush 40, 2) := by decide +kernel
theorem dc_239_26 : decode (ax_code 239) 26 = .ok (.if_icmp .le 6, 3) := by decide +kernel
theorem dc_239_29 : decode (ax_code 239) 29 = .ok (.bipush (-2), 2) := by decide +kernel
theorem dc_239_31 : decode (ax_code 239) 31 = .ok (.ireturn, 1) := by decide +kernel
theorem dc_239_32 : decode (ax_code 239) 32 = .ok (.iload_n 2, 1) := by decide +kernel
theorem dc_239_33 : decode (ax_code 239) 33 = .ok (.ifCond .lt 10, 3) := by decide +kernel
theorem dc_239_36 : decode (ax_code 239) 36 = .ok (.iload_n 3, 1) := by decide +kernel
theorem dc_239_37 : decode (ax_code 239) 37 = .ok (.ifCond .ge 6, 3) := by decide +kernel
theorem dc_239_40 : decode (ax_code 239) 40 = .ok (.bipush (-14), 2) := by decide +kernel
theorem dc_239_42 : decode (ax_code 239) 42 = .ok (.ireturn, 1) := by decide +kernel
theorem dc_239_43 : decode (ax_code 239) 43 = .ok (.aload_n 0, 1) := by decide +kernel
theorem dc_239_44 : decode (ax_code 239) 44 = .ok (.iload_n 1, 1) := by decide +kernel
theorem dc_239_45 : decode (ax_code 239) 45 = .ok (.iload_n 2, 1) := by decide +kernel
theorem dc_239_46 : decode (ax_code 239) 46 = .ok (.iload_n 3, 1) := by decide +kernel
theorem dc_239_47 : decode (ax_code 239) 47 = .ok (.invokevirtual 371, 3) := by decide +kernel
theorem dc_239_50 : decode (ax_code 239) 50 = .ok (.iconst 1, 1) := by decide +kernel
theorem dc_239_51 : decode (ax_code 239) 51 = .ok (.ireturn, 1) := by decide +kernel
theorem dc_240_0 : decode (ax_code 240) 0 = .ok (.aload_n 0, 1) := by decide +kernel
theorem dc_240_1 : decode (ax_code 240) 1 = .ok (.iload_n 1, 1) := by decide +kernel
theorem dc_240_2 : decode (ax_code 240) 2 = .ok (.iload_n 2, 1) := by decide +kernel
theorem dc_240_3 : decode (ax_code 240) 3 = .ok (.invokevirtual 375, 3) := by decide +kernel
theorem dc_240_6 : decode (ax_code 240) 6 = .ok (.istore 4, 2) := by decide +kernel
theorem dc_240_8 : decode (ax_code 240) 8 = .ok (.iload 4, 2) := by decide +kernel
theorem dc_240_10 : decode (ax_code 240) 10 = .ok (.ifCond .eq 6, 3) := by decide +kernel
theorem dc_240_13 : decode (ax_code 240) 13 = .ok (.iload 4, 2) := by decide +kernel
theorem dc_240_15 : decode (ax_code 240) 15 = .ok (.ireturn, 1) := by decide +kernel
theorem dc_240_16 : decode (ax_code 240) 16 = .ok (.aload_n 0, 1) := by decide +kernel
theorem dc_240_17 : decode (ax_code 240) 17 = .ok (.getfield 100, 3) := by decide +kernel
theorem dc_240_20 : decode (ax_code 240) 20 = .ok (.bipush 40, 2) := by decide +kernel
theorem dc_240_22 : decode (ax_code 240) 22 = .ok (.iload_n 1, 1) := by decide +kernel
theorem dc_240_23 : decode (ax_code 240) 23 = .ok (.imul, 1) := by decide +kernel
theorem dc_240_24 : decode (ax_code 240) 24 = .ok (.iload_n 2, 1) := by decide +kernel
theorem dc_240_25 : decode (ax_code 240) 25 = .ok (.iadd, 1) := by decide +kernel
theorem dc_240_26 : decode (ax_code 240) 26 = .ok (.aload_n 0, 1) := by decide +kernel
theorem dc_240_27 : decode (ax_code 240) 27 = .ok (.getfield 94, 3) := by decide +kernel
theorem dc_240_30 : decode (ax_code 240) 30 = .ok (.iload_n 1, 1) := by decide +kernel
theorem dc_240_31 : decode (ax_code 240) 31 = .ok (.iaload, 1) := by decide +kernel
theorem dc_240_32 : decode (ax_code 240) 32 = .ok (.iconst 1, 1) := by decide +kernel
theorem dc_240_33 : decode (ax_code 240) 33 = .ok (.if_icmp .ne 7, 3) := by decide +kernel
theorem dc_240_36 : decode (ax_code 240) 36 = .ok (.iload_n 3, 1) := by decide +kernel
theorem dc_240_37 : decode (ax_code 240) 37 = .ok (.goto 12, 3) := by decide +kernel
theorem dc_240_40 : decode (ax_code 240) 40 = .ok (.iload_n 3, 1) := by decide +kernel
theorem dc_240_41 : decode (ax_code 240) 41 = .ok (.ifCond .ne 7, 3) := by decide +kernel
theorem dc_240_44 : decode (ax_code 240) 44 = .ok (.iconst 0, 1) := by decide +kernel
theorem dc_240_45 : decode (ax_code 240) 45 = .ok (.goto 4, 3) := by decide +kernel
theorem dc_240_48 : decode (ax_code 240) 48 = .ok (.iconst 1, 1) := by decide +kernel
theorem dc_240_49 : decode (ax_code 240) 49 = .ok (.iastore, 1) := by decide +kernel
theorem dc_240_50 : decode (ax_code 240) 50 = .ok (.iconst 1, 1) := by decide +kernel
theorem dc_240_51 : decode (ax_code 240) 51 = .ok (.ireturn, 1) := by decide +kernel
theorem dc_241_0 : decode (ax_code 241) 0 = .ok (.iload_n 1, 1) := by decide +kernel
theorem dc_241_1 : decode (ax_code 241) 1 = .ok (.invokestatic 368, 3) := by decide +kernel
theorem dc_241_4 : decode (ax_code 241) 4 = .ok (.ifCond .ne 8, 3) := by decide +kernel
theorem dc_241_7 : decode (ax_code 241) 7 = .ok (.bipush (-2), 2) := by decide +kernel
theorem dc_241_9 : decode (ax_code 241) 9 = .ok (.goto 41, 3) := by decide +kernel
theorem dc_241_12 : decode (ax_code 241) 12 = .ok (.aload_n 0, 1) := by decide +kernel
theorem dc_241_13 : decode (ax_code 241) 13 = .ok (.getfield 94, 3) := by decide +kernel
theorem dc_241_16 : decode (ax_code 241) 16 = .ok (.iload_n 1, 1) := by decide +kernel
theorem dc_241_17 : decode (ax_code 241) 17 = .ok (.iaload, 1) := by decide +kernel
theorem dc_241_18 : decode (ax_code 241) 18 = .ok (.ifCond .ge 8, 3) := by decide +kernel
theorem dc_241_21 : decode (ax_code 241) 21 = .ok (.bipush (-11), 2) := by decide +kernel
theorem dc_241_23 : decode (ax_code 241) 23 = .ok (.goto 27, 3) := by decide +kernel
theorem dc_241_26 : decode (ax_code 241) 26 = .ok (.iload_n 2, 1) := by decide +kernel
theorem dc_241_27 : decode (ax_code 241) 27 = .ok (.i2l, 1) := by decide +kernel
theorem dc_241_28 : decode (ax_code 241) 28 = .ok (.lconst 0, 1) := by decide +kernel
theorem dc_241_29 : decode (ax_code 241) 29 = .ok (.aload_n 0, 1) := by decide +kernel
theorem dc_241_30 : decode (ax_code 241) 30 = .ok (.getfield 97, 3) := by decide +kernel
theorem dc_241_33 : decode (ax_code 241) 33 = .ok (.iload_n 1, 1) := by decide +kernel
theorem dc_241_34 : decode (ax_code 241) 34 = .ok (.iaload, 1) := by decide +kernel
theorem dc_241_35 : decode (ax_code 241) 35 = .ok (.iconst 1, 1) := by decide +kernel
theorem dc_241_36 : decode (ax_code 241) 36 = .ok (.isub, 1) := by decide +kernel
theorem dc_241_37 : decode (ax_code 241) 37 = .ok (.i2l, 1) := by decide +kernel
theorem dc_241_38 : decode (ax_code 241) 38 = .ok (.invokestatic 123, 3) := by decide +kernel
theorem dc_241_41 : decode (ax_code 241) 41 = .ok (.ifCond .eq 7, 3) := by decide +kernel
theorem dc_241_44 : decode (ax_code 241) 44 = .ok (.iconst 0, 1) := by decide +kernel
theorem dc_241_45 : decode (ax_code 241) 45 = .ok (.goto 5, 3) := by decide +kernel
theorem dc_241_48 : decode (ax_code 241) 48 = .ok (.bipush (-12), 2) := by decide +kernel
theorem dc_241_50 : decode (ax_code 241) 50 = .ok (.ireturn, 1) := by decide +kernel
theorem dc_242_0 : decode (ax_code 242) 0 = .ok (.aload_n 0, 1) := by decide +kernel
theorem dc_242_1 : decode (ax_code 242) 1 = .ok (.iload_n 1, 1) := by decide +kernel
theorem dc_242_2 : decode (ax_code 242) 2 = .ok (.iload_n 2, 1) := by decide +kernel
theorem dc_242_3 : decode (ax_code 242) 3 = .ok (.invokevirtual 375, 3) := by decide +kernel
theorem dc_242_6 : decode (ax_code 242) 6 = .ok (.istore_n 3, 1) := by decide +kernel
theorem dc_242_7 : decode (ax_code 242) 7 = .ok (.iload_n 3, 1) := by decide +kernel
theorem dc_242_8 : decode (ax_code 242) 8 = .ok (.ifCond .eq 7, 3) := by decide +kernel
theorem dc_242_11 : decode (ax_code 242) 11 = .ok (.iload_n 3, 1) := by decide +kernel
theorem dc_242_12 : decode (ax_code 242) 12 = .ok (.goto 14, 3) := by decide +kernel
theorem dc_242_15 : decode (ax_code 242) 15 = .ok (.aload_n 0, 1) := by decide +kernel
theorem dc_242_16 : decode (ax_code 242) 16 = .ok (.getfield 100, 3) := by decide +kernel
theorem dc_242_19 : decode (ax_code 242) 19 = .ok (.bipush 40, 2) := by decide +kernel
theorem dc_242_21 : decode (ax_code 242) 21 = .ok (.iload_n 1, 1) := by decide +kernel
theorem dc_242_22 : decode (ax_code 242) 22 = .ok (.imul, 1) := by decide +kernel
theorem dc_242_23 : decode (ax_code 242) 23 = .ok (.iload_n 2, 1) := by decide +kernel
theorem dc_242_24 : decode (ax_code 242) 24 = .ok (.iadd, 1) := by decide +kernel
theorem dc_242_25 : decode (ax_code 242) 25 = .ok (.iaload, 1) := by decide +kernel
theorem dc_242_26 : decode (ax_code 242) 26 = .ok (.ireturn, 1) := by decide +kernel
theorem dc_243_0 : decode (ax_code 243) 0 = .ok (.iload_n 1, 1) := by decide +kernel
theorem dc_243_1 : decode (ax_code 243) 1 = .ok (.invokestatic 368, 3) := by decide +kernel
theorem dc_243_4 : decode (ax_code 243) 4 = .ok (.ifCond .eq 10, 3) := by decide +kernel
theorem dc_243_7 : decode (ax_code 243) 7 = .ok (.iload_n 2, 1) := by decide +kernel
theorem dc_243_8 : decode (ax_code 243) 8 = .ok (.invokestatic 149, 3) := by decide +kernel
theorem dc_243_11 : decode (ax_code 243) 11 = .ok (.ifCond .ne 6, 3) := by decide +kernel
theorem dc_243_14 : decode (ax_code 243) 14 = .ok (.bipush (-2), 2) := by decide +kernel
theorem dc_243_16 : decode (ax_code 243) 16 = .ok (.ireturn, 1) := by decide +kernel
theorem dc_243_17 : decode (ax_code 243) 17 = .ok (.aload_n 0, 1) := by decide +kernel
theorem dc_243_18 : decode (ax_code 243) 18 = .ok (.getfield 94, 3) := by decide +kernel
theorem dc_243_21 : decode (ax_code 243) 21 = .ok (.iload_n 1, 1) := by decide +kernel
theorem dc_243_22 : decode (ax_code 243) 22 = .ok (.iaload, 1) := by decide +kernel
theorem dc_243_23 : decode (ax_code 243) 23 = .ok (.ifCond .ge 6, 3) := by decide +kernel
theorem dc_243_26 : decode (ax_code 243) 26 = .ok (.bipush (-11), 2) := by decide +kernel
theorem dc_243_28 : decode (ax_code 243) 28 = .ok (.ireturn, 1) := by decide +kernel
theorem dc_243_29 : decode (ax_code 243) 29 = .ok (.aload_n 0, 1) := by decide +kernel
theorem dc_243_30 : decode (ax_code 243) 30 = .ok (.iload_n 2, 1) := by decide +kernel
theorem dc_243_31 : decode (ax_code 243) 31 = .ok (.invokevirtual 238, 3) := by decide +kernel
theorem dc_243_34 : decode (ax_code 243) 34 = .ok (.iconst 0, 1) := by decide +kernel
theorem dc_243_35 : decode (ax_code 243) 35 = .ok (.istore_n 3, 1) := by decide +kernel
theorem dc_243_36 : decode (ax_code 243) 36 = .ok (.iload_n 3, 1) := by decide +kernel
theorem dc_243_37 : decode (ax_code 243) 37 = .ok (.aload_n 0, 1) := by decide +kernel
theorem dc_243_38 : decode (ax_code 243) 38 = .ok (.getfield 97, 3) := by decide +kernel
theorem dc_243_41 : decode (ax_code 243) 41 = .ok (.iload_n 1, 1) := by decide +kernel
theorem dc_243_42 : decode (ax_code 243) 42 = .ok (.iaload, 1) := by decide +kernel
theorem dc_243_43 : decode (ax_code 243) 43 = .ok (.if_icmp .ge 81, 3) := by decide +kernel
theorem dc_243_46 : decode (ax_code 243) 46 = .ok (.iload_n 3, 1) := by decide +kernel
theorem dc_243_47 : decode (ax_code 243) 47 = .ok (.aload_n 0, 1) := by decide +kernel
theorem dc_243_48 : decode (ax_code 243) 48 = .ok (.getfield 232, 3) := by decide +kernel
theorem dc_243_51 : decode (ax_code 243) 51 = .ok (.if_icmp .ge 73, 3) := by decide +kernel
theorem dc_243_54 : decode (ax_code 243) 54 = .ok (.aload_n 0, 1) := by decide +kernel
theorem dc_243_55 : decode (ax_code 243) 55 = .ok (.getfield 100, 3) := by decide +kernel
theorem dc_243_58 : decode (ax_code 243) 58 = .ok (.bipush 40, 2) := by decide +kernel
theorem dc_243_60 : decode (ax_code 243) 60 = .ok (.iload_n 1, 1) := by decide +kernel
theorem dc_243_61 : decode (ax_code 243) 61 = .ok (.imul, 1) := by decide +kernel
theorem dc_243_62 : decode (ax_code 243) 62 = .ok (.iload_n 3, 1) := by decide +kernel
theorem dc_243_63 : decode (ax_code 243) 63 = .ok (.iadd, 1) := by decide +kernel
theorem dc_243_64 : decode (ax_code 243) 64 = .ok (.iaload, 1) := by decide +kernel
theorem dc_243_65 : decode (ax_code 243) 65 = .ok (.i2l, 1) := by decide +kernel
theorem dc_243_66 : decode (ax_code 243) 66 = .ok (.lconst 0, 1) := by decide +kernel
theorem dc_243_67 : decode (ax_code 243) 67 = .ok (.aload_n 0, 1) := by decide +kernel
theorem dc_243_68 : decode (ax_code 243) 68 = .ok (.getfield 23, 3) := by decide +kernel
theorem dc_243_71 : decode (ax_code 243) 71 = .ok (.aload_n 0, 1) := by decide +kernel
theorem dc_243_72 : decode (ax_code 243) 72 = .ok (.getfield 39, 3) := by decide +kernel
theorem dc_243_75 : decode (ax_code 243) 75 = .ok (.iload_n 3, 1) := by decide +kernel
theorem dc_243_76 : decode (ax_code 243) 76 = .ok (.iaload, 1) := by decide +kernel
theorem dc_243_77 : decode (ax_code 243) 77 = .ok (.iaload, 1) := by decide +kernel
theorem dc_243_78 : decode (ax_code 243) 78 = .ok (.iconst 1, 1) := by decide +kernel
theorem dc_243_79 : decode (ax_code 243) 79 = .ok (.isub, 1) := by decide +kernel
theorem dc_243_80 : decode (ax_code 243) 80 = .ok (.i2l, 1) := by decide +kernel
theorem dc_243_81 : decode (ax_code 243) 81 = .ok (.invokestatic 123, 3) := by decide +kernel
theorem dc_243_84 : decode (ax_code 243) 84 = .ok (.ifCond .eq 40, 3) := by decide +kernel
theorem dc_243_87 : decode (ax_code 243) 87 = .ok (.aload_n 0, 1) := by decide +kernel
theorem dc_243_88 : decode (ax_code 243) 88 = .ok (.iload_n 2, 1) := by decide +kernel
theorem dc_243_89 : decode (ax_code 243) 89 = .ok (.aload_n 0, 1) := by decide +kernel
theorem dc_243_90 : decode (ax_code 243) 90 = .ok (.getfield 39, 3) := by decide +kernel
theorem dc_243_93 : decode (ax_code 243) 93 = .ok (.iload_n 3, 1) := by decide +kernel
theorem dc_243_94 : decode (ax_code 243) 94 = .ok (.iaload, 1) := by decide +kernel
theorem dc_243_95 : decode (ax_code 243) 95 = .ok (.aload_n 0, 1) := by decide +kernel
theorem dc_243_96 : decode (ax_code 243) 96 = .ok (.getfield 42, 3) := by decide +kernel
theorem dc_243_99 : decode (ax_code 243) 99 = .ok (.iload_n 3, 1) := by decide +kernel
theorem dc_243_100 : decode (ax_code 243) 100 = .ok (.iaload, 1) := by decide +kernel
theorem dc_243_101 : decode (ax_code 243) 101 = .ok (.aload_n 0, 1) := by decide +kernel
theorem dc_243_102 : decode (ax_code 243) 102 = .ok (.getfield 100, 3) := by decide +kernel
theorem dc_243_105 : decode (ax_code 243) 105 = .ok (.bipush 40, 2) := by decide +kernel
theorem dc_243_107 : decode (ax_code 243) 107 = .ok (.iload_n 1, 1) := by decide +kernel
theorem dc_243_108 : decode (ax_code 243) 108 = .ok (.imul, 1) := by decide +kernel
theorem dc_243_109 : decode (ax_code 243) 109 = .ok (.iload_n 3, 1) := by decide +kernel
theorem dc_243_110 : decode (ax_code 243) 110 = .ok (.iadd, 1) := by decide +kernel
theorem dc_243_111 : decode (ax_code 243) 111 = .ok (.iaload, 1) := by decide +kernel
theorem dc_243_112 : decode (ax_code 243) 112 = .ok (.invokevirtual 245, 3) := by decide +kernel
theorem dc_243_115 : decode (ax_code 243) 115 = .ok (.ifCond .eq 9, 3) := by decide +kernel
theorem dc_243_118 : decode (ax_code 243) 118 = .ok (.iinc 3 1, 3) := by decide +kernel
theorem dc_243_121 : decode (ax_code 243) 121 = .ok (.goto (-85), 3) := by decide +kernel
theorem dc_243_124 : decode (ax_code 243) 124 = .ok (.iload_n 3, 1) := by decide +kernel
theorem dc_243_125 : decode (ax_code 243) 125 = .ok (.ireturn, 1) := by decide +kernel
theorem dc_244_0 : decode (ax_code 244) 0 = .ok (.iload_n 1, 1) := by decide +kernel
theorem dc_244_1 : decode (ax_code 244) 1 = .ok (.invokestatic 378, 3) := by decide +kernel
theorem dc_244_4 : decode (ax_code 244) 4 = .ok (.ifCond .eq 55, 3) := by decide +kernel
theorem dc_244_7 : decode (ax_code 244) 7 = .ok (.iload_n 2, 1) := by decide +kernel
theorem dc_244_8 : decode (ax_code 244) 8 = .ok (.i2l, 1) := by decide +kernel
theorem dc_244_9 : decode (ax_code 244) 9 = .ok (.lconst 0, 1) := by decide +kernel
theorem dc_244_10 : decode (ax_code 244) 10 = .ok (.ldc2_w 157, 3) := by decide +kernel
theorem dc_244_13 : decode (ax_code 244) 13 = .ok (.invokestatic 123, 3) := by decide +kernel
theorem dc_244_16 : decode (ax_code 244) 16 = .ok (.ifCond .eq 43, 3) := by decide +kernel
theorem dc_244_19 : decode (ax_code 244) 19 = .ok (.iload_n 2, 1) := by decide +kernel
theorem dc_244_20 : decode (ax_code 244) 20 = .ok (.iconst 1, 1) := by decide +kernel
theorem dc_244_21 : decode (ax_code 244) 21 = .ok (.if_icmp .ne 18, 3) := by decide +kernel
theorem dc_244_24 : decode (ax_code 244) 24 = .ok (.lload_n 3, 1) := by decide +kernel
theorem dc_244_25 : decode (ax_code 244) 25 = .ok (.lconst 0, 1) := by decide +kernel
theorem dc_244_26 : decode (ax_code 244) 26 = .ok (.aload_n 0, 1) := by decide +kernel
theorem dc_244_27 : decode (ax_code 244) 27 = .ok (.getfield 127, 3) := by decide +kernel
theorem dc_244_30 : decode (ax_code 244) 30 = .ok (.iconst 1, 1) := by decide +kernel
theorem dc_244_31 : decode (ax_code 244) 31 = .ok (.isub, 1) := by decide +kernel
theorem dc_244_32 : decode (ax_code 244) 32 = .ok (.i2l, 1) := by decide +kernel
theorem dc_244_33 : decode (ax_code 244) 33 = .ok (.invokestatic 123, 3) := by decide +kernel
theorem dc_244_36 : decode (ax_code 244) 36 = .ok (.ifCond .eq 23, 3) := by decide +kernel
theorem dc_244_39 : decode (ax_code 244) 39 = .ok (.iload_n 2, 1) := by decide +kernel
theorem dc_244_40 : decode (ax_code 244) 40 = .ok (.iconst 2, 1) := by decide +kernel
theorem dc_244_41 : decode (ax_code 244) 41 = .ok (.if_icmp .ne 21, 3) := by decide +kernel
theorem dc_244_44 : decode (ax_code 244) 44 = .ok (.lload_n 3, 1) := by decide +kernel
theorem dc_244_45 : decode (ax_code 244) 45 = .ok (.lconst 0, 1) := by decide +kernel
theorem dc_244_46 : decode (ax_code 244) 46 = .ok (.aload_n 0, 1) := by decide +kernel
theorem dc_244_47 : decode (ax_code 244) 47 = .ok (.getfield 139, 3) := by decide +kernel
theorem dc_244_50 : decode (ax_code 244) 50 = .ok (.iconst 1, 1) := by decide +kernel
theorem dc_244_51 : decode (ax_code 244) 51 = .ok (.isub, 1) := by decide +kernel
theorem dc_244_52 : decode (ax_code 244) 52 = .ok (.i2l, 1) := by decide +kernel
theorem dc_244_53 : decode (ax_code 244) 53 = .ok (.invokestatic 123, 3) := by decide +kernel
theorem dc_244_56 : decode (ax_code 244) 56 = .ok (.ifCond .ne 6, 3) := by decide +kernel
theorem dc_244_59 : decode (ax_code 244) 59 = .ok (.bipush (-2), 2) := by decide +kernel
theorem dc_244_61 : decode (ax_code 244) 61 = .ok (.ireturn, 1) := by decide +kernel
theorem dc_244_62 : decode (ax_code 244) 62 = .ok (.aload_n 0, 1) := by decide +kernel
theorem dc_244_63 : decode (ax_code 244) 63 = .ok (.getfield 103, 3) := by decide +kernel
theorem dc_244_66 : decode (ax_code 244) 66 = .ok (.iload_n 1, 1) := by decide +kernel
theorem dc_244_67 : decode (ax_code 244) 67 = .ok (.iaload, 1) := by decide +kernel
theorem dc_244_68 : decode (ax_code 244) 68 = .ok (.istore 5, 2) := by decide +kernel
theorem dc_244_70 : decode (ax_code 244) 70 = .ok (.aload_n 0, 1) := by decide +kernel
theorem dc_244_71 : decode (ax_code 244) 71 = .ok (.getfield 103, 3) := by decide +kernel
theorem dc_244_74 : decode (ax_code 244) 74 = .ok (.iload_n 1, 1) := by decide +kernel
theorem dc_244_75 : decode (ax_code 244) 75 = .ok (.iload_n 2, 1) := by decide +kernel
theorem dc_244_76 : decode (ax_code 244) 76 = .ok (.iastore, 1) := by decide +kernel
theorem dc_244_77 : decode (ax_code 244) 77 = .ok (.aload_n 0, 1) := by decide +kernel
theorem dc_244_78 : decode (ax_code 244) 78 = .ok (.getfield 106, 3) := by decide +kernel
theorem dc_244_81 : decode (ax_code 244) 81 = .ok (.iload_n 1, 1) := by decide +kernel
theorem dc_244_82 : decode (ax_code 244) 82 = .ok (.iload_n 2, 1) := by decide +kernel
theorem dc_244_83 : decode (ax_code 244) 83 = .ok (.iconst 1, 1) := by decide +kernel
theorem dc_244_84 : decode (ax_code 244) 84 = .ok (.if_icmp .ne 13, 3) := by decide +kernel
theorem dc_244_87 : decode (ax_code 244) 87 = .ok (.aload_n 0, 1) := by decide +kernel
theorem dc_244_88 : decode (ax_code 244) 88 = .ok (.getfield 17, 3) := by decide +kernel
theorem dc_244_91 : decode (ax_code 244) 91 = .ok (.lload_n 3, 1) := by decide +kernel
theorem dc_244_92 : decode (ax_code 244) 92 = .ok (.l2i, 1) := by decide +kernel
theorem dc_244_93 : decode (ax_code 244) 93 = .ok (.iaload, 1) := by decide +kernel
theorem dc_244_94 : decode (ax_code 244) 94 = .ok (.goto 14, 3) := by decide +kernel
theorem dc_244_97 : decode (ax_code 244) 97 = .ok (.iload_n 2, 1) := by decide +kernel
theorem dc_244_98 : decode (ax_code 244) 98 = .ok (.iconst 2, 1) := by decide +kernel
theorem dc_244_99 : decode (ax_code 244) 99 = .ok (.if_icmp .ne 8, 3) := by decide +kernel
theorem dc_244_102 : decode (ax_code 244) 102 = .ok (.lload_n 3, 1) := by decide +kernel
theorem dc_244_103 : decode (ax_code 244) 103 = .ok (.l2i, 1) := by decide +kernel
theorem dc_244_104 : decode (ax_code 244) 104 = .ok (.goto 4, 3) := by decide +kernel
theorem dc_244_107 : decode (ax_code 244) 107 = .ok (.iconst 0, 1) := by decide +kernel
theorem dc_244_108 : decode (ax_code 244) 108 = .ok (.iastore, 1) := by decide +kernel
theorem dc_244_109 : decode (ax_code 244) 109 = .ok (.aload_n 0, 1) := by decide +kernel
theorem dc_244_110 : decode (ax_code 244) 110 = .ok (.getfield 109, 3) := by decide +kernel
theorem dc_244_113 : decode (ax_code 244) 113 = .ok (.iload_n 1, 1) := by decide +kernel
theorem dc_244_114 : decode (ax_code 244) 114 = .ok (.lload_n 3, 1) := by decide +kernel
theorem dc_244_115 : decode (ax_code 244) 115 = .ok (.lastore, 1) := by decide +kernel
theorem dc_244_116 : decode (ax_code 244) 116 = .ok (.iconst 0, 1) := by decide +kernel
theorem dc_244_117 : decode (ax_code 244) 117 = .ok (.istore 6, 2) := by decide +kernel
theorem dc_244_119 : decode (ax_code 244) 119 = .ok (.iload 6, 2) := by decide +kernel
theorem dc_244_121 : decode (ax_code 244) 121 = .ok (.bipush 7, 2) := by decide +kernel
theorem dc_244_123 : decode (ax_code 244) 123 = .ok (.aload_n 0, 1) := by decide +kernel
theorem dc_244_124 : decode (ax_code 244) 124 = .ok (.getfield 139, 3) := by decide +kernel
theorem dc_244_127 : decode (ax_code 244) 127 = .ok (.imul, 1) := by decide +kernel
theorem dc_244_128 : decode (ax_code 244) 128 = .ok (.if_icmp .ge 33, 3) := by decide +kernel
theorem dc_244_131 : decode (ax_code 244) 131 = .ok (.iload_n 2, 1) := by decide +kernel
theorem dc_244_132 : decode (ax_code 244) 132 = .ok (.iconst 2, 1) := by decide +kernel
theorem dc_244_133 : decode (ax_code 244) 133 = .ok (.if_icmp .ne 28, 3) := by decide +kernel
theorem dc_244_136 : decode (ax_code 244) 136 = .ok (.aload_n 0, 1) := by decide +kernel
theorem dc_244_137 : decode (ax_code 244) 137 = .ok (.getfield 113, 3) := by decide +kernel
theorem dc_244_140 : decode (ax_code 244) 140 = .ok (.bipush 56, 2) := by decide +kernel
theorem dc_244_142 : decode (ax_code 244) 142 = .ok (.iload_n 1, 1) := by decide +kernel
theorem dc_244_143 : decode (ax_code 244) 143 = .ok (.imul, 1) := by decide +kernel
theorem dc_244_144 : decode (ax_code 244) 144 = .ok (.iload 6, 2) := by decide +kernel
theorem dc_244_146 : decode (ax_code 244) 146 = .ok (.iadd, 1) := by decide +kernel
theorem dc_244_147 : decode (ax_code 244) 147 = .ok (.aload_n 0, 1) := by decide +kernel
theorem dc_244_148 : decode (ax_code 244) 148 = .ok (.getfield 29, 3) := by decide +kernel
theorem dc_244_151 : decode (ax_code 244) 151 = .ok (.iload 6, 2) := by decide +kernel
theorem dc_244_153 : decode (ax_code 244) 153 = .ok (.iaload, 1) := by decide +kernel
theorem dc_244_154 : decode (ax_code 244) 154 = .ok (.iastore, 1) := by decide +kernel
theorem dc_244_155 : decode (ax_code 244) 155 = .ok (.iinc 6 1, 3) := by decide +kernel
theorem dc_244_158 : decode (ax_code 244) 158 = .ok (.goto (-39), 3) := by decide +kernel
theorem dc_244_161 : decode (ax_code 244) 161 = .ok (.iload 5, 2) := by decide +kernel
theorem dc_244_163 : decode (ax_code 244) 163 = .ok (.ireturn, 1) := by decide +kernel
theorem dc_245_0 : decode (ax_code 245) 0 = .ok (.iload_n 0, 1) := by decide +kernel
theorem dc_245_1 : decode (ax_code 245) 1 = .ok (.i2l, 1) := by decide +kernel
theorem dc_245_2 : decode (ax_code 245) 2 = .ok (.lconst 0, 1) := by decide +kernel
theorem dc_245_3 : decode (ax_code 245) 3 = .ok (.ldc2_w 157, 3) := by decide +kernel
theorem dc_245_6 : decode (ax_code 245) 6 = .ok (.invokestatic 123, 3) := by decide +kernel
theorem dc_245_9 : decode (ax_code 245) 9 = .ok (.ireturn, 1) := by decide +kernel
theorem dc_246_0 : decode (ax_code 246) 0 = .ok (.iload_n 1, 1) := by decide +kernel
theorem dc_246_1 : decode (ax_code 246) 1 = .ok (.invokestatic 378, 3) := by decide +kernel
theorem dc_246_4 : decode (ax_code 246) 4 = .ok (.ifCond .eq 15, 3) := by decide +kernel
theorem dc_246_7 : decode (ax_code 246) 7 = .ok (.iload_n 2, 1) := by decide +kernel
theorem dc_246_8 : decode (ax_code 246) 8 = .ok (.i2l, 1) := by decide +kernel
theorem dc_246_9 : decode (ax_code 246) 9 = .ok (.lconst 0, 1) := by decide +kernel
theorem dc_246_10 : decode (ax_code 246) 10 = .ok (.ldc2_w 121, 3) := by decide +kernel
theorem dc_246_13 : decode (ax_code 246) 13 = .ok (.invokestatic 123, 3) := by decide +kernel
theorem dc_246_16 : decode (ax_code 246) 16 = .ok (.ifCond .ne 6, 3) := by decide +kernel
theorem dc_246_19 : decode (ax_code 246) 19 = .ok (.bipush (-2), 2) := by decide +kernel
theorem dc_246_21 : decode (ax_code 246) 21 = .ok (.ireturn, 1) := by decide +kernel
theorem dc_246_22 : decode (ax_code 246) 22 = .ok (.aload_n 0, 1) := by decide +kernel
theorem dc_246_23 : decode (ax_code 246) 23 = .ok (.iload_n 1, 1) := by decide +kernel
theorem dc_246_24 : decode (ax_code 246) 24 = .ok (.iconst 1, 1) := by decide +kernel
theorem dc_246_25 : decode (ax_code 246) 25 = .ok (.invokevirtual 381, 3) := by decide +kernel
theorem dc_246_28 : decode (ax_code 246) 28 = .ok (.istore_n 3, 1) := by decide +kernel
theorem dc_246_29 : decode (ax_code 246) 29 = .ok (.aload_n 0, 1) := by decide +kernel
theorem dc_246_30 : decode (ax_code 246) 30 = .ok (.getfield 106, 3) := by decide +kernel
theorem dc_246_33 : decode (ax_code 246) 33 = .ok (.iload_n 1, 1) := by decide +kernel
theorem dc_246_34 : decode (ax_code 246) 34 = .ok (.iaload, 1) := by decide +kernel
theorem dc_246_35 : decode (ax_code 246) 35 = .ok (.istore 4, 2) := by decide +kernel
theorem dc_246_37 : decode (ax_code 246) 37 = .ok (.iload_n 3, 1) := by decide +kernel
theorem dc_246_38 : decode (ax_code 246) 38 = .ok (.ifCond .eq 7, 3) := by decide +kernel
theorem dc_246_41 : decode (ax_code 246) 41 = .ok (.iload_n 3, 1) := by decide +kernel
theorem dc_246_42 : decode (ax_code 246) 42 = .ok (.goto 38, 3) := by decide +kernel
theorem dc_246_45 : decode (ax_code 246) 45 = .ok (.iload_n 2, 1) := by decide +kernel
theorem dc_246_46 : decode (ax_code 246) 46 = .ok (.iconst 2, 1) := by decide +kernel
theorem dc_246_47 : decode (ax_code 246) 47 = .ok (.if_icmp .eq 26, 3) := by decide +kernel
theorem dc_246_50 : decode (ax_code 246) 50 = .ok (.iload_n 2, 1) := by decide +kernel
theorem dc_246_51 : decode (ax_code 246) 51 = .ok (.ifCond .ne 14, 3) := by decide +kernel
theorem dc_246_54 : decode (ax_code 246) 54 = .ok (.iload 4, 2) := by decide +kernel
theorem dc_246_56 : decode (ax_code 246) 56 = .ok (.invokestatic 130, 3) := by decide +kernel
theorem dc_246_59 : decode (ax_code 246) 59 = .ok (.ifCond .eq 19, 3) := by decide +kernel
theorem dc_246_62 : decode (ax_code 246) 62 = .ok (.goto 11, 3) := by decide +kernel
theorem dc_246_65 : decode (ax_code 246) 65 = .ok (.iload 4, 2) := by decide +kernel
theorem dc_246_67 : decode (ax_code 246) 67 = .ok (.invokestatic 197, 3) := by decide +kernel
theorem dc_246_70 : decode (ax_code 246) 70 = .ok (.ifCond .eq 8, 3) := by decide +kernel
theorem dc_246_73 : decode (ax_code 246) 73 = .ok (.iload 4, 2) := by decide +kernel
theorem dc_246_75 : decode (ax_code 246) 75 = .ok (.goto 5, 3) := by decide +kernel
theorem dc_246_78 : decode (ax_code 246) 78 = .ok (.bipush (-13), 2) := by decide +kernel
theorem dc_246_80 : decode (ax_code 246) 80 = .ok (.ireturn, 1) := by decide +kernel
theorem dc_247_0 : decode (ax_code 247) 0 = .ok (.aload_n 0, 1) := by decide +kernel
theorem dc_247_1 : decode (ax_code 247) 1 = .ok (.getfield 103, 3) := by decide +kernel
theorem dc_247_4 : decode (ax_code 247) 4 = .ok (.iload_n 1, 1) := by decide +kernel
theorem dc_247_5 : decode (ax_code 247) 5 = .ok (.iaload, 1) := by decide +kernel
theorem dc_247_6 : decode (ax_code 247) 6 = .ok (.ifCond .ne 8, 3) := by decide +kernel
theorem dc_247_9 : decode (ax_code 247) 9 = .ok (.bipush (-11), 2) := by decide +kernel
theorem dc_247_11 : decode (ax_code 247) 11 = .ok (.goto 19, 3) := by decide +kernel
theorem dc_247_14 : decode (ax_code 247) 14 = .ok (.aload_n 0, 1) := by decide +kernel
theorem dc_247_15 : decode (ax_code 247) 15 = .ok (.getfield 103, 3) := by decide +kernel
theorem dc_247_18 : decode (ax_code 247) 18 = .ok (.iload_n 1, 1) := by decide +kernel
theorem dc_247_19 : decode (ax_code 247) 19 = .ok (.iaload, 1) := by decide +kernel
theorem dc_247_20 : decode (ax_code 247) 20 = .ok (.iload_n 2, 1) := by decide +kernel
theorem dc_247_21 : decode (ax_code 247) 21 = .ok (.if_icmp .ne 7, 3) := by decide +kernel
theorem dc_247_24 : decode (ax_code 247) 24 = .ok (.iconst 0, 1) := by decide +kernel
theorem dc_247_25 : decode (ax_code 247) 25 = .ok (.goto 5, 3) := by decide +kernel
theorem dc_247_28 : decode (ax_code 247) 28 = .ok (.bipush (-13), 2) := by decide +kernel
theorem dc_247_30 : decode (ax_code 247) 30 = .ok (.ireturn, 1) := by decide +kernel
theorem dc_248_0 : decode (ax_code 248) 0 = .ok (.iload_n 1, 1) := by decide +kernel
theorem dc_248_1 : decode (ax_code 248) 1 = .ok (.invokestatic 378, 3) := by decide +kernel
theorem dc_248_4 : decode (ax_code 248) 4 = .ok (.ifCond .eq 11, 3) := by decide +kernel
theorem dc_248_7 : decode (ax_code 248) 7 = .ok (.aload_n 0, 1) := by decide +kernel
theorem dc_248_8 : decode (ax_code 248) 8 = .ok (.iload_n 2, 1) := by decide +kernel
theorem dc_248_9 : decode (ax_code 248) 9 = .ok (.invokevirtual 190, 3) := by decide +kernel
theorem dc_248_12 : decode (ax_code 248) 12 = .ok (.ifCond .ne 6, 3) := by decide +kernel
theorem dc_248_15 : decode (ax_code 248) 15 = .ok (.bipush (-2), 2) := by decide +kernel
theorem dc_248_17 : decode (ax_code 248) 17 = .ok (.ireturn, 1) := by decide +kernel
theorem dc_248_18 : decode (ax_code 248) 18 = .ok (.aload_n 0, 1) := by decide +kernel
theorem dc_248_19 : decode (ax_code 248) 19 = .ok (.iload_n 1, 1) := by decide +kernel
theorem dc_248_20 : decode (ax_code 248) 20 = .ok (.iconst 2, 1) := by decide +kernel
theorem dc_248_21 : decode (ax_code 248) 21 = .ok (.invokevirtual 381, 3) := by decide +kernel
theorem dc_248_24 : decode (ax_code 248) 24 = .ok (.istore_n 3, 1) := by decide +kernel
theorem dc_248_25 : decode (ax_code 248) 25 = .ok (.iload_n 3, 1) := by decide +kernel
theorem dc_248_26 : decode (ax_code 248) 26 = .ok (.ifCond .eq 5, 3) := by decide +kernel
theorem dc_248_29 : decode (ax_code 248) 29 = .ok (.iload_n 3, 1) := by decide +kernel
theorem dc_248_30 : decode (ax_code 248) 30 = .ok (.ireturn, 1) := by decide +kernel
theorem dc_248_31 : decode (ax_code 248) 31 = .ok (.aload_n 0, 1) := by decide +kernel
theorem dc_248_32 : decode (ax_code 248) 32 = .ok (.iload_n 2, 1) := by decide +kernel
theorem dc_248_33 : decode (ax_code 248) 33 = .ok (.aload_n 0, 1) := by decide +kernel
theorem dc_248_34 : decode (ax_code 248) 34 = .ok (.getfield 127, 3) := by decide +kernel
theorem dc_248_37 : decode (ax_code 248) 37 = .ok (.invokevirtual 193, 3) := by decide +kernel
theorem dc_248_40 : decode (ax_code 248) 40 = .ok (.aload_n 0, 1) := by decide +kernel
theorem dc_248_41 : decode (ax_code 248) 41 = .ok (.aload_n 0, 1) := by decide +kernel
theorem dc_248_42 : decode (ax_code 248) 42 = .ok (.getfield 113, 3) := by decide +kernel
theorem dc_248_45 : decode (ax_code 248) 45 = .ok (.bipush 56, 2) := by decide +kernel
theorem dc_248_47 : decode (ax_code 248) 47 = .ok (.iload_n 1, 1) := by decide +kernel
theorem dc_248_48 : decode (ax_code 248) 48 = .ok (.imul, 1) := by decide +kernel
theorem dc_248_49 : decode (ax_code 248) 49 = .ok (.aload_n 0, 1) := by decide +kernel
theorem dc_248_50 : decode (ax_code 248) 50 = .ok (.getfield 106, 3) := by decide +kernel
theorem dc_248_53 : decode (ax_code 248) 53 = .ok (.iload_n 1, 1) := by decide +kernel
theorem dc_248_54 : decode (ax_code 248) 54 = .ok (.iaload, 1) := by decide +kernel
theorem dc_248_55 : decode (ax_code 248) 55 = .ok (.invokevirtual 266, 3) := by decide +kernel
theorem dc_248_58 : decode (ax_code 248) 58 = .ok (.ireturn, 1) := by decide +kernel
theorem dc_249_0 : decode (ax_code 249) 0 = .ok (.iload_n 1, 1) := by decide +kernel
theorem dc_249_1 : decode (ax_code 249) 1 = .ok (.invokestatic 378, 3) := by decide +kernel
theorem dc_249_4 : decode (ax_code 249) 4 = .ok (.ifCond .eq 18, 3) := by decide +kernel
theorem dc_249_7 : decode (ax_code 249) 7 = .ok (.iload_n 2, 1) := by decide +kernel
theorem dc_249_8 : decode (ax_code 249) 8 = .ok (.invokestatic 149, 3) := by decide +kernel
theorem dc_249_11 : decode (ax_code 249) 11 = .ok (.ifCond .eq 11, 3) := by decide +kernel
theorem dc_249_14 : decode (ax_code 249) 14 = .ok (.aload_n 0, 1) := by decide +kernel
theorem dc_249_15 : decode (ax_code 249) 15 = .ok (.iload_n 3, 1) := by decide +kernel
theorem dc_249_16 : decode (ax_code 249) 16 = .ok (.invokevirtual 181, 3) := by decide +kernel
theorem dc_249_19 : decode (ax_code 249) 19 = .ok (.ifCond .ne 6, 3) := by decide +kernel
theorem dc_249_22 : decode (ax_code 249) 22 = .ok (.bipush (-2), 2) := by decide +kernel
theorem dc_249_24 : decode (ax_code 249) 24 = .ok (.ireturn, 1) := by decide +kernel
theorem dc_249_25 : decode (ax_code 249) 25 = .ok (.aload_n 0, 1) := by decide +kernel
theorem dc_249_26 : decode (ax_code 249) 26 = .ok (.iload_n 1, 1) := by decide +kernel
theorem dc_249_27 : decode (ax_code 249) 27 = .ok (.iconst 3, 1) := by decide +kernel
theorem dc_249_28 : decode (ax_code 249) 28 = .ok (.invokevirtual 381, 3) := by decide +kernel
theorem dc_249_31 : decode (ax_code 249) 31 = .ok (.istore 4, 2) := by decide +kernel
theorem dc_249_33 : decode (ax_code 249) 33 = .ok (.iload 4, 2) := by decide +kernel
theorem dc_249_35 : decode (ax_code 249) 35 = .ok (.ifCond .eq 8, 3) := by decide +kernel
theorem dc_249_38 : decode (ax_code 249) 38 = .ok (.iload 4, 2) := by decide +kernel
theorem dc_249_40 : decode (ax_code 249) 40 = .ok (.goto 15, 3) := by decide +kernel
theorem dc_249_43 : decode (ax_code 249) 43 = .ok (.aload_n 0, 1) := by decide +kernel
theorem dc_249_44 : decode (ax_code 249) 44 = .ok (.iload_n 2, 1) := by decide +kernel
theorem dc_249_45 : decode (ax_code 249) 45 = .ok (.iload_n 3, 1) := by decide +kernel
theorem dc_249_46 : decode (ax_code 249) 46 = .ok (.aload_n 0, 1) := by decide +kernel
theorem dc_249_47 : decode (ax_code 249) 47 = .ok (.getfield 109, 3) := by decide +kernel
theorem dc_249_50 : decode (ax_code 249) 50 = .ok (.iload_n 1, 1) := by decide +kernel
theorem dc_249_51 : decode (ax_code 249) 51 = .ok (.laload, 1) := by decide +kernel
theorem dc_249_52 : decode (ax_code 249) 52 = .ok (.invokevirtual 214, 3) := by decide +kernel
theorem dc_249_55 : decode (ax_code 249) 55 = .ok (.ireturn, 1) := by decide +kernel
theorem dc_250_0 : decode (ax_code 250) 0 = .ok (.aload_n 0, 1) := by decide +kernel
theorem dc_250_1 : decode (ax_code 250) 1 = .ok (.iconst 1, 1) := by decide +kernel
theorem dc_250_2 : decode (ax_code 250) 2 = .ok (.putfield 398, 3) := by decide +kernel
theorem dc_250_5 : decode (ax_code 250) 5 = .ok (.aload_n 0, 1) := by decide +kernel
theorem dc_250_6 : decode (ax_code 250) 6 = .ok (.iconst 1, 1) := by decide +kernel
theorem dc_250_7 : decode (ax_code 250) 7 = .ok (.invokevirtual 401, 3) := by decide +kernel
theorem dc_250_10 : decode (ax_code 250) 10 = .ok (.aload_n 0, 1) := by decide +kernel
theorem dc_250_11 : decode (ax_code 250) 11 = .ok (.aload_n 0, 1) := by decide +kernel
theorem dc_250_12 : decode (ax_code 250) 12 = .ok (.getfield 32, 3) := by decide +kernel
theorem dc_250_15 : decode (ax_code 250) 15 = .ok (.putfield 405, 3) := by decide +kernel
theorem dc_250_18 : decode (ax_code 250) 18 = .ok (.aload_n 0, 1) := by decide +kernel
theorem dc_250_19 : decode (ax_code 250) 19 = .ok (.getfield 127, 3) := by decide +kernel
theorem dc_250_22 : decode (ax_code 250) 22 = .ok (.ireturn, 1) := by decide +kernel
theorem dc_251_0 : decode (ax_code 251) 0 = .ok (.aload_n 0, 1) := by decide +kernel
theorem dc_251_1 : decode (ax_code 251) 1 = .ok (.iload_n 1, 1) := by decide +kernel
theorem dc_251_2 : decode (ax_code 251) 2 = .ok (.putfield 384, 3) := by decide +kernel
theorem dc_251_5 : decode (ax_code 251) 5 = .ok (.aload_n 0, 1) := by decide +kernel
theorem dc_251_6 : decode (ax_code 251) 6 = .ok (.iconst 0, 1) := by decide +kernel
theorem dc_251_7 : decode (ax_code 251) 7 = .ok (.putfield 388, 3) := by decide +kernel
theorem dc_251_10 : decode (ax_code 251) 10 = .ok (.aload_n 0, 1) := by decide +kernel
theorem dc_251_11 : decode (ax_code 251) 11 = .ok (.aload_n 0, 1) := by decide +kernel
theorem dc_251_12 : decode (ax_code 251) 12 = .ok (.aload_n 0, 1) := by decide +kernel
theorem dc_251_13 : decode (ax_code 251) 13 = .ok (.getfield 7, 3) := by decide +kernel
theorem dc_251_16 : decode (ax_code 251) 16 = .ok (.invokevirtual 391, 3) := by decide +kernel
theorem dc_251_19 : decode (ax_code 251) 19 = .ok (.putfield 7, 3) := by decide +kernel
theorem dc_251_22 : decode (ax_code 251) 22 = .ok (.aload_n 0, 1) := by decide +kernel
theorem dc_251_23 : decode (ax_code 251) 23 = .ok (.aload_n 0, 1) := by decide +kernel
theorem dc_251_24 : decode (ax_code 251) 24 = .ok (.aload_n 0, 1) := by decide +kernel
theorem dc_251_25 : decode (ax_code 251) 25 = .ok (.getfield 127, 3) := by decide +kernel
theorem dc_251_28 : decode (ax_code 251) 28 = .ok (.invokevirtual 391, 3) := by decide +kernel
theorem dc_251_31 : decode (ax_code 251) 31 = .ok (.putfield 127, 3) := by decide +kernel
theorem dc_251_34 : decode (ax_code 251) 34 = .ok (.aload_n 0, 1) := by decide +kernel
theorem dc_251_35 : decode (ax_code 251) 35 = .ok (.aload_n 0, 1) := by decide +kernel
theorem dc_251_36 : decode (ax_code 251) 36 = .ok (.aload_n 0, 1) := by decide +kernel
theorem dc_251_37 : decode (ax_code 251) 37 = .ok (.getfield 136, 3) := by decide +kernel
theorem dc_251_40 : decode (ax_code 251) 40 = .ok (.invokevirtual 391, 3) := by decide +kernel
theorem dc_251_43 : decode (ax_code 251) 43 = .ok (.putfield 136, 3) := by decide +kernel
theorem dc_251_46 : decode (ax_code 251) 46 = .ok (.aload_n 0, 1) := by decide +kernel
theorem dc_251_47 : decode (ax_code 251) 47 = .ok (.aload_n 0, 1) := by decide +kernel
theorem dc_251_48 : decode (ax_code 251) 48 = .ok (.aload_n 0, 1) := by decide +kernel
theorem dc_251_49 : decode (ax_code 251) 49 = .ok (.getfield 139, 3) := by decide +kernel
theorem dc_251_52 : decode (ax_code 251) 52 = .ok (.invokevirtual 391, 3) := by decide +kernel
theorem dc_251_55 : decode (ax_code 251) 55 = .ok (.putfield 139, 3) := by decide +kernel
theorem dc_251_58 : decode (ax_code 251) 58 = .ok (.aload_n 0, 1) := by decide +kernel
theorem dc_251_59 : decode (ax_code 251) 59 = .ok (.aload_n 0, 1) := by decide +kernel
theorem dc_251_60 : decode (ax_code 251) 60 = .ok (.getfield 13, 3) := by decide +kernel
theorem dc_251_63 : decode (ax_code 251) 63 = .ok (.invokevirtual 394, 3) := by decide +kernel
theorem dc_251_66 : decode (ax_code 251) 66 = .ok (.aload_n 0, 1) := by decide +kernel
theorem dc_251_67 : decode (ax_code 251) 67 = .ok (.aload_n 0, 1) := by decide +kernel
theorem dc_251_68 : decode (ax_code 251) 68 = .ok (.getfield 17, 3) := by decide +kernel
theorem dc_251_71 : decode (ax_code 251) 71 = .ok (.invokevirtual 394, 3) := by decide +kernel
theorem dc_251_74 : decode (ax_code 251) 74 = .ok (.aload_n 0, 1) := by decide +kernel
theorem dc_251_75 : decode (ax_code 251) 75 = .ok (.aload_n 0, 1) := by decide +kernel
theorem dc_251_76 : decode (ax_code 251) 76 = .ok (.getfield 20, 3) := by decide +kernel
theorem dc_251_79 : decode (ax_code 251) 79 = .ok (.invokevirtual 394, 3) := by decide +kernel
theorem dc_251_82 : decode (ax_code 251) 82 = .ok (.aload_n 0, 1) := by decide +kernel
theorem dc_251_83 : decode (ax_code 251) 83 = .ok (.aload_n 0, 1) := by decide +kernel
theorem dc_251_84 : decode (ax_code 251) 84 = .ok (.getfield 23, 3) := by decide +kernel
theorem dc_251_87 : decode (ax_code 251) 87 = .ok (.invokevirtual 394, 3) := by decide +kernel
theorem dc_251_90 : decode (ax_code 251) 90 = .ok (.aload_n 0, 1) := by decide +kernel
theorem dc_251_91 : decode (ax_code 251) 91 = .ok (.aload_n 0, 1) := by decide +kernel
theorem dc_251_92 : decode (ax_code 251) 92 = .ok (.getfield 26, 3) := by decide +kernel
theorem dc_251_95 : decode (ax_code 251) 95 = .ok (.invokevirtual 394, 3) := by decide +kernel
theorem dc_251_98 : decode (ax_code 251) 98 = .ok (.aload_n 0, 1) := by decide +kernel
theorem dc_251_99 : decode (ax_code 251) 99 = .ok (.aload_n 0, 1) := by decide +kernel
theorem dc_251_100 : decode (ax_code 251) 100 = .ok (.getfield 29, 3) := by decide +kernel
theorem dc_251_103 : decode (ax_code 251) 103 = .ok (.invokevirtual 394, 3) := by decide +kernel
theorem dc_251_106 : decode (ax_code 251) 106 = .ok (.return_, 1) := by decide +kernel
theorem dc_252_0 : decode (ax_code 252) 0 = .ok (.aload_n 0, 1) := by decide +kernel
theorem dc_252_1 : decode (ax_code 252) 1 = .ok (.getfield 384, 3) := by decide +kernel
theorem dc_252_4 : decode (ax_code 252) 4 = .ok (.ifCond .eq 7, 3) := by decide +kernel
theorem dc_252_7 : decode (ax_code 252) 7 = .ok (.iload_n 1, 1) := by decide +kernel
theorem dc_252_8 : decode (ax_code 252) 8 = .ok (.goto 12, 3) := by decide +kernel
theorem dc_252_11 : decode (ax_code 252) 11 = .ok (.aload_n 0, 1) := by decide +kernel
theorem dc_252_12 : decode (ax_code 252) 12 = .ok (.getfield 116, 3) := by decide +kernel
theorem dc_252_15 : decode (ax_code 252) 15 = .ok (.aload_n 0, 1) := by decide +kernel
theorem dc_252_16 : decode (ax_code 252) 16 = .ok (.getfield 388, 3) := by decide +kernel
theorem dc_252_19 : decode (ax_code 252) 19 = .ok (.iaload, 1) := by decide +kernel
theorem dc_252_20 : decode (ax_code 252) 20 = .ok (.istore_n 2, 1) := by decide +kernel
theorem dc_252_21 : decode (ax_code 252) 21 = .ok (.aload_n 0, 1) := by decide +kernel
theorem dc_252_22 : decode (ax_code 252) 22 = .ok (.getfield 116, 3) := by decide +kernel
theorem dc_252_25 : decode (ax_code 252) 25 = .ok (.aload_n 0, 1) := by decide +kernel
theorem dc_252_26 : decode (ax_code 252) 26 = .ok (.getfield 388, 3) := by decide +kernel
theorem dc_252_29 : decode (ax_code 252) 29 = .ok (.iload_n 2, 1) := by decide +kernel
theorem dc_252_30 : decode (ax_code 252) 30 = .ok (.iastore, 1) := by decide +kernel
theorem dc_252_31 : decode (ax_code 252) 31 = .ok (.aload_n 0, 1) := by decide +kernel
theorem dc_252_32 : decode (ax_code 252) 32 = .ok (.dup, 1) := by decide +kernel
theorem dc_252_33 : decode (ax_code 252) 33 = .ok (.getfield 388, 3) := by decide +kernel
theorem dc_252_36 : decode (ax_code 252) 36 = .ok (.iconst 1, 1) := by decide +kernel
theorem dc_252_37 : decode (ax_code 252) 37 = .ok (.iadd, 1) := by decide +kernel
theorem dc_252_38 : decode (ax_code 252) 38 = .ok (.putfield 388, 3) := by decide +kernel
theorem dc_252_41 : decode (ax_code 252) 41 = .ok (.iload_n 2, 1) := by decide +kernel
theorem dc_252_42 : decode (ax_code 252) 42 = .ok (.ireturn, 1) := by decide +kernel
theorem dc_253_0 : decode (ax_code 253) 0 = .ok (.iconst 0, 1) := by decide +kernel
theorem dc_253_1 : decode (ax_code 253) 1 = .ok (.istore_n 2, 1) := by decide +kernel
theorem dc_253_2 : decode (ax_code 253) 2 = .ok (.iload_n 2, 1) := by decide +kernel
theorem dc_253_3 : decode (ax_code 253) 3 = .ok (.aload_n 1, 1) := by decide +kernel
theorem dc_253_4 : decode (ax_code 253) 4 = .ok (.arraylength, 1) := by decide +kernel
theorem dc_253_5 : decode (ax_code 253) 5 = .ok (.if_icmp .ge 19, 3) := by decide +kernel
theorem dc_253_8 : decode (ax_code 253) 8 = .ok (.aload_n 1, 1) := by decide +kernel
theorem dc_253_9 : decode (ax_code 253) 9 = .ok (.iload_n 2, 1) := by decide +kernel
theorem dc_253_10 : decode (ax_code 253) 10 = .ok (.aload_n 0, 1) := by decide +kernel
theorem dc_253_11 : decode (ax_code 253) 11 = .ok (.aload_n 1, 1) := by decide +kernel
theorem dc_253_12 : decode (ax_code 253) 12 = .ok (.iload_n 2, 1) := by decide +kernel
theorem dc_253_13 : decode (ax_code 253) 13 = .ok (.iaload, 1) := by decide +kernel
theorem dc_253_14 : decode (ax_code 253) 14 = .ok (.invokevirtual 391, 3) := by decide +kernel
theorem dc_253_17 : decode (ax_code 253) 17 = .ok (.iastore, 1) := by decide +kernel
theorem dc_253_18 : decode (ax_code 253) 18 = .ok (.iinc 2 1, 3) := by decide +kernel
theorem dc_253_21 : decode (ax_code 253) 21 = .ok (.goto (-19), 3) := by decide +kernel
theorem dc_253_24 : decode (ax_code 253) 24 = .ok (.return_, 1) := by decide +kernel
theorem dc_254_0 : decode (ax_code 254) 0 = .ok (.aload_n 0, 1) := by decide +kernel
theorem dc_254_1 : decode (ax_code 254) 1 = .ok (.getfield 398, 3) := by decide +kernel
theorem dc_254_4 : decode (ax_code 254) 4 = .ok (.ifCond .ne 6, 3) := by decide +kernel
theorem dc_254_7 : decode (ax_code 254) 7 = .ok (.bipush (-3), 2) := by decide +kernel
theorem dc_254_9 : decode (ax_code 254) 9 = .ok (.ireturn, 1) := by decide +kernel
theorem dc_254_10 : decode (ax_code 254) 10 = .ok (.aload_n 0, 1) := by decide +kernel
theorem dc_254_11 : decode (ax_code 254) 11 = .ok (.iconst 0, 1) := by decide +kernel
theorem dc_254_12 : decode (ax_code 254) 12 = .ok (.invokevirtual 401, 3) := by decide +kernel
theorem dc_254_15 : decode (ax_code 254) 15 = .ok (.aload_n 0, 1) := by decide +kernel
theorem dc_254_16 : decode (ax_code 254) 16 = .ok (.aload_n 0, 1) := by decide +kernel
theorem dc_254_17 : decode (ax_code 254) 17 = .ok (.getfield 405, 3) := by decide +kernel
theorem dc_254_20 : decode (ax_code 254) 20 = .ok (.putfield 32, 3) := by decide +kernel
theorem dc_254_23 : decode (ax_code 254) 23 = .ok (.aload_n 0, 1) := by decide +kernel
theorem dc_254_24 : decode (ax_code 254) 24 = .ok (.getfield 127, 3) := by decide +kernel
theorem dc_254_27 : decode (ax_code 254) 27 = .ok (.ireturn, 1) := by decide +kernel
theorem dc_255_0 : decode (ax_code 255) 0 = .ok (.iload_n 1, 1) := by decide +kernel
theorem dc_255_1 : decode (ax_code 255) 1 = .ok (.tableswitch 64 0 4 #[35, 41, 47, 53, 59], 35) := by decide +kernel
theorem dc_255_36 : decode (ax_code 255) 36 = .ok (.aload_n 0, 1) := by decide +kernel
theorem dc_255_37 : decode (ax_code 255) 37 = .ok (.getfield 7, 3) := by decide +kernel
theorem dc_255_40 : decode (ax_code 255) 40 = .ok (.i2l, 1) := by decide +kernel
theorem dc_255_41 : decode (ax_code 255) 41 = .ok (.lreturn, 1) := by decide +kernel
theorem dc_255_42 : decode (ax_code 255) 42 = .ok (.aload_n 0, 1) := by decide +kernel
theorem dc_255_43 : decode (ax_code 255) 43 = .ok (.getfield 127, 3) := by decide +kernel
theorem dc_255_46 : decode (ax_code 255) 46 = .ok (.i2l, 1) := by decide +kernel
theorem dc_255_47 : decode (ax_code 255) 47 = .ok (.lreturn, 1) := by decide +kernel
theorem dc_255_48 : decode (ax_code 255) 48 = .ok (.aload_n 0, 1) := by decide +kernel
theorem dc_255_49 : decode (ax_code 255) 49 = .ok (.getfield 136, 3) := by decide +kernel
theorem dc_255_52 : decode (ax_code 255) 52 = .ok (.i2l, 1) := by decide +kernel
theorem dc_255_53 : decode (ax_code 255) 53 = .ok (.lreturn, 1) := by decide +kernel
theorem dc_255_54 : decode (ax_code 255) 54 = .ok (.aload_n 0, 1) := by decide +kernel
theorem dc_255_55 : decode (ax_code 255) 55 = .ok (.getfield 139, 3) := by decide +kernel
theorem dc_255_58 : decode (ax_code 255) 58 = .ok (.i2l, 1) := by decide +kernel
theorem dc_255_59 : decode (ax_code 255) 59 = .ok (.lreturn, 1) := by decide +kernel
theorem dc_255_60 : decode (ax_code 255) 60 = .ok (.aload_n 0, 1) := by decide +kernel
theorem dc_255_61 : decode (ax_code 255) 61 = .ok (.getfield 32, 3) := by decide +kernel
theorem dc_255_64 : decode (ax_code 255) 64 = .ok (.lreturn, 1) := by decide +kernel
theorem dc_255_65 : decode (ax_code 255) 65 = .ok (.bipush (-2), 2) := by decide +kernel
theorem dc_255_67 : decode (ax_code 255) 67 = .ok (.invokestatic 203, 3) := by decide +kernel
theorem dc_255_70 : decode (ax_code 255) 70 = .ok (.lreturn, 1) := by decide +kernel
