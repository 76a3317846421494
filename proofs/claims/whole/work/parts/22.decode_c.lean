theorem dX0_forget_0 : decode cX0_forget 0 = .ok (.aload_n 0, 1) := by decide +kernel
theorem dX0_forget_1 : decode cX0_forget 1 = .ok (.bipush (-3), 2) := by decide +kernel
theorem dX0_forget_3 : decode cX0_forget 3 = .ok (.putfield 15, 3) := by decide +kernel
theorem dX0_forget_6 : decode cX0_forget 6 = .ok (.return_, 1) := by decide +kernel
theorem dX0_thousandths_0 : decode cX0_thousandths 0 = .ok (.lload_n 0, 1) := by decide +kernel
theorem dX0_thousandths_1 : decode cX0_thousandths 1 = .ok (.ldc2_w 19, 3) := by decide +kernel
theorem dX0_thousandths_4 : decode cX0_thousandths 4 = .ok (.ldiv, 1) := by decide +kernel
theorem dX0_thousandths_5 : decode cX0_thousandths 5 = .ok (.l2i, 1) := by decide +kernel
theorem dX0_thousandths_6 : decode cX0_thousandths 6 = .ok (.ireturn, 1) := by decide +kernel
theorem dX0_expect_0 : decode cX0_expect 0 = .ok (.aload_n 0, 1) := by decide +kernel
theorem dX0_expect_1 : decode cX0_expect 1 = .ok (.aload_n 1, 1) := by decide +kernel
theorem dX0_expect_2 : decode cX0_expect 2 = .ok (.iload_n 2, 1) := by decide +kernel
theorem dX0_expect_3 : decode cX0_expect 3 = .ok (.invokevirtual 21, 3) := by decide +kernel
theorem dX0_expect_6 : decode cX0_expect 6 = .ok (.aload_n 0, 1) := by decide +kernel
theorem dX0_expect_7 : decode cX0_expect 7 = .ok (.getfield 9, 3) := by decide +kernel
theorem dX0_expect_10 : decode cX0_expect 10 = .ok (.iconst 0, 1) := by decide +kernel
theorem dX0_expect_11 : decode cX0_expect 11 = .ok (.laload, 1) := by decide +kernel
theorem dX0_expect_12 : decode cX0_expect 12 = .ok (.lreturn, 1) := by decide +kernel
theorem dX0_prepare_0 : decode cX0_prepare 0 = .ok (.aload_n 1, 1) := by decide +kernel
theorem dX0_prepare_1 : decode cX0_prepare 1 = .ok (.getfield 25, 3) := by decide +kernel
theorem dX0_prepare_4 : decode cX0_prepare 4 = .ok (.istore_n 3, 1) := by decide +kernel
theorem dX0_prepare_5 : decode cX0_prepare 5 = .ok (.aload_n 0, 1) := by decide +kernel
theorem dX0_prepare_6 : decode cX0_prepare 6 = .ok (.getfield 15, 3) := by decide +kernel
theorem dX0_prepare_9 : decode cX0_prepare 9 = .ok (.iload_n 2, 1) := by decide +kernel
theorem dX0_prepare_10 : decode cX0_prepare 10 = .ok (.if_icmp .eq 9, 3) := by decide +kernel
theorem dX0_prepare_13 : decode cX0_prepare 13 = .ok (.iload_n 3, 1) := by decide +kernel
theorem dX0_prepare_14 : decode cX0_prepare 14 = .ok (.bipush 6, 2) := by decide +kernel
theorem dX0_prepare_16 : decode cX0_prepare 16 = .ok (.if_icmp .le 4, 3) := by decide +kernel
theorem dX0_prepare_19 : decode cX0_prepare 19 = .ok (.return_, 1) := by decide +kernel
theorem dX0_prepare_20 : decode cX0_prepare 20 = .ok (.aload_n 0, 1) := by decide +kernel
theorem dX0_prepare_21 : decode cX0_prepare 21 = .ok (.getfield 9, 3) := by decide +kernel
theorem dX0_prepare_24 : decode cX0_prepare 24 = .ok (.iload_n 3, 1) := by decide +kernel
theorem dX0_prepare_25 : decode cX0_prepare 25 = .ok (.lconst 0, 1) := by decide +kernel
theorem dX0_prepare_26 : decode cX0_prepare 26 = .ok (.lastore, 1) := by decide +kernel
theorem dX0_prepare_27 : decode cX0_prepare 27 = .ok (.iload_n 3, 1) := by decide +kernel
theorem dX0_prepare_28 : decode cX0_prepare 28 = .ok (.iconst 1, 1) := by decide +kernel
theorem dX0_prepare_29 : decode cX0_prepare 29 = .ok (.isub, 1) := by decide +kernel
theorem dX0_prepare_30 : decode cX0_prepare 30 = .ok (.istore 4, 2) := by decide +kernel
theorem dX0_prepare_32 : decode cX0_prepare 32 = .ok (.iload 4, 2) := by decide +kernel
theorem dX0_prepare_34 : decode cX0_prepare 34 = .ok (.ifCond .lt 29, 3) := by decide +kernel
theorem dX0_prepare_37 : decode cX0_prepare 37 = .ok (.aload_n 0, 1) := by decide +kernel
theorem dX0_prepare_38 : decode cX0_prepare 38 = .ok (.getfield 9, 3) := by decide +kernel
theorem dX0_prepare_41 : decode cX0_prepare 41 = .ok (.iload 4, 2) := by decide +kernel
theorem dX0_prepare_43 : decode cX0_prepare 43 = .ok (.aload_n 0, 1) := by decide +kernel
theorem dX0_prepare_44 : decode cX0_prepare 44 = .ok (.aload_n 1, 1) := by decide +kernel
theorem dX0_prepare_45 : decode cX0_prepare 45 = .ok (.iload_n 2, 1) := by decide +kernel
theorem dX0_prepare_46 : decode cX0_prepare 46 = .ok (.iload 4, 2) := by decide +kernel
theorem dX0_prepare_48 : decode cX0_prepare 48 = .ok (.iconst 0, 1) := by decide +kernel
theorem dX0_prepare_49 : decode cX0_prepare 49 = .ok (.invokevirtual 30, 3) := by decide +kernel
theorem dX0_prepare_52 : decode cX0_prepare 52 = .ok (.ldc2_w 34, 3) := by decide +kernel
theorem dX0_prepare_55 : decode cX0_prepare 55 = .ok (.ldiv, 1) := by decide +kernel
theorem dX0_prepare_56 : decode cX0_prepare 56 = .ok (.lastore, 1) := by decide +kernel
theorem dX0_prepare_57 : decode cX0_prepare 57 = .ok (.iinc 4 (-1), 3) := by decide +kernel
theorem dX0_prepare_60 : decode cX0_prepare 60 = .ok (.goto (-28), 3) := by decide +kernel
theorem dX0_prepare_63 : decode cX0_prepare 63 = .ok (.aload_n 0, 1) := by decide +kernel
theorem dX0_prepare_64 : decode cX0_prepare 64 = .ok (.iload_n 2, 1) := by decide +kernel
theorem dX0_prepare_65 : decode cX0_prepare 65 = .ok (.putfield 15, 3) := by decide +kernel
theorem dX0_prepare_68 : decode cX0_prepare 68 = .ok (.return_, 1) := by decide +kernel
theorem dX0_weigh_0 : decode cX0_weigh 0 = .ok (.lconst 0, 1) := by decide +kernel
theorem dX0_weigh_1 : decode cX0_weigh 1 = .ok (.lstore 5, 2) := by decide +kernel
theorem dX0_weigh_3 : decode cX0_weigh 3 = .ok (.aload_n 1, 1) := by decide +kernel
theorem dX0_weigh_4 : decode cX0_weigh 4 = .ok (.getfield 25, 3) := by decide +kernel
theorem dX0_weigh_7 : decode cX0_weigh 7 = .ok (.iconst 1, 1) := by decide +kernel
theorem dX0_weigh_8 : decode cX0_weigh 8 = .ok (.isub, 1) := by decide +kernel
theorem dX0_weigh_9 : decode cX0_weigh 9 = .ok (.istore 7, 2) := by decide +kernel
theorem dX0_weigh_11 : decode cX0_weigh 11 = .ok (.iload 7, 2) := by decide +kernel
theorem dX0_weigh_13 : decode cX0_weigh 13 = .ok (.iload_n 3, 1) := by decide +kernel
theorem dX0_weigh_14 : decode cX0_weigh 14 = .ok (.if_icmp .lt 199, 3) := by decide +kernel
theorem dX0_weigh_17 : decode cX0_weigh 17 = .ok (.iload 4, 2) := by decide +kernel
theorem dX0_weigh_19 : decode cX0_weigh 19 = .ok (.aload_n 1, 1) := by decide +kernel
theorem dX0_weigh_20 : decode cX0_weigh 20 = .ok (.getfield 36, 3) := by decide +kernel
theorem dX0_weigh_23 : decode cX0_weigh 23 = .ok (.iload 7, 2) := by decide +kernel
theorem dX0_weigh_25 : decode cX0_weigh 25 = .ok (.iaload, 1) := by decide +kernel
theorem dX0_weigh_26 : decode cX0_weigh 26 = .ok (.iadd, 1) := by decide +kernel
theorem dX0_weigh_27 : decode cX0_weigh 27 = .ok (.aload_n 1, 1) := by decide +kernel
theorem dX0_weigh_28 : decode cX0_weigh 28 = .ok (.getfield 36, 3) := by decide +kernel
theorem dX0_weigh_31 : decode cX0_weigh 31 = .ok (.iload_n 3, 1) := by decide +kernel
theorem dX0_weigh_32 : decode cX0_weigh 32 = .ok (.iaload, 1) := by decide +kernel
theorem dX0_weigh_33 : decode cX0_weigh 33 = .ok (.isub, 1) := by decide +kernel
theorem dX0_weigh_34 : decode cX0_weigh 34 = .ok (.istore 8, 2) := by decide +kernel
theorem dX0_weigh_36 : decode cX0_weigh 36 = .ok (.aload_n 1, 1) := by decide +kernel
theorem dX0_weigh_37 : decode cX0_weigh 37 = .ok (.iload 8, 2) := by decide +kernel
theorem dX0_weigh_39 : decode cX0_weigh 39 = .ok (.invokevirtual 40, 3) := by decide +kernel
theorem dX0_weigh_42 : decode cX0_weigh 42 = .ok (.i2l, 1) := by decide +kernel
theorem dX0_weigh_43 : decode cX0_weigh 43 = .ok (.lstore 9, 2) := by decide +kernel
theorem dX0_weigh_45 : decode cX0_weigh 45 = .ok (.lload 9, 2) := by decide +kernel
theorem dX0_weigh_47 : decode cX0_weigh 47 = .ok (.aload_n 1, 1) := by decide +kernel
theorem dX0_weigh_48 : decode cX0_weigh 48 = .ok (.iload 8, 2) := by decide +kernel
theorem dX0_weigh_50 : decode cX0_weigh 50 = .ok (.aload_n 1, 1) := by decide +kernel
theorem dX0_weigh_51 : decode cX0_weigh 51 = .ok (.getfield 44, 3) := by decide +kernel
theorem dX0_weigh_54 : decode cX0_weigh 54 = .ok (.iload 7, 2) := by decide +kernel
theorem dX0_weigh_56 : decode cX0_weigh 56 = .ok (.iaload, 1) := by decide +kernel
theorem dX0_weigh_57 : decode cX0_weigh 57 = .ok (.iadd, 1) := by decide +kernel
theorem dX0_weigh_58 : decode cX0_weigh 58 = .ok (.invokevirtual 40, 3) := by decide +kernel
theorem dX0_weigh_61 : decode cX0_weigh 61 = .ok (.i2l, 1) := by decide +kernel
theorem dX0_weigh_62 : decode cX0_weigh 62 = .ok (.lsub, 1) := by decide +kernel
theorem dX0_weigh_63 : decode cX0_weigh 63 = .ok (.lstore 11, 2) := by decide +kernel
theorem dX0_weigh_65 : decode cX0_weigh 65 = .ok (.lload 5, 2) := by decide +kernel
theorem dX0_weigh_67 : decode cX0_weigh 67 = .ok (.lload 11, 2) := by decide +kernel
theorem dX0_weigh_69 : decode cX0_weigh 69 = .ok (.aload_n 0, 1) := by decide +kernel
theorem dX0_weigh_70 : decode cX0_weigh 70 = .ok (.aload_n 1, 1) := by decide +kernel
theorem dX0_weigh_71 : decode cX0_weigh 71 = .ok (.iload 7, 2) := by decide +kernel
theorem dX0_weigh_73 : decode cX0_weigh 73 = .ok (.invokevirtual 47, 3) := by decide +kernel
theorem dX0_weigh_76 : decode cX0_weigh 76 = .ok (.lmul, 1) := by decide +kernel
theorem dX0_weigh_77 : decode cX0_weigh 77 = .ok (.ladd, 1) := by decide +kernel
theorem dX0_weigh_78 : decode cX0_weigh 78 = .ok (.lstore 13, 2) := by decide +kernel
theorem dX0_weigh_80 : decode cX0_weigh 80 = .ok (.iload 8, 2) := by decide +kernel
theorem dX0_weigh_82 : decode cX0_weigh 82 = .ok (.ifCond .ne 10, 3) := by decide +kernel
theorem dX0_weigh_85 : decode cX0_weigh 85 = .ok (.lload 13, 2) := by decide +kernel
theorem dX0_weigh_87 : decode cX0_weigh 87 = .ok (.lstore 5, 2) := by decide +kernel
theorem dX0_weigh_89 : decode cX0_weigh 89 = .ok (.goto 118, 3) := by decide +kernel
theorem dX0_weigh_92 : decode cX0_weigh 92 = .ok (.lload 9, 2) := by decide +kernel
theorem dX0_weigh_94 : decode cX0_weigh 94 = .ok (.aload_n 0, 1) := by decide +kernel
theorem dX0_weigh_95 : decode cX0_weigh 95 = .ok (.aload_n 1, 1) := by decide +kernel
theorem dX0_weigh_96 : decode cX0_weigh 96 = .ok (.iload 7, 2) := by decide +kernel
theorem dX0_weigh_98 : decode cX0_weigh 98 = .ok (.invokevirtual 51, 3) := by decide +kernel
theorem dX0_weigh_101 : decode cX0_weigh 101 = .ok (.lmul, 1) := by decide +kernel
theorem dX0_weigh_102 : decode cX0_weigh 102 = .ok (.lstore 15, 2) := by decide +kernel
theorem dX0_weigh_104 : decode cX0_weigh 104 = .ok (.lload 9, 2) := by decide +kernel
theorem dX0_weigh_106 : decode cX0_weigh 106 = .ok (.aload_n 1, 1) := by decide +kernel
theorem dX0_weigh_107 : decode cX0_weigh 107 = .ok (.getfield 54, 3) := by decide +kernel
theorem dX0_weigh_110 : decode cX0_weigh 110 = .ok (.iconst 2, 1) := by decide +kernel
theorem dX0_weigh_111 : decode cX0_weigh 111 = .ok (.iaload, 1) := by decide +kernel
theorem dX0_weigh_112 : decode cX0_weigh 112 = .ok (.i2l, 1) := by decide +kernel
theorem dX0_weigh_113 : decode cX0_weigh 113 = .ok (.lmul, 1) := by decide +kernel
theorem dX0_weigh_114 : decode cX0_weigh 114 = .ok (.ldc2_w 57, 3) := by decide +kernel
theorem dX0_weigh_117 : decode cX0_weigh 117 = .ok (.lmul, 1) := by decide +kernel
theorem dX0_weigh_118 : decode cX0_weigh 118 = .ok (.lload 5, 2) := by decide +kernel
theorem dX0_weigh_120 : decode cX0_weigh 120 = .ok (.ladd, 1) := by decide +kernel
theorem dX0_weigh_121 : decode cX0_weigh 121 = .ok (.lload 11, 2) := by decide +kernel
theorem dX0_weigh_123 : decode cX0_weigh 123 = .ok (.aload_n 0, 1) := by decide +kernel
theorem dX0_weigh_124 : decode cX0_weigh 124 = .ok (.aload_n 1, 1) := by decide +kernel
theorem dX0_weigh_125 : decode cX0_weigh 125 = .ok (.iload 7, 2) := by decide +kernel
theorem dX0_weigh_127 : decode cX0_weigh 127 = .ok (.invokevirtual 51, 3) := by decide +kernel
theorem dX0_weigh_130 : decode cX0_weigh 130 = .ok (.lmul, 1) := by decide +kernel
theorem dX0_weigh_131 : decode cX0_weigh 131 = .ok (.ladd, 1) := by decide +kernel
theorem dX0_weigh_132 : decode cX0_weigh 132 = .ok (.lstore 17, 2) := by decide +kernel
theorem dX0_weigh_134 : decode cX0_weigh 134 = .ok (.iload_n 2, 1) := by decide +kernel
theorem dX0_weigh_135 : decode cX0_weigh 135 = .ok (.iconst 2, 1) := by decide +kernel
theorem dX0_weigh_136 : decode cX0_weigh 136 = .ok (.if_icmp .ne 10, 3) := by decide +kernel
theorem dX0_weigh_139 : decode cX0_weigh 139 = .ok (.lload 17, 2) := by decide +kernel
theorem dX0_weigh_141 : decode cX0_weigh 141 = .ok (.lstore 5, 2) := by decide +kernel
theorem dX0_weigh_143 : decode cX0_weigh 143 = .ok (.goto 64, 3) := by decide +kernel
theorem dX0_weigh_146 : decode cX0_weigh 146 = .ok (.iload_n 2, 1) := by decide +kernel
theorem dX0_weigh_147 : decode cX0_weigh 147 = .ok (.iconst 3, 1) := by decide +kernel
theorem dX0_weigh_148 : decode cX0_weigh 148 = .ok (.if_icmp .ne 15, 3) := by decide +kernel
theorem dX0_weigh_151 : decode cX0_weigh 151 = .ok (.lload 13, 2) := by decide +kernel
theorem dX0_weigh_153 : decode cX0_weigh 153 = .ok (.lload 15, 2) := by decide +kernel
theorem dX0_weigh_155 : decode cX0_weigh 155 = .ok (.invokestatic 59, 3) := by decide +kernel
theorem dX0_weigh_158 : decode cX0_weigh 158 = .ok (.lstore 5, 2) := by decide +kernel
theorem dX0_weigh_160 : decode cX0_weigh 160 = .ok (.goto 47, 3) := by decide +kernel
theorem dX0_weigh_163 : decode cX0_weigh 163 = .ok (.iload_n 2, 1) := by decide +kernel
theorem dX0_weigh_164 : decode cX0_weigh 164 = .ok (.bipush (-2), 2) := by decide +kernel
theorem dX0_weigh_166 : decode cX0_weigh 166 = .ok (.if_icmp .ne 20, 3) := by decide +kernel
theorem dX0_weigh_169 : decode cX0_weigh 169 = .ok (.lload 17, 2) := by decide +kernel
theorem dX0_weigh_171 : decode cX0_weigh 171 = .ok (.lload 13, 2) := by decide +kernel
theorem dX0_weigh_173 : decode cX0_weigh 173 = .ok (.lload 15, 2) := by decide +kernel
theorem dX0_weigh_175 : decode cX0_weigh 175 = .ok (.invokestatic 59, 3) := by decide +kernel
theorem dX0_weigh_178 : decode cX0_weigh 178 = .ok (.invokestatic 59, 3) := by decide +kernel
theorem dX0_weigh_181 : decode cX0_weigh 181 = .ok (.lstore 5, 2) := by decide +kernel
theorem dX0_weigh_183 : decode cX0_weigh 183 = .ok (.goto 24, 3) := by decide +kernel
theorem dX0_weigh_186 : decode cX0_weigh 186 = .ok (.aload_n 1, 1) := by decide +kernel
theorem dX0_weigh_187 : decode cX0_weigh 187 = .ok (.iload_n 2, 1) := by decide +kernel
theorem dX0_weigh_188 : decode cX0_weigh 188 = .ok (.iload 7, 2) := by decide +kernel
theorem dX0_weigh_190 : decode cX0_weigh 190 = .ok (.iload 8, 2) := by decide +kernel
theorem dX0_weigh_192 : decode cX0_weigh 192 = .ok (.invokevirtual 65, 3) := by decide +kernel
theorem dX0_weigh_195 : decode cX0_weigh 195 = .ok (.ifCond .eq 8, 3) := by decide +kernel
theorem dX0_weigh_198 : decode cX0_weigh 198 = .ok (.lload 15, 2) := by decide +kernel
theorem dX0_weigh_200 : decode cX0_weigh 200 = .ok (.goto 5, 3) := by decide +kernel
theorem dX0_weigh_203 : decode cX0_weigh 203 = .ok (.lload 13, 2) := by decide +kernel
theorem dX0_weigh_205 : decode cX0_weigh 205 = .ok (.lstore 5, 2) := by decide +kernel
theorem dX0_weigh_207 : decode cX0_weigh 207 = .ok (.iinc 7 (-1), 3) := by decide +kernel
theorem dX0_weigh_210 : decode cX0_weigh 210 = .ok (.goto (-199), 3) := by decide +kernel
theorem dX0_weigh_213 : decode cX0_weigh 213 = .ok (.lload 5, 2) := by decide +kernel
theorem dX0_weigh_215 : decode cX0_weigh 215 = .ok (.lreturn, 1) := by decide +kernel
theorem dX0_mended_0 : decode cX0_mended 0 = .ok (.aload_n 1, 1) := by decide +kernel
theorem dX0_mended_1 : decode cX0_mended 1 = .ok (.getfield 54, 3) := by decide +kernel
theorem dX0_mended_4 : decode cX0_mended 4 = .ok (.iconst 1, 1) := by decide +kernel
theorem dX0_mended_5 : decode cX0_mended 5 = .ok (.iaload, 1) := by decide +kernel
theorem dX0_mended_6 : decode cX0_mended 6 = .ok (.aload_n 1, 1) := by decide +kernel
theorem dX0_mended_7 : decode cX0_mended 7 = .ok (.getfield 54, 3) := by decide +kernel
theorem dX0_mended_10 : decode cX0_mended 10 = .ok (.iconst 0, 1) := by decide +kernel
theorem dX0_mended_11 : decode cX0_mended 11 = .ok (.iaload, 1) := by decide +kernel
theorem dX0_mended_12 : decode cX0_mended 12 = .ok (.iadd, 1) := by decide +kernel
theorem dX0_mended_13 : decode cX0_mended 13 = .ok (.i2l, 1) := by decide +kernel
theorem dX0_mended_14 : decode cX0_mended 14 = .ok (.ldc2_w 57, 3) := by decide +kernel
theorem dX0_mended_17 : decode cX0_mended 17 = .ok (.lmul, 1) := by decide +kernel
theorem dX0_mended_18 : decode cX0_mended 18 = .ok (.aload_n 0, 1) := by decide +kernel
theorem dX0_mended_19 : decode cX0_mended 19 = .ok (.getfield 9, 3) := by decide +kernel
theorem dX0_mended_22 : decode cX0_mended 22 = .ok (.iload_n 2, 1) := by decide +kernel
theorem dX0_mended_23 : decode cX0_mended 23 = .ok (.iconst 1, 1) := by decide +kernel
theorem dX0_mended_24 : decode cX0_mended 24 = .ok (.iadd, 1) := by decide +kernel
theorem dX0_mended_25 : decode cX0_mended 25 = .ok (.laload, 1) := by decide +kernel
theorem dX0_mended_26 : decode cX0_mended 26 = .ok (.ladd, 1) := by decide +kernel
theorem dX0_mended_27 : decode cX0_mended 27 = .ok (.lreturn, 1) := by decide +kernel
theorem dX0_changed_0 : decode cX0_changed 0 = .ok (.aload_n 1, 1) := by decide +kernel
theorem dX0_changed_1 : decode cX0_changed 1 = .ok (.getfield 54, 3) := by decide +kernel
theorem dX0_changed_4 : decode cX0_changed 4 = .ok (.iconst 0, 1) := by decide +kernel
theorem dX0_changed_5 : decode cX0_changed 5 = .ok (.iaload, 1) := by decide +kernel
theorem dX0_changed_6 : decode cX0_changed 6 = .ok (.i2l, 1) := by decide +kernel
theorem dX0_changed_7 : decode cX0_changed 7 = .ok (.ldc2_w 57, 3) := by decide +kernel
theorem dX0_changed_10 : decode cX0_changed 10 = .ok (.lmul, 1) := by decide +kernel
theorem dX0_changed_11 : decode cX0_changed 11 = .ok (.aload_n 0, 1) := by decide +kernel
theorem dX0_changed_12 : decode cX0_changed 12 = .ok (.getfield 9, 3) := by decide +kernel
theorem dX0_changed_15 : decode cX0_changed 15 = .ok (.iload_n 2, 1) := by decide +kernel
theorem dX0_changed_16 : decode cX0_changed 16 = .ok (.laload, 1) := by decide +kernel
theorem dX0_changed_17 : decode cX0_changed 17 = .ok (.ladd, 1) := by decide +kernel
theorem dX0_changed_18 : decode cX0_changed 18 = .ok (.lreturn, 1) := by decide +kernel
theorem dX0_turns_0 : decode cX0_turns 0 = .ok (.iload 4, 2) := by decide +kernel
theorem dX0_turns_2 : decode cX0_turns 2 = .ok (.ifCond .eq 15, 3) := by decide +kernel
theorem dX0_turns_5 : decode cX0_turns 5 = .ok (.iload_n 3, 1) := by decide +kernel
theorem dX0_turns_6 : decode cX0_turns 6 = .ok (.ifCond .lt 11, 3) := by decide +kernel
theorem dX0_turns_9 : decode cX0_turns 9 = .ok (.iload_n 3, 1) := by decide +kernel
theorem dX0_turns_10 : decode cX0_turns 10 = .ok (.aload_n 1, 1) := by decide +kernel
theorem dX0_turns_11 : decode cX0_turns 11 = .ok (.getfield 25, 3) := by decide +kernel
theorem dX0_turns_14 : decode cX0_turns 14 = .ok (.if_icmp .lt 5, 3) := by decide +kernel
theorem dX0_turns_17 : decode cX0_turns 17 = .ok (.iconst 0, 1) := by decide +kernel
theorem dX0_turns_18 : decode cX0_turns 18 = .ok (.ireturn, 1) := by decide +kernel
theorem dX0_turns_19 : decode cX0_turns 19 = .ok (.iload 4, 2) := by decide +kernel
theorem dX0_turns_21 : decode cX0_turns 21 = .ok (.aload_n 1, 1) := by decide +kernel
theorem dX0_turns_22 : decode cX0_turns 22 = .ok (.getfield 44, 3) := by decide +kernel
theorem dX0_turns_25 : decode cX0_turns 25 = .ok (.iload_n 3, 1) := by decide +kernel
theorem dX0_turns_26 : decode cX0_turns 26 = .ok (.iaload, 1) := by decide +kernel
theorem dX0_turns_27 : decode cX0_turns 27 = .ok (.iadd, 1) := by decide +kernel
theorem dX0_turns_28 : decode cX0_turns 28 = .ok (.istore 6, 2) := by decide +kernel
theorem dX0_turns_30 : decode cX0_turns 30 = .ok (.iload_n 2, 1) := by decide +kernel
theorem dX0_turns_31 : decode cX0_turns 31 = .ok (.iconst 2, 1) := by decide +kernel
theorem dX0_turns_32 : decode cX0_turns 32 = .ok (.if_icmp .ne 16, 3) := by decide +kernel
theorem dX0_turns_35 : decode cX0_turns 35 = .ok (.iload 6, 2) := by decide +kernel
theorem dX0_turns_37 : decode cX0_turns 37 = .ok (.iload 5, 2) := by decide +kernel
theorem dX0_turns_39 : decode cX0_turns 39 = .ok (.if_icmp .le 7, 3) := by decide +kernel
theorem dX0_turns_42 : decode cX0_turns 42 = .ok (.iconst 1, 1) := by decide +kernel
theorem dX0_turns_43 : decode cX0_turns 43 = .ok (.goto 4, 3) := by decide +kernel
theorem dX0_turns_46 : decode cX0_turns 46 = .ok (.iconst 0, 1) := by decide +kernel
theorem dX0_turns_47 : decode cX0_turns 47 = .ok (.ireturn, 1) := by decide +kernel
theorem dX0_turns_48 : decode cX0_turns 48 = .ok (.iload_n 2, 1) := by decide +kernel
theorem dX0_turns_49 : decode cX0_turns 49 = .ok (.iconst 3, 1) := by decide +kernel
theorem dX0_turns_50 : decode cX0_turns 50 = .ok (.if_icmp .eq 12, 3) := by decide +kernel
theorem dX0_turns_53 : decode cX0_turns 53 = .ok (.aload_n 1, 1) := by decide +kernel
theorem dX0_turns_54 : decode cX0_turns 54 = .ok (.iload_n 2, 1) := by decide +kernel
theorem dX0_turns_55 : decode cX0_turns 55 = .ok (.iload_n 3, 1) := by decide +kernel
theorem dX0_turns_56 : decode cX0_turns 56 = .ok (.iload 4, 2) := by decide +kernel
theorem dX0_turns_58 : decode cX0_turns 58 = .ok (.invokevirtual 65, 3) := by decide +kernel
theorem dX0_turns_61 : decode cX0_turns 61 = .ok (.ireturn, 1) := by decide +kernel
theorem dX0_turns_62 : decode cX0_turns 62 = .ok (.aload_n 1, 1) := by decide +kernel
theorem dX0_turns_63 : decode cX0_turns 63 = .ok (.getfield 25, 3) := by decide +kernel
theorem dX0_turns_66 : decode cX0_turns 66 = .ok (.bipush 6, 2) := by decide +kernel
theorem dX0_turns_68 : decode cX0_turns 68 = .ok (.if_icmp .le 5, 3) := by decide +kernel
theorem dX0_turns_71 : decode cX0_turns 71 = .ok (.iconst 0, 1) := by decide +kernel
theorem dX0_turns_72 : decode cX0_turns 72 = .ok (.ireturn, 1) := by decide +kernel
theorem dX0_turns_73 : decode cX0_turns 73 = .ok (.aload_n 1, 1) := by decide +kernel
theorem dX0_turns_74 : decode cX0_turns 74 = .ok (.iload 4, 2) := by decide +kernel
theorem dX0_turns_76 : decode cX0_turns 76 = .ok (.invokevirtual 40, 3) := by decide +kernel
theorem dX0_turns_79 : decode cX0_turns 79 = .ok (.i2l, 1) := by decide +kernel
theorem dX0_turns_80 : decode cX0_turns 80 = .ok (.lstore 7, 2) := by decide +kernel
theorem dX0_turns_82 : decode cX0_turns 82 = .ok (.lload 7, 2) := by decide +kernel
theorem dX0_turns_84 : decode cX0_turns 84 = .ok (.lconst 0, 1) := by decide +kernel
theorem dX0_turns_85 : decode cX0_turns 85 = .ok (.lcmp, 1) := by decide +kernel
theorem dX0_turns_86 : decode cX0_turns 86 = .ok (.ifCond .ne 25, 3) := by decide +kernel
theorem dX0_turns_89 : decode cX0_turns 89 = .ok (.aload_n 0, 1) := by decide +kernel
theorem dX0_turns_90 : decode cX0_turns 90 = .ok (.aload_n 1, 1) := by decide +kernel
theorem dX0_turns_91 : decode cX0_turns 91 = .ok (.iload_n 3, 1) := by decide +kernel
theorem dX0_turns_92 : decode cX0_turns 92 = .ok (.invokevirtual 51, 3) := by decide +kernel
theorem dX0_turns_95 : decode cX0_turns 95 = .ok (.aload_n 0, 1) := by decide +kernel
theorem dX0_turns_96 : decode cX0_turns 96 = .ok (.aload_n 1, 1) := by decide +kernel
theorem dX0_turns_97 : decode cX0_turns 97 = .ok (.iload_n 3, 1) := by decide +kernel
theorem dX0_turns_98 : decode cX0_turns 98 = .ok (.invokevirtual 47, 3) := by decide +kernel
theorem dX0_turns_101 : decode cX0_turns 101 = .ok (.lcmp, 1) := by decide +kernel
theorem dX0_turns_102 : decode cX0_turns 102 = .ok (.ifCond .ge 7, 3) := by decide +kernel
theorem dX0_turns_105 : decode cX0_turns 105 = .ok (.iconst 1, 1) := by decide +kernel
theorem dX0_turns_106 : decode cX0_turns 106 = .ok (.goto 4, 3) := by decide +kernel
theorem dX0_turns_109 : decode cX0_turns 109 = .ok (.iconst 0, 1) := by decide +kernel
theorem dX0_turns_110 : decode cX0_turns 110 = .ok (.ireturn, 1) := by decide +kernel
theorem dX0_turns_111 : decode cX0_turns 111 = .ok (.lload 7, 2) := by decide +kernel
theorem dX0_turns_113 : decode cX0_turns 113 = .ok (.aload_n 1, 1) := by decide +kernel
theorem dX0_turns_114 : decode cX0_turns 114 = .ok (.iload 6, 2) := by decide +kernel
theorem dX0_turns_116 : decode cX0_turns 116 = .ok (.invokevirtual 40, 3) := by decide +kernel
theorem dX0_turns_119 : decode cX0_turns 119 = .ok (.i2l, 1) := by decide +kernel
theorem dX0_turns_120 : decode cX0_turns 120 = .ok (.lsub, 1) := by decide +kernel
theorem dX0_turns_121 : decode cX0_turns 121 = .ok (.lstore 9, 2) := by decide +kernel
theorem dX0_turns_123 : decode cX0_turns 123 = .ok (.aload_n 0, 1) := by decide +kernel
theorem dX0_turns_124 : decode cX0_turns 124 = .ok (.aload_n 1, 1) := by decide +kernel
theorem dX0_turns_125 : decode cX0_turns 125 = .ok (.iconst 3, 1) := by decide +kernel
theorem dX0_turns_126 : decode cX0_turns 126 = .ok (.iload_n 3, 1) := by decide +kernel
theorem dX0_turns_127 : decode cX0_turns 127 = .ok (.iconst 1, 1) := by decide +kernel
theorem dX0_turns_128 : decode cX0_turns 128 = .ok (.iadd, 1) := by decide +kernel
theorem dX0_turns_129 : decode cX0_turns 129 = .ok (.iload 6, 2) := by decide +kernel
theorem dX0_turns_131 : decode cX0_turns 131 = .ok (.invokevirtual 30, 3) := by decide +kernel
theorem dX0_turns_134 : decode cX0_turns 134 = .ok (.lload 9, 2) := by decide +kernel
theorem dX0_turns_136 : decode cX0_turns 136 = .ok (.aload_n 0, 1) := by decide +kernel
theorem dX0_turns_137 : decode cX0_turns 137 = .ok (.aload_n 1, 1) := by decide +kernel
theorem dX0_turns_138 : decode cX0_turns 138 = .ok (.iload_n 3, 1) := by decide +kernel
theorem dX0_turns_139 : decode cX0_turns 139 = .ok (.invokevirtual 47, 3) := by decide +kernel
theorem dX0_turns_142 : decode cX0_turns 142 = .ok (.lmul, 1) := by decide +kernel
theorem dX0_turns_143 : decode cX0_turns 143 = .ok (.ladd, 1) := by decide +kernel
theorem dX0_turns_144 : decode cX0_turns 144 = .ok (.lstore 11, 2) := by decide +kernel
theorem dX0_turns_146 : decode cX0_turns 146 = .ok (.lload 7, 2) := by decide +kernel
theorem dX0_turns_148 : decode cX0_turns 148 = .ok (.aload_n 0, 1) := by decide +kernel
theorem dX0_turns_149 : decode cX0_turns 149 = .ok (.aload_n 1, 1) := by decide +kernel
theorem dX0_turns_150 : decode cX0_turns 150 = .ok (.iload_n 3, 1) := by decide +kernel
theorem dX0_turns_151 : decode cX0_turns 151 = .ok (.invokevirtual 51, 3) := by decide +kernel
theorem dX0_turns_154 : decode cX0_turns 154 = .ok (.lmul, 1) := by decide +kernel
theorem dX0_turns_155 : decode cX0_turns 155 = .ok (.lload 11, 2) := by decide +kernel
theorem dX0_turns_157 : decode cX0_turns 157 = .ok (.lcmp, 1) := by decide +kernel
theorem dX0_turns_158 : decode cX0_turns 158 = .ok (.ifCond .ge 7, 3) := by decide +kernel
theorem dX0_turns_161 : decode cX0_turns 161 = .ok (.iconst 1, 1) := by decide +kernel
theorem dX0_turns_162 : decode cX0_turns 162 = .ok (.goto 4, 3) := by decide +kernel
theorem dX0_turns_165 : decode cX0_turns 165 = .ok (.iconst 0, 1) := by decide +kernel
theorem dX0_turns_166 : decode cX0_turns 166 = .ok (.ireturn, 1) := by decide +kernel
theorem dX1_run_0 : decode cX1_run 0 = .ok (.aload_n 0, 1) := by decide +kernel
theorem dX1_run_1 : decode cX1_run 1 = .ok (.iload 4, 2) := by decide +kernel
theorem dX1_run_3 : decode cX1_run 3 = .ok (.putfield 24, 3) := by decide +kernel
theorem dX1_run_6 : decode cX1_run 6 = .ok (.aload_n 0, 1) := by decide +kernel
theorem dX1_run_7 : decode cX1_run 7 = .ok (.iconst (-1), 1) := by decide +kernel
theorem dX1_run_8 : decode cX1_run 8 = .ok (.putfield 28, 3) := by decide +kernel
theorem dX1_run_11 : decode cX1_run 11 = .ok (.aload_n 0, 1) := by decide +kernel
theorem dX1_run_12 : decode cX1_run 12 = .ok (.iconst 0, 1) := by decide +kernel
theorem dX1_run_13 : decode cX1_run 13 = .ok (.putfield 31, 3) := by decide +kernel
theorem dX1_run_16 : decode cX1_run 16 = .ok (.aload_n 0, 1) := by decide +kernel
theorem dX1_run_17 : decode cX1_run 17 = .ok (.iconst 0, 1) := by decide +kernel
theorem dX1_run_18 : decode cX1_run 18 = .ok (.putfield 34, 3) := by decide +kernel
theorem dX1_run_21 : decode cX1_run 21 = .ok (.aload_n 0, 1) := by decide +kernel
theorem dX1_run_22 : decode cX1_run 22 = .ok (.iconst 0, 1) := by decide +kernel
theorem dX1_run_23 : decode cX1_run 23 = .ok (.putfield 37, 3) := by decide +kernel
theorem dX1_run_26 : decode cX1_run 26 = .ok (.iconst 0, 1) := by decide +kernel
theorem dX1_run_27 : decode cX1_run 27 = .ok (.istore 5, 2) := by decide +kernel
theorem dX1_run_29 : decode cX1_run 29 = .ok (.iconst 0, 1) := by decide +kernel
theorem dX1_run_30 : decode cX1_run 30 = .ok (.istore 6, 2) := by decide +kernel
theorem dX1_run_32 : decode cX1_run 32 = .ok (.iload 6, 2) := by decide +kernel
theorem dX1_run_34 : decode cX1_run 34 = .ok (.aload_n 1, 1) := by decide +kernel
theorem dX1_run_35 : decode cX1_run 35 = .ok (.getfield 40, 3) := by decide +kernel
theorem dX1_run_38 : decode cX1_run 38 = .ok (.if_icmp .ge 111, 3) := by decide +kernel
theorem dX1_run_41 : decode cX1_run 41 = .ok (.aload_n 0, 1) := by decide +kernel
theorem dX1_run_42 : decode cX1_run 42 = .ok (.dup, 1) := by decide +kernel
theorem dX1_run_43 : decode cX1_run 43 = .ok (.getfield 37, 3) := by decide +kernel
theorem dX1_run_46 : decode cX1_run 46 = .ok (.aload_n 1, 1) := by decide +kernel
theorem dX1_run_47 : decode cX1_run 47 = .ok (.iload_n 3, 1) := by decide +kernel
theorem dX1_run_48 : decode cX1_run 48 = .ok (.iload 5, 2) := by decide +kernel
theorem dX1_run_50 : decode cX1_run 50 = .ok (.invokevirtual 45, 3) := by decide +kernel
theorem dX1_run_53 : decode cX1_run 53 = .ok (.iadd, 1) := by decide +kernel
theorem dX1_run_54 : decode cX1_run 54 = .ok (.putfield 37, 3) := by decide +kernel
theorem dX1_run_57 : decode cX1_run 57 = .ok (.aload_n 2, 1) := by decide +kernel
theorem dX1_run_58 : decode cX1_run 58 = .ok (.aload_n 1, 1) := by decide +kernel
theorem dX1_run_59 : decode cX1_run 59 = .ok (.iload_n 3, 1) := by decide +kernel
theorem dX1_run_60 : decode cX1_run 60 = .ok (.iload 6, 2) := by decide +kernel
theorem dX1_run_62 : decode cX1_run 62 = .ok (.iload 5, 2) := by decide +kernel
theorem dX1_run_64 : decode cX1_run 64 = .ok (.iload 4, 2) := by decide +kernel
theorem dX1_run_66 : decode cX1_run 66 = .ok (.invokevirtual 49, 3) := by decide +kernel
theorem dX1_run_69 : decode cX1_run 69 = .ok (.istore 7, 2) := by decide +kernel
theorem dX1_run_71 : decode cX1_run 71 = .ok (.iload 7, 2) := by decide +kernel
theorem dX1_run_73 : decode cX1_run 73 = .ok (.ifCond .eq 7, 3) := by decide +kernel
theorem dX1_run_76 : decode cX1_run 76 = .ok (.iconst 0, 1) := by decide +kernel
theorem dX1_run_77 : decode cX1_run 77 = .ok (.goto 5, 3) := by decide +kernel
theorem dX1_run_80 : decode cX1_run 80 = .ok (.iload 5, 2) := by decide +kernel
theorem dX1_run_82 : decode cX1_run 82 = .ok (.istore 5, 2) := by decide +kernel
theorem dX1_run_84 : decode cX1_run 84 = .ok (.aload_n 0, 1) := by decide +kernel
theorem dX1_run_85 : decode cX1_run 85 = .ok (.getfield 9, 3) := by decide +kernel
theorem dX1_run_88 : decode cX1_run 88 = .ok (.iload 6, 2) := by decide +kernel
theorem dX1_run_90 : decode cX1_run 90 = .ok (.iload 5, 2) := by decide +kernel
theorem dX1_run_92 : decode cX1_run 92 = .ok (.iastore, 1) := by decide +kernel
theorem dX1_run_93 : decode cX1_run 93 = .ok (.iload 5, 2) := by decide +kernel
theorem dX1_run_95 : decode cX1_run 95 = .ok (.aload_n 1, 1) := by decide +kernel
theorem dX1_run_96 : decode cX1_run 96 = .ok (.getfield 55, 3) := by decide +kernel
theorem dX1_run_99 : decode cX1_run 99 = .ok (.iload 6, 2) := by decide +kernel
theorem dX1_run_101 : decode cX1_run 101 = .ok (.iaload, 1) := by decide +kernel
theorem dX1_run_102 : decode cX1_run 102 = .ok (.iadd, 1) := by decide +kernel
theorem dX1_run_103 : decode cX1_run 103 = .ok (.istore 5, 2) := by decide +kernel
theorem dX1_run_105 : decode cX1_run 105 = .ok (.iload 5, 2) := by decide +kernel
theorem dX1_run_107 : decode cX1_run 107 = .ok (.iload 4, 2) := by decide +kernel
theorem dX1_run_109 : decode cX1_run 109 = .ok (.if_icmp .le 7, 3) := by decide +kernel
theorem dX1_run_112 : decode cX1_run 112 = .ok (.iconst 1, 1) := by decide +kernel
theorem dX1_run_113 : decode cX1_run 113 = .ok (.goto 4, 3) := by decide +kernel
theorem dX1_run_116 : decode cX1_run 116 = .ok (.iconst 0, 1) := by decide +kernel
theorem dX1_run_117 : decode cX1_run 117 = .ok (.istore 8, 2) := by decide +kernel
theorem dX1_run_119 : decode cX1_run 119 = .ok (.iload 8, 2) := by decide +kernel
theorem dX1_run_121 : decode cX1_run 121 = .ok (.ifCond .eq 7, 3) := by decide +kernel
theorem dX1_run_124 : decode cX1_run 124 = .ok (.iconst 0, 1) := by decide +kernel
theorem dX1_run_125 : decode cX1_run 125 = .ok (.goto 5, 3) := by decide +kernel
theorem dX1_run_128 : decode cX1_run 128 = .ok (.iload 5, 2) := by decide +kernel
theorem dX1_run_130 : decode cX1_run 130 = .ok (.istore 5, 2) := by decide +kernel
theorem dX1_run_132 : decode cX1_run 132 = .ok (.aload_n 0, 1) := by decide +kernel
theorem dX1_run_133 : decode cX1_run 133 = .ok (.aload_n 1, 1) := by decide +kernel
theorem dX1_run_134 : decode cX1_run 134 = .ok (.iload 6, 2) := by decide +kernel
theorem dX1_run_136 : decode cX1_run 136 = .ok (.iload 7, 2) := by decide +kernel
theorem dX1_run_138 : decode cX1_run 138 = .ok (.iload 8, 2) := by decide +kernel
theorem dX1_run_140 : decode cX1_run 140 = .ok (.invokevirtual 58, 3) := by decide +kernel
theorem dX1_run_143 : decode cX1_run 143 = .ok (.iinc 6 1, 3) := by decide +kernel
theorem dX1_run_146 : decode cX1_run 146 = .ok (.goto (-114), 3) := by decide +kernel
theorem dX1_run_149 : decode cX1_run 149 = .ok (.return_, 1) := by decide +kernel
theorem dX1_note_0 : decode cX1_note 0 = .ok (.aload_n 0, 1) := by decide +kernel
theorem dX1_note_1 : decode cX1_note 1 = .ok (.getfield 15, 3) := by decide +kernel
theorem dX1_note_4 : decode cX1_note 4 = .ok (.iload_n 2, 1) := by decide +kernel
theorem dX1_note_5 : decode cX1_note 5 = .ok (.iload_n 3, 1) := by decide +kernel
theorem dX1_note_6 : decode cX1_note 6 = .ok (.ifCond .eq 7, 3) := by decide +kernel
theorem dX1_note_9 : decode cX1_note 9 = .ok (.iconst 1, 1) := by decide +kernel
theorem dX1_note_10 : decode cX1_note 10 = .ok (.goto 4, 3) := by decide +kernel
theorem dX1_note_13 : decode cX1_note 13 = .ok (.iconst 0, 1) := by decide +kernel
theorem dX1_note_14 : decode cX1_note 14 = .ok (.iastore, 1) := by decide +kernel
theorem dX1_note_15 : decode cX1_note 15 = .ok (.aload_n 0, 1) := by decide +kernel
theorem dX1_note_16 : decode cX1_note 16 = .ok (.getfield 18, 3) := by decide +kernel
theorem dX1_note_19 : decode cX1_note 19 = .ok (.iload_n 2, 1) := by decide +kernel
theorem dX1_note_20 : decode cX1_note 20 = .ok (.iload 4, 2) := by decide +kernel
theorem dX1_note_22 : decode cX1_note 22 = .ok (.ifCond .eq 7, 3) := by decide +kernel
theorem dX1_note_25 : decode cX1_note 25 = .ok (.iconst 1, 1) := by decide +kernel
theorem dX1_note_26 : decode cX1_note 26 = .ok (.goto 4, 3) := by decide +kernel
theorem dX1_note_29 : decode cX1_note 29 = .ok (.iconst 0, 1) := by decide +kernel
theorem dX1_note_30 : decode cX1_note 30 = .ok (.iastore, 1) := by decide +kernel
theorem dX1_note_31 : decode cX1_note 31 = .ok (.aload_n 0, 1) := by decide +kernel
theorem dX1_note_32 : decode cX1_note 32 = .ok (.dup, 1) := by decide +kernel
theorem dX1_note_33 : decode cX1_note 33 = .ok (.getfield 31, 3) := by decide +kernel
theorem dX1_note_36 : decode cX1_note 36 = .ok (.aload_n 0, 1) := by decide +kernel
theorem dX1_note_37 : decode cX1_note 37 = .ok (.getfield 15, 3) := by decide +kernel
theorem dX1_note_40 : decode cX1_note 40 = .ok (.iload_n 2, 1) := by decide +kernel
theorem dX1_note_41 : decode cX1_note 41 = .ok (.iaload, 1) := by decide +kernel
theorem dX1_note_42 : decode cX1_note 42 = .ok (.iadd, 1) := by decide +kernel
theorem dX1_note_43 : decode cX1_note 43 = .ok (.putfield 31, 3) := by decide +kernel
theorem dX1_note_46 : decode cX1_note 46 = .ok (.aload_n 0, 1) := by decide +kernel
theorem dX1_note_47 : decode cX1_note 47 = .ok (.dup, 1) := by decide +kernel
theorem dX1_note_48 : decode cX1_note 48 = .ok (.getfield 34, 3) := by decide +kernel
theorem dX1_note_51 : decode cX1_note 51 = .ok (.aload_n 0, 1) := by decide +kernel
theorem dX1_note_52 : decode cX1_note 52 = .ok (.getfield 18, 3) := by decide +kernel
theorem dX1_note_55 : decode cX1_note 55 = .ok (.iload_n 2, 1) := by decide +kernel
theorem dX1_note_56 : decode cX1_note 56 = .ok (.iaload, 1) := by decide +kernel
theorem dX1_note_57 : decode cX1_note 57 = .ok (.iadd, 1) := by decide +kernel
theorem dX1_note_58 : decode cX1_note 58 = .ok (.putfield 34, 3) := by decide +kernel
theorem dX1_note_61 : decode cX1_note 61 = .ok (.aload_n 0, 1) := by decide +kernel
theorem dX1_note_62 : decode cX1_note 62 = .ok (.dup, 1) := by decide +kernel
theorem dX1_note_63 : decode cX1_note 63 = .ok (.getfield 37, 3) := by decide +kernel
theorem dX1_note_66 : decode cX1_note 66 = .ok (.aload_n 0, 1) := by decide +kernel
theorem dX1_note_67 : decode cX1_note 67 = .ok (.getfield 15, 3) := by decide +kernel
theorem dX1_note_70 : decode cX1_note 70 = .ok (.iload_n 2, 1) := by decide +kernel
theorem dX1_note_71 : decode cX1_note 71 = .ok (.iaload, 1) := by decide +kernel
theorem dX1_note_72 : decode cX1_note 72 = .ok (.aload_n 0, 1) := by decide +kernel
theorem dX1_note_73 : decode cX1_note 73 = .ok (.getfield 18, 3) := by decide +kernel
theorem dX1_note_76 : decode cX1_note 76 = .ok (.iload_n 2, 1) := by decide +kernel
theorem dX1_note_77 : decode cX1_note 77 = .ok (.iaload, 1) := by decide +kernel
theorem dX1_note_78 : decode cX1_note 78 = .ok (.iadd, 1) := by decide +kernel
theorem dX1_note_79 : decode cX1_note 79 = .ok (.aload_n 1, 1) := by decide +kernel
theorem dX1_note_80 : decode cX1_note 80 = .ok (.getfield 62, 3) := by decide +kernel
theorem dX1_note_83 : decode cX1_note 83 = .ok (.iconst 0, 1) := by decide +kernel
theorem dX1_note_84 : decode cX1_note 84 = .ok (.iaload, 1) := by decide +kernel
theorem dX1_note_85 : decode cX1_note 85 = .ok (.imul, 1) := by decide +kernel
theorem dX1_note_86 : decode cX1_note 86 = .ok (.aload_n 0, 1) := by decide +kernel
theorem dX1_note_87 : decode cX1_note 87 = .ok (.getfield 18, 3) := by decide +kernel
theorem dX1_note_90 : decode cX1_note 90 = .ok (.iload_n 2, 1) := by decide +kernel
theorem dX1_note_91 : decode cX1_note 91 = .ok (.iaload, 1) := by decide +kernel
theorem dX1_note_92 : decode cX1_note 92 = .ok (.aload_n 1, 1) := by decide +kernel
theorem dX1_note_93 : decode cX1_note 93 = .ok (.getfield 62, 3) := by decide +kernel
theorem dX1_note_96 : decode cX1_note 96 = .ok (.iconst 1, 1) := by decide +kernel
theorem dX1_note_97 : decode cX1_note 97 = .ok (.iaload, 1) := by decide +kernel
theorem dX1_note_98 : decode cX1_note 98 = .ok (.imul, 1) := by decide +kernel
theorem dX1_note_99 : decode cX1_note 99 = .ok (.iadd, 1) := by decide +kernel
theorem dX1_note_100 : decode cX1_note 100 = .ok (.iadd, 1) := by decide +kernel
theorem dX1_note_101 : decode cX1_note 101 = .ok (.putfield 37, 3) := by decide +kernel
theorem dX1_note_104 : decode cX1_note 104 = .ok (.iload 4, 2) := by decide +kernel
theorem dX1_note_106 : decode cX1_note 106 = .ok (.ifCond .eq 16, 3) := by decide +kernel
theorem dX1_note_109 : decode cX1_note 109 = .ok (.aload_n 0, 1) := by decide +kernel
theorem dX1_note_110 : decode cX1_note 110 = .ok (.getfield 28, 3) := by decide +kernel
theorem dX1_note_113 : decode cX1_note 113 = .ok (.iconst (-1), 1) := by decide +kernel
theorem dX1_note_114 : decode cX1_note 114 = .ok (.if_icmp .ne 8, 3) := by decide +kernel
theorem dX1_note_117 : decode cX1_note 117 = .ok (.aload_n 0, 1) := by decide +kernel
theorem dX1_note_118 : decode cX1_note 118 = .ok (.iload_n 2, 1) := by decide +kernel
theorem dX1_note_119 : decode cX1_note 119 = .ok (.putfield 28, 3) := by decide +kernel
theorem dX1_note_122 : decode cX1_note 122 = .ok (.return_, 1) := by decide +kernel
theorem dX1_partsOf_0 : decode cX1_partsOf 0 = .ok (.iload_n 2, 1) := by decide +kernel
theorem dX1_partsOf_1 : decode cX1_partsOf 1 = .ok (.ifCond .lt 98, 3) := by decide +kernel
theorem dX1_partsOf_4 : decode cX1_partsOf 4 = .ok (.iload_n 2, 1) := by decide +kernel
theorem dX1_partsOf_5 : decode cX1_partsOf 5 = .ok (.aload_n 1, 1) := by decide +kernel
theorem dX1_partsOf_6 : decode cX1_partsOf 6 = .ok (.getfield 40, 3) := by decide +kernel
theorem dX1_partsOf_9 : decode cX1_partsOf 9 = .ok (.if_icmp .ge 90, 3) := by decide +kernel
theorem dX1_partsOf_12 : decode cX1_partsOf 12 = .ok (.aload_n 0, 1) := by decide +kernel
theorem dX1_partsOf_13 : decode cX1_partsOf 13 = .ok (.getfield 21, 3) := by decide +kernel
theorem dX1_partsOf_16 : decode cX1_partsOf 16 = .ok (.iconst 0, 1) := by decide +kernel
theorem dX1_partsOf_17 : decode cX1_partsOf 17 = .ok (.aload_n 1, 1) := by decide +kernel
theorem dX1_partsOf_18 : decode cX1_partsOf 18 = .ok (.getfield 55, 3) := by decide +kernel
theorem dX1_partsOf_21 : decode cX1_partsOf 21 = .ok (.iload_n 2, 1) := by decide +kernel
theorem dX1_partsOf_22 : decode cX1_partsOf 22 = .ok (.iaload, 1) := by decide +kernel
theorem dX1_partsOf_23 : decode cX1_partsOf 23 = .ok (.iastore, 1) := by decide +kernel
theorem dX1_partsOf_24 : decode cX1_partsOf 24 = .ok (.aload_n 0, 1) := by decide +kernel
theorem dX1_partsOf_25 : decode cX1_partsOf 25 = .ok (.getfield 21, 3) := by decide +kernel
theorem dX1_partsOf_28 : decode cX1_partsOf 28 = .ok (.iconst 1, 1) := by decide +kernel
theorem dX1_partsOf_29 : decode cX1_partsOf 29 = .ok (.aload_n 1, 1) := by decide +kernel
theorem dX1_partsOf_30 : decode cX1_partsOf 30 = .ok (.getfield 65, 3) := by decide +kernel
theorem dX1_partsOf_33 : decode cX1_partsOf 33 = .ok (.iload_n 2, 1) := by decide +kernel
theorem dX1_partsOf_34 : decode cX1_partsOf 34 = .ok (.iaload, 1) := by decide +kernel
theorem dX1_partsOf_35 : decode cX1_partsOf 35 = .ok (.iastore, 1) := by decide +kernel
theorem dX1_partsOf_36 : decode cX1_partsOf 36 = .ok (.aload_n 0, 1) := by decide +kernel
theorem dX1_partsOf_37 : decode cX1_partsOf 37 = .ok (.getfield 21, 3) := by decide +kernel
theorem dX1_partsOf_40 : decode cX1_partsOf 40 = .ok (.iconst 2, 1) := by decide +kernel
theorem dX1_partsOf_41 : decode cX1_partsOf 41 = .ok (.aload_n 0, 1) := by decide +kernel
theorem dX1_partsOf_42 : decode cX1_partsOf 42 = .ok (.getfield 9, 3) := by decide +kernel
theorem dX1_partsOf_45 : decode cX1_partsOf 45 = .ok (.iload_n 2, 1) := by decide +kernel
theorem dX1_partsOf_46 : decode cX1_partsOf 46 = .ok (.iaload, 1) := by decide +kernel
theorem dX1_partsOf_47 : decode cX1_partsOf 47 = .ok (.iastore, 1) := by decide +kernel
theorem dX1_partsOf_48 : decode cX1_partsOf 48 = .ok (.aload_n 0, 1) := by decide +kernel
theorem dX1_partsOf_49 : decode cX1_partsOf 49 = .ok (.getfield 21, 3) := by decide +kernel
theorem dX1_partsOf_52 : decode cX1_partsOf 52 = .ok (.iconst 4, 1) := by decide +kernel
theorem dX1_partsOf_53 : decode cX1_partsOf 53 = .ok (.iload_n 2, 1) := by decide +kernel
theorem dX1_partsOf_54 : decode cX1_partsOf 54 = .ok (.iastore, 1) := by decide +kernel
theorem dX1_partsOf_55 : decode cX1_partsOf 55 = .ok (.aload_n 0, 1) := by decide +kernel
theorem dX1_partsOf_56 : decode cX1_partsOf 56 = .ok (.getfield 21, 3) := by decide +kernel
theorem dX1_partsOf_59 : decode cX1_partsOf 59 = .ok (.bipush 7, 2) := by decide +kernel
theorem dX1_partsOf_61 : decode cX1_partsOf 61 = .ok (.aload_n 0, 1) := by decide +kernel
theorem dX1_partsOf_62 : decode cX1_partsOf 62 = .ok (.getfield 24, 3) := by decide +kernel
theorem dX1_partsOf_65 : decode cX1_partsOf 65 = .ok (.aload_n 0, 1) := by decide +kernel
theorem dX1_partsOf_66 : decode cX1_partsOf 66 = .ok (.getfield 9, 3) := by decide +kernel
theorem dX1_partsOf_69 : decode cX1_partsOf 69 = .ok (.iload_n 2, 1) := by decide +kernel
theorem dX1_partsOf_70 : decode cX1_partsOf 70 = .ok (.iaload, 1) := by decide +kernel
theorem dX1_partsOf_71 : decode cX1_partsOf 71 = .ok (.isub, 1) := by decide +kernel
theorem dX1_partsOf_72 : decode cX1_partsOf 72 = .ok (.iastore, 1) := by decide +kernel
theorem dX1_partsOf_73 : decode cX1_partsOf 73 = .ok (.aload_n 0, 1) := by decide +kernel
theorem dX1_partsOf_74 : decode cX1_partsOf 74 = .ok (.getfield 21, 3) := by decide +kernel
theorem dX1_partsOf_77 : decode cX1_partsOf 77 = .ok (.bipush 8, 2) := by decide +kernel
theorem dX1_partsOf_79 : decode cX1_partsOf 79 = .ok (.aload_n 0, 1) := by decide +kernel
theorem dX1_partsOf_80 : decode cX1_partsOf 80 = .ok (.getfield 15, 3) := by decide +kernel
theorem dX1_partsOf_83 : decode cX1_partsOf 83 = .ok (.iload_n 2, 1) := by decide +kernel
theorem dX1_partsOf_84 : decode cX1_partsOf 84 = .ok (.iaload, 1) := by decide +kernel
theorem dX1_partsOf_85 : decode cX1_partsOf 85 = .ok (.iastore, 1) := by decide +kernel
theorem dX1_partsOf_86 : decode cX1_partsOf 86 = .ok (.aload_n 0, 1) := by decide +kernel
theorem dX1_partsOf_87 : decode cX1_partsOf 87 = .ok (.getfield 21, 3) := by decide +kernel
theorem dX1_partsOf_90 : decode cX1_partsOf 90 = .ok (.bipush 9, 2) := by decide +kernel
theorem dX1_partsOf_92 : decode cX1_partsOf 92 = .ok (.aload_n 0, 1) := by decide +kernel
theorem dX1_partsOf_93 : decode cX1_partsOf 93 = .ok (.getfield 18, 3) := by decide +kernel
theorem dX1_partsOf_96 : decode cX1_partsOf 96 = .ok (.iload_n 2, 1) := by decide +kernel
theorem dX1_partsOf_97 : decode cX1_partsOf 97 = .ok (.iaload, 1) := by decide +kernel
theorem dX1_partsOf_98 : decode cX1_partsOf 98 = .ok (.iastore, 1) := by decide +kernel
theorem dX1_partsOf_99 : decode cX1_partsOf 99 = .ok (.aload_n 0, 1) := by decide +kernel
theorem dX1_partsOf_100 : decode cX1_partsOf 100 = .ok (.getfield 21, 3) := by decide +kernel
theorem dX1_partsOf_103 : decode cX1_partsOf 103 = .ok (.areturn, 1) := by decide +kernel
theorem dX2_enter_0 : decode cX2_enter 0 = .ok (.aload_n 0, 1) := by decide +kernel
theorem dX2_enter_1 : decode cX2_enter 1 = .ok (.aload_n 1, 1) := by decide +kernel
theorem dX2_enter_2 : decode cX2_enter 2 = .ok (.getfield 19, 3) := by decide +kernel
theorem dX2_enter_5 : decode cX2_enter 5 = .ok (.iconst 0, 1) := by decide +kernel
theorem dX2_enter_6 : decode cX2_enter 6 = .ok (.iaload, 1) := by decide +kernel
theorem dX2_enter_7 : decode cX2_enter 7 = .ok (.invokevirtual 24, 3) := by decide +kernel
theorem dX2_enter_10 : decode cX2_enter 10 = .ok (.aload_n 0, 1) := by decide +kernel
theorem dX2_enter_11 : decode cX2_enter 11 = .ok (.iconst 0, 1) := by decide +kernel
theorem dX2_enter_12 : decode cX2_enter 12 = .ok (.putfield 28, 3) := by decide +kernel
theorem dX2_enter_15 : decode cX2_enter 15 = .ok (.return_, 1) := by decide +kernel
theorem dX2_restart_0 : decode cX2_restart 0 = .ok (.aload_n 0, 1) := by decide +kernel
theorem dX2_restart_1 : decode cX2_restart 1 = .ok (.iconst 0, 1) := by decide +kernel
theorem dX2_restart_2 : decode cX2_restart 2 = .ok (.putfield 31, 3) := by decide +kernel
theorem dX2_restart_5 : decode cX2_restart 5 = .ok (.aload_n 0, 1) := by decide +kernel
theorem dX2_restart_6 : decode cX2_restart 6 = .ok (.iconst 0, 1) := by decide +kernel
theorem dX2_restart_7 : decode cX2_restart 7 = .ok (.putfield 34, 3) := by decide +kernel
theorem dX2_restart_10 : decode cX2_restart 10 = .ok (.aload_n 0, 1) := by decide +kernel
theorem dX2_restart_11 : decode cX2_restart 11 = .ok (.iload_n 1, 1) := by decide +kernel
theorem dX2_restart_12 : decode cX2_restart 12 = .ok (.putfield 37, 3) := by decide +kernel
theorem dX2_restart_15 : decode cX2_restart 15 = .ok (.aload_n 0, 1) := by decide +kernel
theorem dX2_restart_16 : decode cX2_restart 16 = .ok (.iconst 0, 1) := by decide +kernel
theorem dX2_restart_17 : decode cX2_restart 17 = .ok (.putfield 40, 3) := by decide +kernel
theorem dX2_restart_20 : decode cX2_restart 20 = .ok (.aload_n 0, 1) := by decide +kernel
theorem dX2_restart_21 : decode cX2_restart 21 = .ok (.iconst 0, 1) := by decide +kernel
theorem dX2_restart_22 : decode cX2_restart 22 = .ok (.putfield 43, 3) := by decide +kernel
theorem dX2_restart_25 : decode cX2_restart 25 = .ok (.aload_n 0, 1) := by decide +kernel
theorem dX2_restart_26 : decode cX2_restart 26 = .ok (.iconst 0, 1) := by decide +kernel
theorem dX2_restart_27 : decode cX2_restart 27 = .ok (.putfield 46, 3) := by decide +kernel
theorem dX2_restart_30 : decode cX2_restart 30 = .ok (.return_, 1) := by decide +kernel
theorem dX2_draw_0 : decode cX2_draw 0 = .ok (.aload_n 0, 1) := by decide +kernel
theorem dX2_draw_1 : decode cX2_draw 1 = .ok (.ldc2_w 49, 3) := by decide +kernel
theorem dX2_draw_4 : decode cX2_draw 4 = .ok (.aload_n 0, 1) := by decide +kernel
theorem dX2_draw_5 : decode cX2_draw 5 = .ok (.getfield 9, 3) := by decide +kernel
theorem dX2_draw_8 : decode cX2_draw 8 = .ok (.i2l, 1) := by decide +kernel
theorem dX2_draw_9 : decode cX2_draw 9 = .ok (.lmul, 1) := by decide +kernel
theorem dX2_draw_10 : decode cX2_draw 10 = .ok (.ldc2_w 51, 3) := by decide +kernel
theorem dX2_draw_13 : decode cX2_draw 13 = .ok (.ladd, 1) := by decide +kernel
theorem dX2_draw_14 : decode cX2_draw 14 = .ok (.ldc2_w 53, 3) := by decide +kernel
theorem dX2_draw_17 : decode cX2_draw 17 = .ok (.land, 1) := by decide +kernel
theorem dX2_draw_18 : decode cX2_draw 18 = .ok (.l2i, 1) := by decide +kernel
theorem dX2_draw_19 : decode cX2_draw 19 = .ok (.putfield 9, 3) := by decide +kernel
theorem dX2_draw_22 : decode cX2_draw 22 = .ok (.aload_n 1, 1) := by decide +kernel
theorem dX2_draw_23 : decode cX2_draw 23 = .ok (.aload_n 0, 1) := by decide +kernel
theorem dX2_draw_24 : decode cX2_draw 24 = .ok (.getfield 9, 3) := by decide +kernel
theorem dX2_draw_27 : decode cX2_draw 27 = .ok (.bipush 64, 2) := by decide +kernel
theorem dX2_draw_29 : decode cX2_draw 29 = .ok (.idiv, 1) := by decide +kernel
theorem dX2_draw_30 : decode cX2_draw 30 = .ok (.bipush 100, 2) := by decide +kernel
theorem dX2_draw_32 : decode cX2_draw 32 = .ok (.irem, 1) := by decide +kernel
theorem dX2_draw_33 : decode cX2_draw 33 = .ok (.invokevirtual 55, 3) := by decide +kernel
theorem dX2_draw_36 : decode cX2_draw 36 = .ok (.ireturn, 1) := by decide +kernel
theorem dX2_pay_0 : decode cX2_pay 0 = .ok (.aload_n 0, 1) := by decide +kernel
theorem dX2_pay_1 : decode cX2_pay 1 = .ok (.sipush 9999, 3) := by decide +kernel
theorem dX2_pay_4 : decode cX2_pay 4 = .ok (.aload_n 0, 1) := by decide +kernel
theorem dX2_pay_5 : decode cX2_pay 5 = .ok (.getfield 46, 3) := by decide +kernel
theorem dX2_pay_8 : decode cX2_pay 8 = .ok (.iload_n 1, 1) := by decide +kernel
theorem dX2_pay_9 : decode cX2_pay 9 = .ok (.iadd, 1) := by decide +kernel
theorem dX2_pay_10 : decode cX2_pay 10 = .ok (.invokestatic 59, 3) := by decide +kernel
theorem dX2_pay_13 : decode cX2_pay 13 = .ok (.putfield 46, 3) := by decide +kernel
theorem dX2_pay_16 : decode cX2_pay 16 = .ok (.return_, 1) := by decide +kernel
theorem dX2_stitch_0 : decode cX2_stitch 0 = .ok (.aload_n 0, 1) := by decide +kernel
theorem dX2_stitch_1 : decode cX2_stitch 1 = .ok (.getfield 31, 3) := by decide +kernel
theorem dX2_stitch_4 : decode cX2_stitch 4 = .ok (.aload_n 1, 1) := by decide +kernel
theorem dX2_stitch_5 : decode cX2_stitch 5 = .ok (.getfield 65, 3) := by decide +kernel
theorem dX2_stitch_8 : decode cX2_stitch 8 = .ok (.if_icmp .lt 5, 3) := by decide +kernel
theorem dX2_stitch_11 : decode cX2_stitch 11 = .ok (.iconst 0, 1) := by decide +kernel
theorem dX2_stitch_12 : decode cX2_stitch 12 = .ok (.ireturn, 1) := by decide +kernel
theorem dX2_stitch_13 : decode cX2_stitch 13 = .ok (.iconst 0, 1) := by decide +kernel
theorem dX2_stitch_14 : decode cX2_stitch 14 = .ok (.istore_n 3, 1) := by decide +kernel
theorem dX2_stitch_15 : decode cX2_stitch 15 = .ok (.iload_n 2, 1) := by decide +kernel
theorem dX2_stitch_16 : decode cX2_stitch 16 = .ok (.ifCond .eq 36, 3) := by decide +kernel
theorem dX2_stitch_19 : decode cX2_stitch 19 = .ok (.iload_n 3, 1) := by decide +kernel
theorem dX2_stitch_20 : decode cX2_stitch 20 = .ok (.aload_n 1, 1) := by decide +kernel
theorem dX2_stitch_21 : decode cX2_stitch 21 = .ok (.getfield 68, 3) := by decide +kernel
theorem dX2_stitch_24 : decode cX2_stitch 24 = .ok (.iconst 0, 1) := by decide +kernel
theorem dX2_stitch_25 : decode cX2_stitch 25 = .ok (.iaload, 1) := by decide +kernel
theorem dX2_stitch_26 : decode cX2_stitch 26 = .ok (.iadd, 1) := by decide +kernel
theorem dX2_stitch_27 : decode cX2_stitch 27 = .ok (.istore_n 3, 1) := by decide +kernel
theorem dX2_stitch_28 : decode cX2_stitch 28 = .ok (.aload_n 0, 1) := by decide +kernel
theorem dX2_stitch_29 : decode cX2_stitch 29 = .ok (.dup, 1) := by decide +kernel
theorem dX2_stitch_30 : decode cX2_stitch 30 = .ok (.getfield 40, 3) := by decide +kernel
theorem dX2_stitch_33 : decode cX2_stitch 33 = .ok (.iconst 1, 1) := by decide +kernel
theorem dX2_stitch_34 : decode cX2_stitch 34 = .ok (.iadd, 1) := by decide +kernel
theorem dX2_stitch_35 : decode cX2_stitch 35 = .ok (.putfield 40, 3) := by decide +kernel
theorem dX2_stitch_38 : decode cX2_stitch 38 = .ok (.aload_n 0, 1) := by decide +kernel
theorem dX2_stitch_39 : decode cX2_stitch 39 = .ok (.iconst 0, 1) := by decide +kernel
theorem dX2_stitch_40 : decode cX2_stitch 40 = .ok (.putfield 34, 3) := by decide +kernel
theorem dX2_stitch_43 : decode cX2_stitch 43 = .ok (.aload_n 0, 1) := by decide +kernel
theorem dX2_stitch_44 : decode cX2_stitch 44 = .ok (.aload_n 0, 1) := by decide +kernel
theorem dX2_stitch_45 : decode cX2_stitch 45 = .ok (.aload_n 1, 1) := by decide +kernel
theorem dX2_stitch_46 : decode cX2_stitch 46 = .ok (.invokevirtual 71, 3) := by decide +kernel
theorem dX2_stitch_49 : decode cX2_stitch 49 = .ok (.putfield 37, 3) := by decide +kernel
theorem dX2_stitch_52 : decode cX2_stitch 52 = .ok (.aload_n 0, 1) := by decide +kernel
theorem dX2_stitch_53 : decode cX2_stitch 53 = .ok (.dup, 1) := by decide +kernel
theorem dX2_stitch_54 : decode cX2_stitch 54 = .ok (.getfield 34, 3) := by decide +kernel
theorem dX2_stitch_57 : decode cX2_stitch 57 = .ok (.aload_n 1, 1) := by decide +kernel
theorem dX2_stitch_58 : decode cX2_stitch 58 = .ok (.getfield 75, 3) := by decide +kernel
theorem dX2_stitch_61 : decode cX2_stitch 61 = .ok (.aload_n 0, 1) := by decide +kernel
theorem dX2_stitch_62 : decode cX2_stitch 62 = .ok (.getfield 31, 3) := by decide +kernel
theorem dX2_stitch_65 : decode cX2_stitch 65 = .ok (.iaload, 1) := by decide +kernel
theorem dX2_stitch_66 : decode cX2_stitch 66 = .ok (.iadd, 1) := by decide +kernel
theorem dX2_stitch_67 : decode cX2_stitch 67 = .ok (.putfield 34, 3) := by decide +kernel
theorem dX2_stitch_70 : decode cX2_stitch 70 = .ok (.aload_n 0, 1) := by decide +kernel
theorem dX2_stitch_71 : decode cX2_stitch 71 = .ok (.dup, 1) := by decide +kernel
theorem dX2_stitch_72 : decode cX2_stitch 72 = .ok (.getfield 31, 3) := by decide +kernel
theorem dX2_stitch_75 : decode cX2_stitch 75 = .ok (.iconst 1, 1) := by decide +kernel
theorem dX2_stitch_76 : decode cX2_stitch 76 = .ok (.iadd, 1) := by decide +kernel
theorem dX2_stitch_77 : decode cX2_stitch 77 = .ok (.putfield 31, 3) := by decide +kernel
theorem dX2_stitch_80 : decode cX2_stitch 80 = .ok (.aload_n 0, 1) := by decide +kernel
theorem dX2_stitch_81 : decode cX2_stitch 81 = .ok (.getfield 34, 3) := by decide +kernel
theorem dX2_stitch_84 : decode cX2_stitch 84 = .ok (.aload_n 0, 1) := by decide +kernel
theorem dX2_stitch_85 : decode cX2_stitch 85 = .ok (.getfield 37, 3) := by decide +kernel
theorem dX2_stitch_88 : decode cX2_stitch 88 = .ok (.if_icmp .le 43, 3) := by decide +kernel
theorem dX2_stitch_91 : decode cX2_stitch 91 = .ok (.iload_n 3, 1) := by decide +kernel
theorem dX2_stitch_92 : decode cX2_stitch 92 = .ok (.aload_n 1, 1) := by decide +kernel
theorem dX2_stitch_93 : decode cX2_stitch 93 = .ok (.getfield 68, 3) := by decide +kernel
theorem dX2_stitch_96 : decode cX2_stitch 96 = .ok (.iconst 1, 1) := by decide +kernel
theorem dX2_stitch_97 : decode cX2_stitch 97 = .ok (.iaload, 1) := by decide +kernel
theorem dX2_stitch_98 : decode cX2_stitch 98 = .ok (.aload_n 1, 1) := by decide +kernel
theorem dX2_stitch_99 : decode cX2_stitch 99 = .ok (.getfield 68, 3) := by decide +kernel
theorem dX2_stitch_102 : decode cX2_stitch 102 = .ok (.iconst 0, 1) := by decide +kernel
theorem dX2_stitch_103 : decode cX2_stitch 103 = .ok (.iaload, 1) := by decide +kernel
theorem dX2_stitch_104 : decode cX2_stitch 104 = .ok (.iadd, 1) := by decide +kernel
theorem dX2_stitch_105 : decode cX2_stitch 105 = .ok (.iadd, 1) := by decide +kernel
theorem dX2_stitch_106 : decode cX2_stitch 106 = .ok (.istore_n 3, 1) := by decide +kernel
theorem dX2_stitch_107 : decode cX2_stitch 107 = .ok (.aload_n 0, 1) := by decide +kernel
theorem dX2_stitch_108 : decode cX2_stitch 108 = .ok (.dup, 1) := by decide +kernel
theorem dX2_stitch_109 : decode cX2_stitch 109 = .ok (.getfield 43, 3) := by decide +kernel
theorem dX2_stitch_112 : decode cX2_stitch 112 = .ok (.iconst 1, 1) := by decide +kernel
theorem dX2_stitch_113 : decode cX2_stitch 113 = .ok (.iadd, 1) := by decide +kernel
theorem dX2_stitch_114 : decode cX2_stitch 114 = .ok (.putfield 43, 3) := by decide +kernel
theorem dX2_stitch_117 : decode cX2_stitch 117 = .ok (.aload_n 0, 1) := by decide +kernel
theorem dX2_stitch_118 : decode cX2_stitch 118 = .ok (.iconst 0, 1) := by decide +kernel
theorem dX2_stitch_119 : decode cX2_stitch 119 = .ok (.putfield 34, 3) := by decide +kernel
theorem dX2_stitch_122 : decode cX2_stitch 122 = .ok (.aload_n 0, 1) := by decide +kernel
theorem dX2_stitch_123 : decode cX2_stitch 123 = .ok (.aload_n 0, 1) := by decide +kernel
theorem dX2_stitch_124 : decode cX2_stitch 124 = .ok (.aload_n 1, 1) := by decide +kernel
theorem dX2_stitch_125 : decode cX2_stitch 125 = .ok (.invokevirtual 71, 3) := by decide +kernel
theorem dX2_stitch_128 : decode cX2_stitch 128 = .ok (.putfield 37, 3) := by decide +kernel
theorem dX2_stitch_131 : decode cX2_stitch 131 = .ok (.iload_n 3, 1) := by decide +kernel
theorem dX2_stitch_132 : decode cX2_stitch 132 = .ok (.ireturn, 1) := by decide +kernel
theorem dX2_keep_0 : decode cX2_keep 0 = .ok (.aload_n 0, 1) := by decide +kernel
theorem dX2_keep_1 : decode cX2_keep 1 = .ok (.getfield 28, 3) := by decide +kernel
theorem dX2_keep_4 : decode cX2_keep 4 = .ok (.bipush 20, 2) := by decide +kernel
theorem dX2_keep_6 : decode cX2_keep 6 = .ok (.if_icmp .lt 31, 3) := by decide +kernel
theorem dX2_keep_9 : decode cX2_keep 9 = .ok (.aload_n 0, 1) := by decide +kernel
theorem dX2_keep_10 : decode cX2_keep 10 = .ok (.getfield 15, 3) := by decide +kernel
theorem dX2_keep_13 : decode cX2_keep 13 = .ok (.bipush 6, 2) := by decide +kernel
theorem dX2_keep_15 : decode cX2_keep 15 = .ok (.aload_n 0, 1) := by decide +kernel
theorem dX2_keep_16 : decode cX2_keep 16 = .ok (.getfield 15, 3) := by decide +kernel
theorem dX2_keep_19 : decode cX2_keep 19 = .ok (.iconst 0, 1) := by decide +kernel
theorem dX2_keep_20 : decode cX2_keep 20 = .ok (.aload_n 0, 1) := by decide +kernel
theorem dX2_keep_21 : decode cX2_keep 21 = .ok (.getfield 15, 3) := by decide +kernel
theorem dX2_keep_24 : decode cX2_keep 24 = .ok (.arraylength, 1) := by decide +kernel
theorem dX2_keep_25 : decode cX2_keep 25 = .ok (.bipush 6, 2) := by decide +kernel
theorem dX2_keep_27 : decode cX2_keep 27 = .ok (.isub, 1) := by decide +kernel
theorem dX2_keep_28 : decode cX2_keep 28 = .ok (.invokestatic 78, 3) := by decide +kernel
theorem dX2_keep_31 : decode cX2_keep 31 = .ok (.aload_n 0, 1) := by decide +kernel
theorem dX2_keep_32 : decode cX2_keep 32 = .ok (.bipush 19, 2) := by decide +kernel
theorem dX2_keep_34 : decode cX2_keep 34 = .ok (.putfield 28, 3) := by decide +kernel
theorem dX2_keep_37 : decode cX2_keep 37 = .ok (.aload_n 0, 1) := by decide +kernel
theorem dX2_keep_38 : decode cX2_keep 38 = .ok (.getfield 28, 3) := by decide +kernel
theorem dX2_keep_41 : decode cX2_keep 41 = .ok (.bipush 6, 2) := by decide +kernel
theorem dX2_keep_43 : decode cX2_keep 43 = .ok (.imul, 1) := by decide +kernel
theorem dX2_keep_44 : decode cX2_keep 44 = .ok (.istore_n 1, 1) := by decide +kernel
theorem dX2_keep_45 : decode cX2_keep 45 = .ok (.aload_n 0, 1) := by decide +kernel
theorem dX2_keep_46 : decode cX2_keep 46 = .ok (.getfield 15, 3) := by decide +kernel
theorem dX2_keep_49 : decode cX2_keep 49 = .ok (.iload_n 1, 1) := by decide +kernel
theorem dX2_keep_50 : decode cX2_keep 50 = .ok (.aload_n 0, 1) := by decide +kernel
theorem dX2_keep_51 : decode cX2_keep 51 = .ok (.getfield 31, 3) := by decide +kernel
theorem dX2_keep_54 : decode cX2_keep 54 = .ok (.iastore, 1) := by decide +kernel
theorem dX2_keep_55 : decode cX2_keep 55 = .ok (.aload_n 0, 1) := by decide +kernel
theorem dX2_keep_56 : decode cX2_keep 56 = .ok (.getfield 15, 3) := by decide +kernel
theorem dX2_keep_59 : decode cX2_keep 59 = .ok (.iload_n 1, 1) := by decide +kernel
theorem dX2_keep_60 : decode cX2_keep 60 = .ok (.iconst 1, 1) := by decide +kernel
theorem dX2_keep_61 : decode cX2_keep 61 = .ok (.iadd, 1) := by decide +kernel
theorem dX2_keep_62 : decode cX2_keep 62 = .ok (.aload_n 0, 1) := by decide +kernel
theorem dX2_keep_63 : decode cX2_keep 63 = .ok (.getfield 34, 3) := by decide +kernel
theorem dX2_keep_66 : decode cX2_keep 66 = .ok (.iastore, 1) := by decide +kernel
theorem dX2_keep_67 : decode cX2_keep 67 = .ok (.aload_n 0, 1) := by decide +kernel
theorem dX2_keep_68 : decode cX2_keep 68 = .ok (.getfield 15, 3) := by decide +kernel
theorem dX2_keep_71 : decode cX2_keep 71 = .ok (.iload_n 1, 1) := by decide +kernel
theorem dX2_keep_72 : decode cX2_keep 72 = .ok (.iconst 2, 1) := by decide +kernel
theorem dX2_keep_73 : decode cX2_keep 73 = .ok (.iadd, 1) := by decide +kernel
theorem dX2_keep_74 : decode cX2_keep 74 = .ok (.aload_n 0, 1) := by decide +kernel
theorem dX2_keep_75 : decode cX2_keep 75 = .ok (.getfield 37, 3) := by decide +kernel
theorem dX2_keep_78 : decode cX2_keep 78 = .ok (.iastore, 1) := by decide +kernel
theorem dX2_keep_79 : decode cX2_keep 79 = .ok (.aload_n 0, 1) := by decide +kernel
theorem dX2_keep_80 : decode cX2_keep 80 = .ok (.getfield 15, 3) := by decide +kernel
theorem dX2_keep_83 : decode cX2_keep 83 = .ok (.iload_n 1, 1) := by decide +kernel
theorem dX2_keep_84 : decode cX2_keep 84 = .ok (.iconst 3, 1) := by decide +kernel
theorem dX2_keep_85 : decode cX2_keep 85 = .ok (.iadd, 1) := by decide +kernel
theorem dX2_keep_86 : decode cX2_keep 86 = .ok (.aload_n 0, 1) := by decide +kernel
theorem dX2_keep_87 : decode cX2_keep 87 = .ok (.getfield 40, 3) := by decide +kernel
theorem dX2_keep_90 : decode cX2_keep 90 = .ok (.iastore, 1) := by decide +kernel
theorem dX2_keep_91 : decode cX2_keep 91 = .ok (.aload_n 0, 1) := by decide +kernel
theorem dX2_keep_92 : decode cX2_keep 92 = .ok (.getfield 15, 3) := by decide +kernel
theorem dX2_keep_95 : decode cX2_keep 95 = .ok (.iload_n 1, 1) := by decide +kernel
theorem dX2_keep_96 : decode cX2_keep 96 = .ok (.iconst 4, 1) := by decide +kernel
theorem dX2_keep_97 : decode cX2_keep 97 = .ok (.iadd, 1) := by decide +kernel
theorem dX2_keep_98 : decode cX2_keep 98 = .ok (.aload_n 0, 1) := by decide +kernel
theorem dX2_keep_99 : decode cX2_keep 99 = .ok (.getfield 43, 3) := by decide +kernel
theorem dX2_keep_102 : decode cX2_keep 102 = .ok (.iastore, 1) := by decide +kernel
theorem dX2_keep_103 : decode cX2_keep 103 = .ok (.aload_n 0, 1) := by decide +kernel
theorem dX2_keep_104 : decode cX2_keep 104 = .ok (.getfield 15, 3) := by decide +kernel
theorem dX2_keep_107 : decode cX2_keep 107 = .ok (.iload_n 1, 1) := by decide +kernel
theorem dX2_keep_108 : decode cX2_keep 108 = .ok (.iconst 5, 1) := by decide +kernel
theorem dX2_keep_109 : decode cX2_keep 109 = .ok (.iadd, 1) := by decide +kernel
theorem dX2_keep_110 : decode cX2_keep 110 = .ok (.aload_n 0, 1) := by decide +kernel
theorem dX2_keep_111 : decode cX2_keep 111 = .ok (.getfield 46, 3) := by decide +kernel
theorem dX2_keep_114 : decode cX2_keep 114 = .ok (.iastore, 1) := by decide +kernel
theorem dX2_keep_115 : decode cX2_keep 115 = .ok (.aload_n 0, 1) := by decide +kernel
theorem dX2_keep_116 : decode cX2_keep 116 = .ok (.dup, 1) := by decide +kernel
theorem dX2_keep_117 : decode cX2_keep 117 = .ok (.getfield 28, 3) := by decide +kernel
theorem dX2_keep_120 : decode cX2_keep 120 = .ok (.iconst 1, 1) := by decide +kernel
theorem dX2_keep_121 : decode cX2_keep 121 = .ok (.iadd, 1) := by decide +kernel
theorem dX2_keep_122 : decode cX2_keep 122 = .ok (.putfield 28, 3) := by decide +kernel
theorem dX2_keep_125 : decode cX2_keep 125 = .ok (.return_, 1) := by decide +kernel
theorem dX2_back_0 : decode cX2_back 0 = .ok (.aload_n 0, 1) := by decide +kernel
theorem dX2_back_1 : decode cX2_back 1 = .ok (.getfield 28, 3) := by decide +kernel
theorem dX2_back_4 : decode cX2_back 4 = .ok (.ifCond .gt 4, 3) := by decide +kernel
theorem dX2_back_7 : decode cX2_back 7 = .ok (.return_, 1) := by decide +kernel
theorem dX2_back_8 : decode cX2_back 8 = .ok (.aload_n 0, 1) := by decide +kernel
theorem dX2_back_9 : decode cX2_back 9 = .ok (.dup, 1) := by decide +kernel
theorem dX2_back_10 : decode cX2_back 10 = .ok (.getfield 28, 3) := by decide +kernel
theorem dX2_back_13 : decode cX2_back 13 = .ok (.iconst 1, 1) := by decide +kernel
theorem dX2_back_14 : decode cX2_back 14 = .ok (.isub, 1) := by decide +kernel
theorem dX2_back_15 : decode cX2_back 15 = .ok (.putfield 28, 3) := by decide +kernel
theorem dX2_back_18 : decode cX2_back 18 = .ok (.aload_n 0, 1) := by decide +kernel
theorem dX2_back_19 : decode cX2_back 19 = .ok (.getfield 28, 3) := by decide +kernel
theorem dX2_back_22 : decode cX2_back 22 = .ok (.bipush 6, 2) := by decide +kernel
theorem dX2_back_24 : decode cX2_back 24 = .ok (.imul, 1) := by decide +kernel
theorem dX2_back_25 : decode cX2_back 25 = .ok (.istore_n 1, 1) := by decide +kernel
theorem dX2_back_26 : decode cX2_back 26 = .ok (.aload_n 0, 1) := by decide +kernel
theorem dX2_back_27 : decode cX2_back 27 = .ok (.aload_n 0, 1) := by decide +kernel
theorem dX2_back_28 : decode cX2_back 28 = .ok (.getfield 15, 3) := by decide +kernel
theorem dX2_back_31 : decode cX2_back 31 = .ok (.iload_n 1, 1) := by decide +kernel
theorem dX2_back_32 : decode cX2_back 32 = .ok (.iaload, 1) := by decide +kernel
theorem dX2_back_33 : decode cX2_back 33 = .ok (.putfield 31, 3) := by decide +kernel
theorem dX2_back_36 : decode cX2_back 36 = .ok (.aload_n 0, 1) := by decide +kernel
theorem dX2_back_37 : decode cX2_back 37 = .ok (.aload_n 0, 1) := by decide +kernel
theorem dX2_back_38 : decode cX2_back 38 = .ok (.getfield 15, 3) := by decide +kernel
theorem dX2_back_41 : decode cX2_back 41 = .ok (.iload_n 1, 1) := by decide +kernel
theorem dX2_back_42 : decode cX2_back 42 = .ok (.iconst 1, 1) := by decide +kernel
theorem dX2_back_43 : decode cX2_back 43 = .ok (.iadd, 1) := by decide +kernel
theorem dX2_back_44 : decode cX2_back 44 = .ok (.iaload, 1) := by decide +kernel
theorem dX2_back_45 : decode cX2_back 45 = .ok (.putfield 34, 3) := by decide +kernel
theorem dX2_back_48 : decode cX2_back 48 = .ok (.aload_n 0, 1) := by decide +kernel
theorem dX2_back_49 : decode cX2_back 49 = .ok (.aload_n 0, 1) := by decide +kernel
theorem dX2_back_50 : decode cX2_back 50 = .ok (.getfield 15, 3) := by decide +kernel
theorem dX2_back_53 : decode cX2_back 53 = .ok (.iload_n 1, 1) := by decide +kernel
theorem dX2_back_54 : decode cX2_back 54 = .ok (.iconst 2, 1) := by decide +kernel
theorem dX2_back_55 : decode cX2_back 55 = .ok (.iadd, 1) := by decide +kernel
theorem dX2_back_56 : decode cX2_back 56 = .ok (.iaload, 1) := by decide +kernel
theorem dX2_back_57 : decode cX2_back 57 = .ok (.putfield 37, 3) := by decide +kernel
theorem dX2_back_60 : decode cX2_back 60 = .ok (.aload_n 0, 1) := by decide +kernel
theorem dX2_back_61 : decode cX2_back 61 = .ok (.aload_n 0, 1) := by decide +kernel
theorem dX2_back_62 : decode cX2_back 62 = .ok (.getfield 15, 3) := by decide +kernel
theorem dX2_back_65 : decode cX2_back 65 = .ok (.iload_n 1, 1) := by decide +kernel
theorem dX2_back_66 : decode cX2_back 66 = .ok (.iconst 3, 1) := by decide +kernel
theorem dX2_back_67 : decode cX2_back 67 = .ok (.iadd, 1) := by decide +kernel
theorem dX2_back_68 : decode cX2_back 68 = .ok (.iaload, 1) := by decide +kernel
theorem dX2_back_69 : decode cX2_back 69 = .ok (.putfield 40, 3) := by decide +kernel
theorem dX2_back_72 : decode cX2_back 72 = .ok (.aload_n 0, 1) := by decide +kernel
theorem dX2_back_73 : decode cX2_back 73 = .ok (.aload_n 0, 1) := by decide +kernel
theorem dX2_back_74 : decode cX2_back 74 = .ok (.getfield 15, 3) := by decide +kernel
theorem dX2_back_77 : decode cX2_back 77 = .ok (.iload_n 1, 1) := by decide +kernel
theorem dX2_back_78 : decode cX2_back 78 = .ok (.iconst 4, 1) := by decide +kernel
theorem dX2_back_79 : decode cX2_back 79 = .ok (.iadd, 1) := by decide +kernel
theorem dX2_back_80 : decode cX2_back 80 = .ok (.iaload, 1) := by decide +kernel
theorem dX2_back_81 : decode cX2_back 81 = .ok (.putfield 43, 3) := by decide +kernel
theorem dX2_back_84 : decode cX2_back 84 = .ok (.aload_n 0, 1) := by decide +kernel
theorem dX2_back_85 : decode cX2_back 85 = .ok (.aload_n 0, 1) := by decide +kernel
theorem dX2_back_86 : decode cX2_back 86 = .ok (.getfield 15, 3) := by decide +kernel
theorem dX2_back_89 : decode cX2_back 89 = .ok (.iload_n 1, 1) := by decide +kernel
theorem dX2_back_90 : decode cX2_back 90 = .ok (.iconst 5, 1) := by decide +kernel
theorem dX2_back_91 : decode cX2_back 91 = .ok (.iadd, 1) := by decide +kernel
theorem dX2_back_92 : decode cX2_back 92 = .ok (.iaload, 1) := by decide +kernel
theorem dX2_back_93 : decode cX2_back 93 = .ok (.putfield 46, 3) := by decide +kernel
theorem dX2_back_96 : decode cX2_back 96 = .ok (.return_, 1) := by decide +kernel
theorem dX4_forget_0 : decode cX4_forget 0 = .ok (.aload_n 0, 1) := by decide +kernel
theorem dX4_forget_1 : decode cX4_forget 1 = .ok (.iconst 0, 1) := by decide +kernel
theorem dX4_forget_2 : decode cX4_forget 2 = .ok (.putfield 48, 3) := by decide +kernel
theorem dX4_forget_5 : decode cX4_forget 5 = .ok (.aload_n 0, 1) := by decide +kernel
theorem dX4_forget_6 : decode cX4_forget 6 = .ok (.iconst 0, 1) := by decide +kernel
theorem dX4_forget_7 : decode cX4_forget 7 = .ok (.putfield 52, 3) := by decide +kernel
theorem dX4_forget_10 : decode cX4_forget 10 = .ok (.return_, 1) := by decide +kernel
theorem dX4_inOrder_0 : decode cX4_inOrder 0 = .ok (.iconst 0, 1) := by decide +kernel
theorem dX4_inOrder_1 : decode cX4_inOrder 1 = .ok (.istore_n 3, 1) := by decide +kernel
theorem dX4_inOrder_2 : decode cX4_inOrder 2 = .ok (.aload_n 0, 1) := by decide +kernel
theorem dX4_inOrder_3 : decode cX4_inOrder 3 = .ok (.iconst 0, 1) := by decide +kernel
theorem dX4_inOrder_4 : decode cX4_inOrder 4 = .ok (.putfield 55, 3) := by decide +kernel
theorem dX4_inOrder_7 : decode cX4_inOrder 7 = .ok (.iconst 0, 1) := by decide +kernel
theorem dX4_inOrder_8 : decode cX4_inOrder 8 = .ok (.istore 4, 2) := by decide +kernel
theorem dX4_inOrder_10 : decode cX4_inOrder 10 = .ok (.iload 4, 2) := by decide +kernel
theorem dX4_inOrder_12 : decode cX4_inOrder 12 = .ok (.aload_n 1, 1) := by decide +kernel
theorem dX4_inOrder_13 : decode cX4_inOrder 13 = .ok (.getfield 58, 3) := by decide +kernel
theorem dX4_inOrder_16 : decode cX4_inOrder 16 = .ok (.if_icmp .ge 73, 3) := by decide +kernel
theorem dX4_inOrder_19 : decode cX4_inOrder 19 = .ok (.aload_n 0, 1) := by decide +kernel
theorem dX4_inOrder_20 : decode cX4_inOrder 20 = .ok (.getfield 9, 3) := by decide +kernel
theorem dX4_inOrder_23 : decode cX4_inOrder 23 = .ok (.iload 4, 2) := by decide +kernel
theorem dX4_inOrder_25 : decode cX4_inOrder 25 = .ok (.aload_n 1, 1) := by decide +kernel
theorem dX4_inOrder_26 : decode cX4_inOrder 26 = .ok (.getfield 63, 3) := by decide +kernel
theorem dX4_inOrder_29 : decode cX4_inOrder 29 = .ok (.iload 4, 2) := by decide +kernel
theorem dX4_inOrder_31 : decode cX4_inOrder 31 = .ok (.iaload, 1) := by decide +kernel
theorem dX4_inOrder_32 : decode cX4_inOrder 32 = .ok (.iload_n 3, 1) := by decide +kernel
theorem dX4_inOrder_33 : decode cX4_inOrder 33 = .ok (.if_icmp .le 7, 3) := by decide +kernel
theorem dX4_inOrder_36 : decode cX4_inOrder 36 = .ok (.iconst 1, 1) := by decide +kernel
theorem dX4_inOrder_37 : decode cX4_inOrder 37 = .ok (.goto 4, 3) := by decide +kernel
theorem dX4_inOrder_40 : decode cX4_inOrder 40 = .ok (.iconst 0, 1) := by decide +kernel
theorem dX4_inOrder_41 : decode cX4_inOrder 41 = .ok (.iastore, 1) := by decide +kernel
theorem dX4_inOrder_42 : decode cX4_inOrder 42 = .ok (.aload_n 0, 1) := by decide +kernel
theorem dX4_inOrder_43 : decode cX4_inOrder 43 = .ok (.dup, 1) := by decide +kernel
theorem dX4_inOrder_44 : decode cX4_inOrder 44 = .ok (.getfield 55, 3) := by decide +kernel
theorem dX4_inOrder_47 : decode cX4_inOrder 47 = .ok (.aload_n 0, 1) := by decide +kernel
theorem dX4_inOrder_48 : decode cX4_inOrder 48 = .ok (.getfield 9, 3) := by decide +kernel
theorem dX4_inOrder_51 : decode cX4_inOrder 51 = .ok (.iload 4, 2) := by decide +kernel
theorem dX4_inOrder_53 : decode cX4_inOrder 53 = .ok (.iaload, 1) := by decide +kernel
theorem dX4_inOrder_54 : decode cX4_inOrder 54 = .ok (.iadd, 1) := by decide +kernel
theorem dX4_inOrder_55 : decode cX4_inOrder 55 = .ok (.putfield 55, 3) := by decide +kernel
theorem dX4_inOrder_58 : decode cX4_inOrder 58 = .ok (.aload_n 0, 1) := by decide +kernel
theorem dX4_inOrder_59 : decode cX4_inOrder 59 = .ok (.getfield 9, 3) := by decide +kernel
theorem dX4_inOrder_62 : decode cX4_inOrder 62 = .ok (.iload 4, 2) := by decide +kernel
theorem dX4_inOrder_64 : decode cX4_inOrder 64 = .ok (.iaload, 1) := by decide +kernel
theorem dX4_inOrder_65 : decode cX4_inOrder 65 = .ok (.iconst 1, 1) := by decide +kernel
theorem dX4_inOrder_66 : decode cX4_inOrder 66 = .ok (.if_icmp .ne 7, 3) := by decide +kernel
theorem dX4_inOrder_69 : decode cX4_inOrder 69 = .ok (.iload_n 2, 1) := by decide +kernel
theorem dX4_inOrder_70 : decode cX4_inOrder 70 = .ok (.goto 4, 3) := by decide +kernel
theorem dX4_inOrder_73 : decode cX4_inOrder 73 = .ok (.iload_n 3, 1) := by decide +kernel
theorem dX4_inOrder_74 : decode cX4_inOrder 74 = .ok (.aload_n 1, 1) := by decide +kernel
theorem dX4_inOrder_75 : decode cX4_inOrder 75 = .ok (.getfield 63, 3) := by decide +kernel
theorem dX4_inOrder_78 : decode cX4_inOrder 78 = .ok (.iload 4, 2) := by decide +kernel
theorem dX4_inOrder_80 : decode cX4_inOrder 80 = .ok (.iaload, 1) := by decide +kernel
theorem dX4_inOrder_81 : decode cX4_inOrder 81 = .ok (.isub, 1) := by decide +kernel
theorem dX4_inOrder_82 : decode cX4_inOrder 82 = .ok (.istore_n 3, 1) := by decide +kernel
theorem dX4_inOrder_83 : decode cX4_inOrder 83 = .ok (.iinc 4 1, 3) := by decide +kernel
theorem dX4_inOrder_86 : decode cX4_inOrder 86 = .ok (.goto (-76), 3) := by decide +kernel
theorem dX4_inOrder_89 : decode cX4_inOrder 89 = .ok (.return_, 1) := by decide +kernel
theorem dX4_anyOrder_0 : decode cX4_anyOrder 0 = .ok (.aload_n 0, 1) := by decide +kernel
theorem dX4_anyOrder_1 : decode cX4_anyOrder 1 = .ok (.getfield 48, 3) := by decide +kernel
theorem dX4_anyOrder_4 : decode cX4_anyOrder 4 = .ok (.iload_n 2, 1) := by decide +kernel
theorem dX4_anyOrder_5 : decode cX4_anyOrder 5 = .ok (.if_icmp .ne 4, 3) := by decide +kernel
theorem dX4_anyOrder_8 : decode cX4_anyOrder 8 = .ok (.return_, 1) := by decide +kernel
theorem dX4_anyOrder_9 : decode cX4_anyOrder 9 = .ok (.aload_n 0, 1) := by decide +kernel
theorem dX4_anyOrder_10 : decode cX4_anyOrder 10 = .ok (.iload_n 2, 1) := by decide +kernel
theorem dX4_anyOrder_11 : decode cX4_anyOrder 11 = .ok (.putfield 48, 3) := by decide +kernel
theorem dX4_anyOrder_14 : decode cX4_anyOrder 14 = .ok (.aload_n 0, 1) := by decide +kernel
theorem dX4_anyOrder_15 : decode cX4_anyOrder 15 = .ok (.aload_n 1, 1) := by decide +kernel
theorem dX4_anyOrder_16 : decode cX4_anyOrder 16 = .ok (.getfield 66, 3) := by decide +kernel
theorem dX4_anyOrder_19 : decode cX4_anyOrder 19 = .ok (.aload_n 1, 1) := by decide +kernel
theorem dX4_anyOrder_20 : decode cX4_anyOrder 20 = .ok (.getfield 58, 3) := by decide +kernel
theorem dX4_anyOrder_23 : decode cX4_anyOrder 23 = .ok (.iaload, 1) := by decide +kernel
theorem dX4_anyOrder_24 : decode cX4_anyOrder 24 = .ok (.iload_n 2, 1) := by decide +kernel
theorem dX4_anyOrder_25 : decode cX4_anyOrder 25 = .ok (.iadd, 1) := by decide +kernel
theorem dX4_anyOrder_26 : decode cX4_anyOrder 26 = .ok (.iconst 1, 1) := by decide +kernel
theorem dX4_anyOrder_27 : decode cX4_anyOrder 27 = .ok (.isub, 1) := by decide +kernel
theorem dX4_anyOrder_28 : decode cX4_anyOrder 28 = .ok (.iconst 1, 1) := by decide +kernel
theorem dX4_anyOrder_29 : decode cX4_anyOrder 29 = .ok (.iload_n 2, 1) := by decide +kernel
theorem dX4_anyOrder_30 : decode cX4_anyOrder 30 = .ok (.invokestatic 69, 3) := by decide +kernel
theorem dX4_anyOrder_33 : decode cX4_anyOrder 33 = .ok (.idiv, 1) := by decide +kernel
theorem dX4_anyOrder_34 : decode cX4_anyOrder 34 = .ok (.putfield 75, 3) := by decide +kernel
theorem dX4_anyOrder_37 : decode cX4_anyOrder 37 = .ok (.iconst 0, 1) := by decide +kernel
theorem dX4_anyOrder_38 : decode cX4_anyOrder 38 = .ok (.istore_n 3, 1) := by decide +kernel
theorem dX4_anyOrder_39 : decode cX4_anyOrder 39 = .ok (.iload_n 3, 1) := by decide +kernel
theorem dX4_anyOrder_40 : decode cX4_anyOrder 40 = .ok (.bipush 10, 2) := by decide +kernel
theorem dX4_anyOrder_42 : decode cX4_anyOrder 42 = .ok (.if_icmp .ge 54, 3) := by decide +kernel
theorem dX4_anyOrder_45 : decode cX4_anyOrder 45 = .ok (.iconst 0, 1) := by decide +kernel
theorem dX4_anyOrder_46 : decode cX4_anyOrder 46 = .ok (.istore 4, 2) := by decide +kernel
theorem dX4_anyOrder_48 : decode cX4_anyOrder 48 = .ok (.iload 4, 2) := by decide +kernel
theorem dX4_anyOrder_50 : decode cX4_anyOrder 50 = .ok (.bipush 10, 2) := by decide +kernel
theorem dX4_anyOrder_52 : decode cX4_anyOrder 52 = .ok (.if_icmp .ge 17, 3) := by decide +kernel
theorem dX4_anyOrder_55 : decode cX4_anyOrder 55 = .ok (.aload_n 0, 1) := by decide +kernel
theorem dX4_anyOrder_56 : decode cX4_anyOrder 56 = .ok (.getfield 18, 3) := by decide +kernel
theorem dX4_anyOrder_59 : decode cX4_anyOrder 59 = .ok (.iload 4, 2) := by decide +kernel
theorem dX4_anyOrder_61 : decode cX4_anyOrder 61 = .ok (.iconst 0, 1) := by decide +kernel
theorem dX4_anyOrder_62 : decode cX4_anyOrder 62 = .ok (.iastore, 1) := by decide +kernel
theorem dX4_anyOrder_63 : decode cX4_anyOrder 63 = .ok (.iinc 4 1, 3) := by decide +kernel
theorem dX4_anyOrder_66 : decode cX4_anyOrder 66 = .ok (.goto (-18), 3) := by decide +kernel
theorem dX4_anyOrder_69 : decode cX4_anyOrder 69 = .ok (.aload_n 0, 1) := by decide +kernel
theorem dX4_anyOrder_70 : decode cX4_anyOrder 70 = .ok (.aload_n 1, 1) := by decide +kernel
theorem dX4_anyOrder_71 : decode cX4_anyOrder 71 = .ok (.iload_n 2, 1) := by decide +kernel
theorem dX4_anyOrder_72 : decode cX4_anyOrder 72 = .ok (.iconst 0, 1) := by decide +kernel
theorem dX4_anyOrder_73 : decode cX4_anyOrder 73 = .ok (.invokevirtual 78, 3) := by decide +kernel
theorem dX4_anyOrder_76 : decode cX4_anyOrder 76 = .ok (.ifCond .eq 4, 3) := by decide +kernel
theorem dX4_anyOrder_79 : decode cX4_anyOrder 79 = .ok (.return_, 1) := by decide +kernel
theorem dX4_anyOrder_80 : decode cX4_anyOrder 80 = .ok (.aload_n 0, 1) := by decide +kernel
theorem dX4_anyOrder_81 : decode cX4_anyOrder 81 = .ok (.dup, 1) := by decide +kernel
theorem dX4_anyOrder_82 : decode cX4_anyOrder 82 = .ok (.getfield 75, 3) := by decide +kernel
theorem dX4_anyOrder_85 : decode cX4_anyOrder 85 = .ok (.iconst 1, 1) := by decide +kernel
theorem dX4_anyOrder_86 : decode cX4_anyOrder 86 = .ok (.iadd, 1) := by decide +kernel
theorem dX4_anyOrder_87 : decode cX4_anyOrder 87 = .ok (.putfield 75, 3) := by decide +kernel
theorem dX4_anyOrder_90 : decode cX4_anyOrder 90 = .ok (.iinc 3 1, 3) := by decide +kernel
theorem dX4_anyOrder_93 : decode cX4_anyOrder 93 = .ok (.goto (-54), 3) := by decide +kernel
theorem dX4_anyOrder_96 : decode cX4_anyOrder 96 = .ok (.return_, 1) := by decide +kernel
theorem dX4_packs_0 : decode cX4_packs 0 = .ok (.iload_n 3, 1) := by decide +kernel
theorem dX4_packs_1 : decode cX4_packs 1 = .ok (.aload_n 1, 1) := by decide +kernel
theorem dX4_packs_2 : decode cX4_packs 2 = .ok (.getfield 58, 3) := by decide +kernel
theorem dX4_packs_5 : decode cX4_packs 5 = .ok (.if_icmp .lt 5, 3) := by decide +kernel
theorem dX4_packs_8 : decode cX4_packs 8 = .ok (.iconst 1, 1) := by decide +kernel
theorem dX4_packs_9 : decode cX4_packs 9 = .ok (.ireturn, 1) := by decide +kernel
theorem dX4_packs_10 : decode cX4_packs 10 = .ok (.aload_n 1, 1) := by decide +kernel
theorem dX4_packs_11 : decode cX4_packs 11 = .ok (.getfield 63, 3) := by decide +kernel
theorem dX4_packs_14 : decode cX4_packs 14 = .ok (.iload_n 3, 1) := by decide +kernel
theorem dX4_packs_15 : decode cX4_packs 15 = .ok (.iaload, 1) := by decide +kernel
theorem dX4_packs_16 : decode cX4_packs 16 = .ok (.istore 4, 2) := by decide +kernel
theorem dX4_packs_18 : decode cX4_packs 18 = .ok (.iconst 0, 1) := by decide +kernel
theorem dX4_packs_19 : decode cX4_packs 19 = .ok (.istore 5, 2) := by decide +kernel
theorem dX4_packs_21 : decode cX4_packs 21 = .ok (.iload 5, 2) := by decide +kernel
theorem dX4_packs_23 : decode cX4_packs 23 = .ok (.aload_n 0, 1) := by decide +kernel
theorem dX4_packs_24 : decode cX4_packs 24 = .ok (.getfield 75, 3) := by decide +kernel
theorem dX4_packs_27 : decode cX4_packs 27 = .ok (.if_icmp .ge 85, 3) := by decide +kernel
theorem dX4_packs_30 : decode cX4_packs 30 = .ok (.iload 5, 2) := by decide +kernel
theorem dX4_packs_32 : decode cX4_packs 32 = .ok (.bipush 10, 2) := by decide +kernel
theorem dX4_packs_34 : decode cX4_packs 34 = .ok (.if_icmp .ge 78, 3) := by decide +kernel
theorem dX4_packs_37 : decode cX4_packs 37 = .ok (.aload_n 0, 1) := by decide +kernel
theorem dX4_packs_38 : decode cX4_packs 38 = .ok (.getfield 18, 3) := by decide +kernel
theorem dX4_packs_41 : decode cX4_packs 41 = .ok (.iload 5, 2) := by decide +kernel
theorem dX4_packs_43 : decode cX4_packs 43 = .ok (.iaload, 1) := by decide +kernel
theorem dX4_packs_44 : decode cX4_packs 44 = .ok (.iload 4, 2) := by decide +kernel
theorem dX4_packs_46 : decode cX4_packs 46 = .ok (.iadd, 1) := by decide +kernel
theorem dX4_packs_47 : decode cX4_packs 47 = .ok (.iload_n 2, 1) := by decide +kernel
theorem dX4_packs_48 : decode cX4_packs 48 = .ok (.if_icmp .gt 58, 3) := by decide +kernel
theorem dX4_packs_51 : decode cX4_packs 51 = .ok (.aload_n 0, 1) := by decide +kernel
theorem dX4_packs_52 : decode cX4_packs 52 = .ok (.iload 5, 2) := by decide +kernel
theorem dX4_packs_54 : decode cX4_packs 54 = .ok (.invokevirtual 82, 3) := by decide +kernel
theorem dX4_packs_57 : decode cX4_packs 57 = .ok (.ifCond .ne 49, 3) := by decide +kernel
theorem dX4_packs_60 : decode cX4_packs 60 = .ok (.aload_n 0, 1) := by decide +kernel
theorem dX4_packs_61 : decode cX4_packs 61 = .ok (.getfield 18, 3) := by decide +kernel
theorem dX4_packs_64 : decode cX4_packs 64 = .ok (.iload 5, 2) := by decide +kernel
theorem dX4_packs_66 : decode cX4_packs 66 = .ok (.dup2, 1) := by decide +kernel
theorem dX4_packs_67 : decode cX4_packs 67 = .ok (.iaload, 1) := by decide +kernel
theorem dX4_packs_68 : decode cX4_packs 68 = .ok (.iload 4, 2) := by decide +kernel
theorem dX4_packs_70 : decode cX4_packs 70 = .ok (.iadd, 1) := by decide +kernel
theorem dX4_packs_71 : decode cX4_packs 71 = .ok (.iastore, 1) := by decide +kernel
theorem dX4_packs_72 : decode cX4_packs 72 = .ok (.aload_n 0, 1) := by decide +kernel
theorem dX4_packs_73 : decode cX4_packs 73 = .ok (.getfield 15, 3) := by decide +kernel
theorem dX4_packs_76 : decode cX4_packs 76 = .ok (.iload_n 3, 1) := by decide +kernel
theorem dX4_packs_77 : decode cX4_packs 77 = .ok (.iload 5, 2) := by decide +kernel
theorem dX4_packs_79 : decode cX4_packs 79 = .ok (.iastore, 1) := by decide +kernel
theorem dX4_packs_80 : decode cX4_packs 80 = .ok (.aload_n 0, 1) := by decide +kernel
theorem dX4_packs_81 : decode cX4_packs 81 = .ok (.aload_n 1, 1) := by decide +kernel
theorem dX4_packs_82 : decode cX4_packs 82 = .ok (.iload_n 2, 1) := by decide +kernel
theorem dX4_packs_83 : decode cX4_packs 83 = .ok (.iload_n 3, 1) := by decide +kernel
theorem dX4_packs_84 : decode cX4_packs 84 = .ok (.iconst 1, 1) := by decide +kernel
theorem dX4_packs_85 : decode cX4_packs 85 = .ok (.iadd, 1) := by decide +kernel
theorem dX4_packs_86 : decode cX4_packs 86 = .ok (.invokevirtual 78, 3) := by decide +kernel
theorem dX4_packs_89 : decode cX4_packs 89 = .ok (.ifCond .eq 5, 3) := by decide +kernel
theorem dX4_packs_92 : decode cX4_packs 92 = .ok (.iconst 1, 1) := by decide +kernel
theorem dX4_packs_93 : decode cX4_packs 93 = .ok (.ireturn, 1) := by decide +kernel
theorem dX4_packs_94 : decode cX4_packs 94 = .ok (.aload_n 0, 1) := by decide +kernel
theorem dX4_packs_95 : decode cX4_packs 95 = .ok (.getfield 18, 3) := by decide +kernel
theorem dX4_packs_98 : decode cX4_packs 98 = .ok (.iload 5, 2) := by decide +kernel
theorem dX4_packs_100 : decode cX4_packs 100 = .ok (.dup2, 1) := by decide +kernel
theorem dX4_packs_101 : decode cX4_packs 101 = .ok (.iaload, 1) := by decide +kernel
theorem dX4_packs_102 : decode cX4_packs 102 = .ok (.iload 4, 2) := by decide +kernel
theorem dX4_packs_104 : decode cX4_packs 104 = .ok (.isub, 1) := by decide +kernel
theorem dX4_packs_105 : decode cX4_packs 105 = .ok (.iastore, 1) := by decide +kernel
theorem dX4_packs_106 : decode cX4_packs 106 = .ok (.iinc 5 1, 3) := by decide +kernel
theorem dX4_packs_109 : decode cX4_packs 109 = .ok (.goto (-88), 3) := by decide +kernel
theorem dX4_packs_112 : decode cX4_packs 112 = .ok (.iconst 0, 1) := by decide +kernel
theorem dX4_packs_113 : decode cX4_packs 113 = .ok (.ireturn, 1) := by decide +kernel
theorem dX4_isLoadAhead_0 : decode cX4_isLoadAhead 0 = .ok (.iconst 0, 1) := by decide +kernel
theorem dX4_isLoadAhead_1 : decode cX4_isLoadAhead 1 = .ok (.istore_n 2, 1) := by decide +kernel
theorem dX4_isLoadAhead_2 : decode cX4_isLoadAhead 2 = .ok (.iload_n 2, 1) := by decide +kernel
theorem dX4_isLoadAhead_3 : decode cX4_isLoadAhead 3 = .ok (.iload_n 1, 1) := by decide +kernel
theorem dX4_isLoadAhead_4 : decode cX4_isLoadAhead 4 = .ok (.if_icmp .ge 26, 3) := by decide +kernel
theorem dX4_isLoadAhead_7 : decode cX4_isLoadAhead 7 = .ok (.aload_n 0, 1) := by decide +kernel
theorem dX4_isLoadAhead_8 : decode cX4_isLoadAhead 8 = .ok (.getfield 18, 3) := by decide +kernel
theorem dX4_isLoadAhead_11 : decode cX4_isLoadAhead 11 = .ok (.iload_n 2, 1) := by decide +kernel
theorem dX4_isLoadAhead_12 : decode cX4_isLoadAhead 12 = .ok (.iaload, 1) := by decide +kernel
theorem dX4_isLoadAhead_13 : decode cX4_isLoadAhead 13 = .ok (.aload_n 0, 1) := by decide +kernel
theorem dX4_isLoadAhead_14 : decode cX4_isLoadAhead 14 = .ok (.getfield 18, 3) := by decide +kernel
theorem dX4_isLoadAhead_17 : decode cX4_isLoadAhead 17 = .ok (.iload_n 1, 1) := by decide +kernel
theorem dX4_isLoadAhead_18 : decode cX4_isLoadAhead 18 = .ok (.iaload, 1) := by decide +kernel
theorem dX4_isLoadAhead_19 : decode cX4_isLoadAhead 19 = .ok (.if_icmp .ne 5, 3) := by decide +kernel
theorem dX4_isLoadAhead_22 : decode cX4_isLoadAhead 22 = .ok (.iconst 1, 1) := by decide +kernel
theorem dX4_isLoadAhead_23 : decode cX4_isLoadAhead 23 = .ok (.ireturn, 1) := by decide +kernel
theorem dX4_isLoadAhead_24 : decode cX4_isLoadAhead 24 = .ok (.iinc 2 1, 3) := by decide +kernel
theorem dX4_isLoadAhead_27 : decode cX4_isLoadAhead 27 = .ok (.goto (-25), 3) := by decide +kernel
theorem dX4_isLoadAhead_30 : decode cX4_isLoadAhead 30 = .ok (.iconst 0, 1) := by decide +kernel
theorem dX4_isLoadAhead_31 : decode cX4_isLoadAhead 31 = .ok (.ireturn, 1) := by decide +kernel
theorem dX4_share_0 : decode cX4_share 0 = .ok (.aload_n 0, 1) := by decide +kernel
theorem dX4_share_1 : decode cX4_share 1 = .ok (.getfield 52, 3) := by decide +kernel
theorem dX4_share_4 : decode cX4_share 4 = .ok (.iload_n 2, 1) := by decide +kernel
theorem dX4_share_5 : decode cX4_share 5 = .ok (.if_icmp .ne 4, 3) := by decide +kernel
theorem dX4_share_8 : decode cX4_share 8 = .ok (.return_, 1) := by decide +kernel
theorem dX4_share_9 : decode cX4_share 9 = .ok (.aload_n 0, 1) := by decide +kernel
theorem dX4_share_10 : decode cX4_share 10 = .ok (.iload_n 2, 1) := by decide +kernel
theorem dX4_share_11 : decode cX4_share 11 = .ok (.putfield 52, 3) := by decide +kernel
theorem dX4_share_14 : decode cX4_share 14 = .ok (.aload_n 0, 1) := by decide +kernel
theorem dX4_share_15 : decode cX4_share 15 = .ok (.ldc 88, 2) := by decide +kernel
theorem dX4_share_17 : decode cX4_share 17 = .ok (.putfield 89, 3) := by decide +kernel
theorem dX4_share_20 : decode cX4_share 20 = .ok (.aload_n 0, 1) := by decide +kernel
theorem dX4_share_21 : decode cX4_share 21 = .ok (.aload_n 1, 1) := by decide +kernel
theorem dX4_share_22 : decode cX4_share 22 = .ok (.iload_n 2, 1) := by decide +kernel
theorem dX4_share_23 : decode cX4_share 23 = .ok (.iconst 0, 1) := by decide +kernel
theorem dX4_share_24 : decode cX4_share 24 = .ok (.iconst 0, 1) := by decide +kernel
theorem dX4_share_25 : decode cX4_share 25 = .ok (.invokevirtual 92, 3) := by decide +kernel
theorem dX4_share_28 : decode cX4_share 28 = .ok (.return_, 1) := by decide +kernel
theorem dX4_giveOut_0 : decode cX4_giveOut 0 = .ok (.iload_n 3, 1) := by decide +kernel
theorem dX4_giveOut_1 : decode cX4_giveOut 1 = .ok (.aload_n 1, 1) := by decide +kernel
theorem dX4_giveOut_2 : decode cX4_giveOut 2 = .ok (.getfield 58, 3) := by decide +kernel
theorem dX4_giveOut_5 : decode cX4_giveOut 5 = .ok (.if_icmp .lt 60, 3) := by decide +kernel
theorem dX4_giveOut_8 : decode cX4_giveOut 8 = .ok (.aload_n 0, 1) := by decide +kernel
theorem dX4_giveOut_9 : decode cX4_giveOut 9 = .ok (.getfield 27, 3) := by decide +kernel
theorem dX4_giveOut_12 : decode cX4_giveOut 12 = .ok (.iconst 0, 1) := by decide +kernel
theorem dX4_giveOut_13 : decode cX4_giveOut 13 = .ok (.iaload, 1) := by decide +kernel
theorem dX4_giveOut_14 : decode cX4_giveOut 14 = .ok (.aload_n 0, 1) := by decide +kernel
theorem dX4_giveOut_15 : decode cX4_giveOut 15 = .ok (.getfield 27, 3) := by decide +kernel
theorem dX4_giveOut_18 : decode cX4_giveOut 18 = .ok (.iconst 1, 1) := by decide +kernel
theorem dX4_giveOut_19 : decode cX4_giveOut 19 = .ok (.iaload, 1) := by decide +kernel
theorem dX4_giveOut_20 : decode cX4_giveOut 20 = .ok (.aload_n 0, 1) := by decide +kernel
theorem dX4_giveOut_21 : decode cX4_giveOut 21 = .ok (.getfield 27, 3) := by decide +kernel
theorem dX4_giveOut_24 : decode cX4_giveOut 24 = .ok (.iconst 2, 1) := by decide +kernel
theorem dX4_giveOut_25 : decode cX4_giveOut 25 = .ok (.iaload, 1) := by decide +kernel
theorem dX4_giveOut_26 : decode cX4_giveOut 26 = .ok (.invokestatic 69, 3) := by decide +kernel
theorem dX4_giveOut_29 : decode cX4_giveOut 29 = .ok (.invokestatic 69, 3) := by decide +kernel
theorem dX4_giveOut_32 : decode cX4_giveOut 32 = .ok (.istore 5, 2) := by decide +kernel
theorem dX4_giveOut_34 : decode cX4_giveOut 34 = .ok (.iload 5, 2) := by decide +kernel
theorem dX4_giveOut_36 : decode cX4_giveOut 36 = .ok (.aload_n 0, 1) := by decide +kernel
theorem dX4_giveOut_37 : decode cX4_giveOut 37 = .ok (.getfield 89, 3) := by decide +kernel
theorem dX4_giveOut_40 : decode cX4_giveOut 40 = .ok (.if_icmp .ge 24, 3) := by decide +kernel
theorem dX4_giveOut_43 : decode cX4_giveOut 43 = .ok (.aload_n 0, 1) := by decide +kernel
theorem dX4_giveOut_44 : decode cX4_giveOut 44 = .ok (.iload 5, 2) := by decide +kernel
theorem dX4_giveOut_46 : decode cX4_giveOut 46 = .ok (.putfield 89, 3) := by decide +kernel
theorem dX4_giveOut_49 : decode cX4_giveOut 49 = .ok (.aload_n 0, 1) := by decide +kernel
theorem dX4_giveOut_50 : decode cX4_giveOut 50 = .ok (.getfield 24, 3) := by decide +kernel
theorem dX4_giveOut_53 : decode cX4_giveOut 53 = .ok (.iconst 0, 1) := by decide +kernel
theorem dX4_giveOut_54 : decode cX4_giveOut 54 = .ok (.aload_n 0, 1) := by decide +kernel
theorem dX4_giveOut_55 : decode cX4_giveOut 55 = .ok (.getfield 21, 3) := by decide +kernel
theorem dX4_giveOut_58 : decode cX4_giveOut 58 = .ok (.iconst 0, 1) := by decide +kernel
theorem dX4_giveOut_59 : decode cX4_giveOut 59 = .ok (.bipush 10, 2) := by decide +kernel
theorem dX4_giveOut_61 : decode cX4_giveOut 61 = .ok (.invokestatic 96, 3) := by decide +kernel
theorem dX4_giveOut_64 : decode cX4_giveOut 64 = .ok (.return_, 1) := by decide +kernel
theorem dX4_giveOut_65 : decode cX4_giveOut 65 = .ok (.aload_n 1, 1) := by decide +kernel
theorem dX4_giveOut_66 : decode cX4_giveOut 66 = .ok (.getfield 63, 3) := by decide +kernel
theorem dX4_giveOut_69 : decode cX4_giveOut 69 = .ok (.iload_n 3, 1) := by decide +kernel
theorem dX4_giveOut_70 : decode cX4_giveOut 70 = .ok (.iaload, 1) := by decide +kernel
theorem dX4_giveOut_71 : decode cX4_giveOut 71 = .ok (.istore 5, 2) := by decide +kernel
theorem dX4_giveOut_73 : decode cX4_giveOut 73 = .ok (.iconst 0, 1) := by decide +kernel
theorem dX4_giveOut_74 : decode cX4_giveOut 74 = .ok (.istore 6, 2) := by decide +kernel
theorem dX4_giveOut_76 : decode cX4_giveOut 76 = .ok (.iload 6, 2) := by decide +kernel
theorem dX4_giveOut_78 : decode cX4_giveOut 78 = .ok (.iload 4, 2) := by decide +kernel
theorem dX4_giveOut_80 : decode cX4_giveOut 80 = .ok (.if_icmp .gt 184, 3) := by decide +kernel
theorem dX4_giveOut_83 : decode cX4_giveOut 83 = .ok (.iload 6, 2) := by decide +kernel
theorem dX4_giveOut_85 : decode cX4_giveOut 85 = .ok (.aload_n 1, 1) := by decide +kernel
theorem dX4_giveOut_86 : decode cX4_giveOut 86 = .ok (.getfield 102, 3) := by decide +kernel
theorem dX4_giveOut_89 : decode cX4_giveOut 89 = .ok (.iconst 5, 1) := by decide +kernel
theorem dX4_giveOut_90 : decode cX4_giveOut 90 = .ok (.iaload, 1) := by decide +kernel
theorem dX4_giveOut_91 : decode cX4_giveOut 91 = .ok (.if_icmp .ge 173, 3) := by decide +kernel
theorem dX4_giveOut_94 : decode cX4_giveOut 94 = .ok (.iload 6, 2) := by decide +kernel
theorem dX4_giveOut_96 : decode cX4_giveOut 96 = .ok (.aload_n 0, 1) := by decide +kernel
theorem dX4_giveOut_97 : decode cX4_giveOut 97 = .ok (.getfield 27, 3) := by decide +kernel
theorem dX4_giveOut_100 : decode cX4_giveOut 100 = .ok (.arraylength, 1) := by decide +kernel
theorem dX4_giveOut_101 : decode cX4_giveOut 101 = .ok (.if_icmp .ge 163, 3) := by decide +kernel
theorem dX4_giveOut_104 : decode cX4_giveOut 104 = .ok (.aload_n 0, 1) := by decide +kernel
theorem dX4_giveOut_105 : decode cX4_giveOut 105 = .ok (.getfield 27, 3) := by decide +kernel
theorem dX4_giveOut_108 : decode cX4_giveOut 108 = .ok (.iload 6, 2) := by decide +kernel
theorem dX4_giveOut_110 : decode cX4_giveOut 110 = .ok (.iaload, 1) := by decide +kernel
theorem dX4_giveOut_111 : decode cX4_giveOut 111 = .ok (.istore 7, 2) := by decide +kernel
theorem dX4_giveOut_113 : decode cX4_giveOut 113 = .ok (.aload_n 0, 1) := by decide +kernel
theorem dX4_giveOut_114 : decode cX4_giveOut 114 = .ok (.getfield 30, 3) := by decide +kernel
theorem dX4_giveOut_117 : decode cX4_giveOut 117 = .ok (.iload 6, 2) := by decide +kernel
theorem dX4_giveOut_119 : decode cX4_giveOut 119 = .ok (.iaload, 1) := by decide +kernel
theorem dX4_giveOut_120 : decode cX4_giveOut 120 = .ok (.istore 8, 2) := by decide +kernel
theorem dX4_giveOut_122 : decode cX4_giveOut 122 = .ok (.iload 7, 2) := by decide +kernel
theorem dX4_giveOut_124 : decode cX4_giveOut 124 = .ok (.ifCond .le 16, 3) := by decide +kernel
theorem dX4_giveOut_127 : decode cX4_giveOut 127 = .ok (.iload 8, 2) := by decide +kernel
theorem dX4_giveOut_129 : decode cX4_giveOut 129 = .ok (.iload 5, 2) := by decide +kernel
theorem dX4_giveOut_131 : decode cX4_giveOut 131 = .ok (.iadd, 1) := by decide +kernel
theorem dX4_giveOut_132 : decode cX4_giveOut 132 = .ok (.iload_n 2, 1) := by decide +kernel
theorem dX4_giveOut_133 : decode cX4_giveOut 133 = .ok (.if_icmp .le 7, 3) := by decide +kernel
theorem dX4_giveOut_136 : decode cX4_giveOut 136 = .ok (.iconst 1, 1) := by decide +kernel
theorem dX4_giveOut_137 : decode cX4_giveOut 137 = .ok (.goto 4, 3) := by decide +kernel
theorem dX4_giveOut_140 : decode cX4_giveOut 140 = .ok (.iconst 0, 1) := by decide +kernel
theorem dX4_giveOut_141 : decode cX4_giveOut 141 = .ok (.istore 9, 2) := by decide +kernel
theorem dX4_giveOut_143 : decode cX4_giveOut 143 = .ok (.aload_n 0, 1) := by decide +kernel
theorem dX4_giveOut_144 : decode cX4_giveOut 144 = .ok (.getfield 27, 3) := by decide +kernel
theorem dX4_giveOut_147 : decode cX4_giveOut 147 = .ok (.iload 6, 2) := by decide +kernel
theorem dX4_giveOut_149 : decode cX4_giveOut 149 = .ok (.iload 7, 2) := by decide +kernel
theorem dX4_giveOut_151 : decode cX4_giveOut 151 = .ok (.iload 5, 2) := by decide +kernel
theorem dX4_giveOut_153 : decode cX4_giveOut 153 = .ok (.iadd, 1) := by decide +kernel
theorem dX4_giveOut_154 : decode cX4_giveOut 154 = .ok (.iload 9, 2) := by decide +kernel
theorem dX4_giveOut_156 : decode cX4_giveOut 156 = .ok (.ifCond .eq 12, 3) := by decide +kernel
theorem dX4_giveOut_159 : decode cX4_giveOut 159 = .ok (.aload_n 1, 1) := by decide +kernel
theorem dX4_giveOut_160 : decode cX4_giveOut 160 = .ok (.getfield 102, 3) := by decide +kernel
theorem dX4_giveOut_163 : decode cX4_giveOut 163 = .ok (.iconst 0, 1) := by decide +kernel
theorem dX4_giveOut_164 : decode cX4_giveOut 164 = .ok (.iaload, 1) := by decide +kernel
theorem dX4_giveOut_165 : decode cX4_giveOut 165 = .ok (.goto 4, 3) := by decide +kernel
theorem dX4_giveOut_168 : decode cX4_giveOut 168 = .ok (.iconst 0, 1) := by decide +kernel
theorem dX4_giveOut_169 : decode cX4_giveOut 169 = .ok (.iadd, 1) := by decide +kernel
theorem dX4_giveOut_170 : decode cX4_giveOut 170 = .ok (.iastore, 1) := by decide +kernel
theorem dX4_giveOut_171 : decode cX4_giveOut 171 = .ok (.aload_n 0, 1) := by decide +kernel
theorem dX4_giveOut_172 : decode cX4_giveOut 172 = .ok (.getfield 30, 3) := by decide +kernel
theorem dX4_giveOut_175 : decode cX4_giveOut 175 = .ok (.iload 6, 2) := by decide +kernel
theorem dX4_giveOut_177 : decode cX4_giveOut 177 = .ok (.iload 9, 2) := by decide +kernel
theorem dX4_giveOut_179 : decode cX4_giveOut 179 = .ok (.ifCond .eq 8, 3) := by decide +kernel
theorem dX4_giveOut_182 : decode cX4_giveOut 182 = .ok (.iload 5, 2) := by decide +kernel
theorem dX4_giveOut_184 : decode cX4_giveOut 184 = .ok (.goto 8, 3) := by decide +kernel
theorem dX4_giveOut_187 : decode cX4_giveOut 187 = .ok (.iload 8, 2) := by decide +kernel
theorem dX4_giveOut_189 : decode cX4_giveOut 189 = .ok (.iload 5, 2) := by decide +kernel
theorem dX4_giveOut_191 : decode cX4_giveOut 191 = .ok (.iadd, 1) := by decide +kernel
theorem dX4_giveOut_192 : decode cX4_giveOut 192 = .ok (.iastore, 1) := by decide +kernel
theorem dX4_giveOut_193 : decode cX4_giveOut 193 = .ok (.aload_n 0, 1) := by decide +kernel
theorem dX4_giveOut_194 : decode cX4_giveOut 194 = .ok (.getfield 24, 3) := by decide +kernel
theorem dX4_giveOut_197 : decode cX4_giveOut 197 = .ok (.iload_n 3, 1) := by decide +kernel
theorem dX4_giveOut_198 : decode cX4_giveOut 198 = .ok (.iload 6, 2) := by decide +kernel
theorem dX4_giveOut_200 : decode cX4_giveOut 200 = .ok (.iastore, 1) := by decide +kernel
theorem dX4_giveOut_201 : decode cX4_giveOut 201 = .ok (.aload_n 0, 1) := by decide +kernel
theorem dX4_giveOut_202 : decode cX4_giveOut 202 = .ok (.getfield 27, 3) := by decide +kernel
theorem dX4_giveOut_205 : decode cX4_giveOut 205 = .ok (.iload 6, 2) := by decide +kernel
theorem dX4_giveOut_207 : decode cX4_giveOut 207 = .ok (.iaload, 1) := by decide +kernel
theorem dX4_giveOut_208 : decode cX4_giveOut 208 = .ok (.aload_n 0, 1) := by decide +kernel
theorem dX4_giveOut_209 : decode cX4_giveOut 209 = .ok (.getfield 89, 3) := by decide +kernel
theorem dX4_giveOut_212 : decode cX4_giveOut 212 = .ok (.if_icmp .ge 28, 3) := by decide +kernel
theorem dX4_giveOut_215 : decode cX4_giveOut 215 = .ok (.aload_n 0, 1) := by decide +kernel
theorem dX4_giveOut_216 : decode cX4_giveOut 216 = .ok (.aload_n 1, 1) := by decide +kernel
theorem dX4_giveOut_217 : decode cX4_giveOut 217 = .ok (.iload_n 2, 1) := by decide +kernel
theorem dX4_giveOut_218 : decode cX4_giveOut 218 = .ok (.iload_n 3, 1) := by decide +kernel
theorem dX4_giveOut_219 : decode cX4_giveOut 219 = .ok (.iconst 1, 1) := by decide +kernel
theorem dX4_giveOut_220 : decode cX4_giveOut 220 = .ok (.iadd, 1) := by decide +kernel
theorem dX4_giveOut_221 : decode cX4_giveOut 221 = .ok (.iload 6, 2) := by decide +kernel
theorem dX4_giveOut_223 : decode cX4_giveOut 223 = .ok (.iload 4, 2) := by decide +kernel
theorem dX4_giveOut_225 : decode cX4_giveOut 225 = .ok (.if_icmp .ne 10, 3) := by decide +kernel
theorem dX4_giveOut_228 : decode cX4_giveOut 228 = .ok (.iload 4, 2) := by decide +kernel
theorem dX4_giveOut_230 : decode cX4_giveOut 230 = .ok (.iconst 1, 1) := by decide +kernel
theorem dX4_giveOut_231 : decode cX4_giveOut 231 = .ok (.iadd, 1) := by decide +kernel
theorem dX4_giveOut_232 : decode cX4_giveOut 232 = .ok (.goto 5, 3) := by decide +kernel
theorem dX4_giveOut_235 : decode cX4_giveOut 235 = .ok (.iload 4, 2) := by decide +kernel
theorem dX4_giveOut_237 : decode cX4_giveOut 237 = .ok (.invokevirtual 92, 3) := by decide +kernel
theorem dX4_giveOut_240 : decode cX4_giveOut 240 = .ok (.aload_n 0, 1) := by decide +kernel
theorem dX4_giveOut_241 : decode cX4_giveOut 241 = .ok (.getfield 27, 3) := by decide +kernel
theorem dX4_giveOut_244 : decode cX4_giveOut 244 = .ok (.iload 6, 2) := by decide +kernel
theorem dX4_giveOut_246 : decode cX4_giveOut 246 = .ok (.iload 7, 2) := by decide +kernel
theorem dX4_giveOut_248 : decode cX4_giveOut 248 = .ok (.iastore, 1) := by decide +kernel
theorem dX4_giveOut_249 : decode cX4_giveOut 249 = .ok (.aload_n 0, 1) := by decide +kernel
theorem dX4_giveOut_250 : decode cX4_giveOut 250 = .ok (.getfield 30, 3) := by decide +kernel
theorem dX4_giveOut_253 : decode cX4_giveOut 253 = .ok (.iload 6, 2) := by decide +kernel
theorem dX4_giveOut_255 : decode cX4_giveOut 255 = .ok (.iload 8, 2) := by decide +kernel
theorem dX4_giveOut_257 : decode cX4_giveOut 257 = .ok (.iastore, 1) := by decide +kernel
theorem dX4_giveOut_258 : decode cX4_giveOut 258 = .ok (.iinc 6 1, 3) := by decide +kernel
theorem dX4_giveOut_261 : decode cX4_giveOut 261 = .ok (.goto (-185), 3) := by decide +kernel
theorem dX4_giveOut_264 : decode cX4_giveOut 264 = .ok (.return_, 1) := by decide +kernel
theorem dX4_hide_0 : decode cX4_hide 0 = .ok (.aload_n 1, 1) := by decide +kernel
theorem dX4_hide_1 : decode cX4_hide 1 = .ok (.getfield 66, 3) := by decide +kernel
theorem dX4_hide_4 : decode cX4_hide 4 = .ok (.aload_n 1, 1) := by decide +kernel
theorem dX4_hide_5 : decode cX4_hide 5 = .ok (.getfield 58, 3) := by decide +kernel
theorem dX4_hide_8 : decode cX4_hide 8 = .ok (.iaload, 1) := by decide +kernel
theorem dX4_hide_9 : decode cX4_hide 9 = .ok (.istore_n 3, 1) := by decide +kernel
theorem dX4_hide_10 : decode cX4_hide 10 = .ok (.aload_n 0, 1) := by decide +kernel
theorem dX4_hide_11 : decode cX4_hide 11 = .ok (.aload_n 1, 1) := by decide +kernel
theorem dX4_hide_12 : decode cX4_hide 12 = .ok (.invokevirtual 105, 3) := by decide +kernel
theorem dX4_hide_15 : decode cX4_hide 15 = .ok (.istore 4, 2) := by decide +kernel
theorem dX4_hide_17 : decode cX4_hide 17 = .ok (.iload 4, 2) := by decide +kernel
theorem dX4_hide_19 : decode cX4_hide 19 = .ok (.iconst 1, 1) := by decide +kernel
theorem dX4_hide_20 : decode cX4_hide 20 = .ok (.isub, 1) := by decide +kernel
theorem dX4_hide_21 : decode cX4_hide 21 = .ok (.istore 5, 2) := by decide +kernel
theorem dX4_hide_23 : decode cX4_hide 23 = .ok (.iload 5, 2) := by decide +kernel
theorem dX4_hide_25 : decode cX4_hide 25 = .ok (.ifCond .lt 172, 3) := by decide +kernel
theorem dX4_hide_28 : decode cX4_hide 28 = .ok (.aload_n 0, 1) := by decide +kernel
theorem dX4_hide_29 : decode cX4_hide 29 = .ok (.getfield 42, 3) := by decide +kernel
theorem dX4_hide_32 : decode cX4_hide 32 = .ok (.iload 5, 2) := by decide +kernel
theorem dX4_hide_34 : decode cX4_hide 34 = .ok (.iconst (-1), 1) := by decide +kernel
theorem dX4_hide_35 : decode cX4_hide 35 = .ok (.iastore, 1) := by decide +kernel
theorem dX4_hide_36 : decode cX4_hide 36 = .ok (.aload_n 0, 1) := by decide +kernel
theorem dX4_hide_37 : decode cX4_hide 37 = .ok (.getfield 39, 3) := by decide +kernel
theorem dX4_hide_40 : decode cX4_hide 40 = .ok (.iload 5, 2) := by decide +kernel
theorem dX4_hide_42 : decode cX4_hide 42 = .ok (.iload_n 3, 1) := by decide +kernel
theorem dX4_hide_43 : decode cX4_hide 43 = .ok (.aload_n 0, 1) := by decide +kernel
theorem dX4_hide_44 : decode cX4_hide 44 = .ok (.getfield 33, 3) := by decide +kernel
theorem dX4_hide_47 : decode cX4_hide 47 = .ok (.iload 5, 2) := by decide +kernel
theorem dX4_hide_49 : decode cX4_hide 49 = .ok (.iaload, 1) := by decide +kernel
theorem dX4_hide_50 : decode cX4_hide 50 = .ok (.isub, 1) := by decide +kernel
theorem dX4_hide_51 : decode cX4_hide 51 = .ok (.iload_n 2, 1) := by decide +kernel
theorem dX4_hide_52 : decode cX4_hide 52 = .ok (.if_icmp .gt 7, 3) := by decide +kernel
theorem dX4_hide_55 : decode cX4_hide 55 = .ok (.iconst 0, 1) := by decide +kernel
theorem dX4_hide_56 : decode cX4_hide 56 = .ok (.goto 5, 3) := by decide +kernel
theorem dX4_hide_59 : decode cX4_hide 59 = .ok (.ldc 88, 2) := by decide +kernel
theorem dX4_hide_61 : decode cX4_hide 61 = .ok (.iastore, 1) := by decide +kernel
theorem dX4_hide_62 : decode cX4_hide 62 = .ok (.iload 5, 2) := by decide +kernel
theorem dX4_hide_64 : decode cX4_hide 64 = .ok (.iconst 1, 1) := by decide +kernel
theorem dX4_hide_65 : decode cX4_hide 65 = .ok (.iadd, 1) := by decide +kernel
theorem dX4_hide_66 : decode cX4_hide 66 = .ok (.istore 6, 2) := by decide +kernel
theorem dX4_hide_68 : decode cX4_hide 68 = .ok (.iload 6, 2) := by decide +kernel
theorem dX4_hide_70 : decode cX4_hide 70 = .ok (.iload 4, 2) := by decide +kernel
theorem dX4_hide_72 : decode cX4_hide 72 = .ok (.if_icmp .ge 119, 3) := by decide +kernel
theorem dX4_hide_75 : decode cX4_hide 75 = .ok (.aload_n 0, 1) := by decide +kernel
theorem dX4_hide_76 : decode cX4_hide 76 = .ok (.getfield 39, 3) := by decide +kernel
theorem dX4_hide_79 : decode cX4_hide 79 = .ok (.iload 5, 2) := by decide +kernel
theorem dX4_hide_81 : decode cX4_hide 81 = .ok (.iaload, 1) := by decide +kernel
theorem dX4_hide_82 : decode cX4_hide 82 = .ok (.ifCond .le 109, 3) := by decide +kernel
theorem dX4_hide_85 : decode cX4_hide 85 = .ok (.aload_n 0, 1) := by decide +kernel
theorem dX4_hide_86 : decode cX4_hide 86 = .ok (.getfield 33, 3) := by decide +kernel
theorem dX4_hide_89 : decode cX4_hide 89 = .ok (.iload 6, 2) := by decide +kernel
theorem dX4_hide_91 : decode cX4_hide 91 = .ok (.iaload, 1) := by decide +kernel
theorem dX4_hide_92 : decode cX4_hide 92 = .ok (.aload_n 0, 1) := by decide +kernel
theorem dX4_hide_93 : decode cX4_hide 93 = .ok (.getfield 33, 3) := by decide +kernel
theorem dX4_hide_96 : decode cX4_hide 96 = .ok (.iload 5, 2) := by decide +kernel
theorem dX4_hide_98 : decode cX4_hide 98 = .ok (.iaload, 1) := by decide +kernel
theorem dX4_hide_99 : decode cX4_hide 99 = .ok (.isub, 1) := by decide +kernel
theorem dX4_hide_100 : decode cX4_hide 100 = .ok (.iload_n 2, 1) := by decide +kernel
theorem dX4_hide_101 : decode cX4_hide 101 = .ok (.if_icmp .gt 19, 3) := by decide +kernel
theorem dX4_hide_104 : decode cX4_hide 104 = .ok (.aload_n 0, 1) := by decide +kernel
theorem dX4_hide_105 : decode cX4_hide 105 = .ok (.getfield 39, 3) := by decide +kernel
theorem dX4_hide_108 : decode cX4_hide 108 = .ok (.iload 6, 2) := by decide +kernel
theorem dX4_hide_110 : decode cX4_hide 110 = .ok (.iaload, 1) := by decide +kernel
theorem dX4_hide_111 : decode cX4_hide 111 = .ok (.ldc 88, 2) := by decide +kernel
theorem dX4_hide_113 : decode cX4_hide 113 = .ok (.if_icmp .ge 7, 3) := by decide +kernel
theorem dX4_hide_116 : decode cX4_hide 116 = .ok (.iconst 1, 1) := by decide +kernel
theorem dX4_hide_117 : decode cX4_hide 117 = .ok (.goto 4, 3) := by decide +kernel
theorem dX4_hide_120 : decode cX4_hide 120 = .ok (.iconst 0, 1) := by decide +kernel
theorem dX4_hide_121 : decode cX4_hide 121 = .ok (.istore 7, 2) := by decide +kernel
theorem dX4_hide_123 : decode cX4_hide 123 = .ok (.iload 7, 2) := by decide +kernel
theorem dX4_hide_125 : decode cX4_hide 125 = .ok (.ifCond .eq 21, 3) := by decide +kernel
theorem dX4_hide_128 : decode cX4_hide 128 = .ok (.aload_n 0, 1) := by decide +kernel
theorem dX4_hide_129 : decode cX4_hide 129 = .ok (.getfield 39, 3) := by decide +kernel
theorem dX4_hide_132 : decode cX4_hide 132 = .ok (.iload 6, 2) := by decide +kernel
theorem dX4_hide_134 : decode cX4_hide 134 = .ok (.iaload, 1) := by decide +kernel
theorem dX4_hide_135 : decode cX4_hide 135 = .ok (.aload_n 0, 1) := by decide +kernel
theorem dX4_hide_136 : decode cX4_hide 136 = .ok (.aload_n 1, 1) := by decide +kernel
theorem dX4_hide_137 : decode cX4_hide 137 = .ok (.iload 6, 2) := by decide +kernel
theorem dX4_hide_139 : decode cX4_hide 139 = .ok (.invokevirtual 109, 3) := by decide +kernel
theorem dX4_hide_142 : decode cX4_hide 142 = .ok (.iadd, 1) := by decide +kernel
theorem dX4_hide_143 : decode cX4_hide 143 = .ok (.goto 5, 3) := by decide +kernel
theorem dX4_hide_146 : decode cX4_hide 146 = .ok (.ldc 88, 2) := by decide +kernel
theorem dX4_hide_148 : decode cX4_hide 148 = .ok (.istore 8, 2) := by decide +kernel
theorem dX4_hide_150 : decode cX4_hide 150 = .ok (.iload 7, 2) := by decide +kernel
theorem dX4_hide_152 : decode cX4_hide 152 = .ok (.ifCond .eq 33, 3) := by decide +kernel
theorem dX4_hide_155 : decode cX4_hide 155 = .ok (.iload 8, 2) := by decide +kernel
theorem dX4_hide_157 : decode cX4_hide 157 = .ok (.aload_n 0, 1) := by decide +kernel
theorem dX4_hide_158 : decode cX4_hide 158 = .ok (.getfield 39, 3) := by decide +kernel
theorem dX4_hide_161 : decode cX4_hide 161 = .ok (.iload 5, 2) := by decide +kernel
theorem dX4_hide_163 : decode cX4_hide 163 = .ok (.iaload, 1) := by decide +kernel
theorem dX4_hide_164 : decode cX4_hide 164 = .ok (.if_icmp .gt 21, 3) := by decide +kernel
theorem dX4_hide_167 : decode cX4_hide 167 = .ok (.aload_n 0, 1) := by decide +kernel
theorem dX4_hide_168 : decode cX4_hide 168 = .ok (.getfield 39, 3) := by decide +kernel
theorem dX4_hide_171 : decode cX4_hide 171 = .ok (.iload 5, 2) := by decide +kernel
theorem dX4_hide_173 : decode cX4_hide 173 = .ok (.iload 8, 2) := by decide +kernel
theorem dX4_hide_175 : decode cX4_hide 175 = .ok (.iastore, 1) := by decide +kernel
theorem dX4_hide_176 : decode cX4_hide 176 = .ok (.aload_n 0, 1) := by decide +kernel
theorem dX4_hide_177 : decode cX4_hide 177 = .ok (.getfield 42, 3) := by decide +kernel
theorem dX4_hide_180 : decode cX4_hide 180 = .ok (.iload 5, 2) := by decide +kernel
theorem dX4_hide_182 : decode cX4_hide 182 = .ok (.iload 6, 2) := by decide +kernel
theorem dX4_hide_184 : decode cX4_hide 184 = .ok (.iastore, 1) := by decide +kernel
theorem dX4_hide_185 : decode cX4_hide 185 = .ok (.iinc 6 1, 3) := by decide +kernel
theorem dX4_hide_188 : decode cX4_hide 188 = .ok (.goto (-120), 3) := by decide +kernel
theorem dX4_hide_191 : decode cX4_hide 191 = .ok (.iinc 5 (-1), 3) := by decide +kernel
theorem dX4_hide_194 : decode cX4_hide 194 = .ok (.goto (-171), 3) := by decide +kernel
theorem dX4_hide_197 : decode cX4_hide 197 = .ok (.aload_n 0, 1) := by decide +kernel
theorem dX4_hide_198 : decode cX4_hide 198 = .ok (.iload 4, 2) := by decide +kernel
theorem dX4_hide_200 : decode cX4_hide 200 = .ok (.ifCond .le 18, 3) := by decide +kernel
theorem dX4_hide_203 : decode cX4_hide 203 = .ok (.aload_n 0, 1) := by decide +kernel
theorem dX4_hide_204 : decode cX4_hide 204 = .ok (.getfield 39, 3) := by decide +kernel
theorem dX4_hide_207 : decode cX4_hide 207 = .ok (.iconst 0, 1) := by decide +kernel
theorem dX4_hide_208 : decode cX4_hide 208 = .ok (.iaload, 1) := by decide +kernel
theorem dX4_hide_209 : decode cX4_hide 209 = .ok (.ldc 88, 2) := by decide +kernel
theorem dX4_hide_211 : decode cX4_hide 211 = .ok (.if_icmp .ne 7, 3) := by decide +kernel
theorem dX4_hide_214 : decode cX4_hide 214 = .ok (.iconst (-1), 1) := by decide +kernel
theorem dX4_hide_215 : decode cX4_hide 215 = .ok (.goto 4, 3) := by decide +kernel
theorem dX4_hide_218 : decode cX4_hide 218 = .ok (.iconst 0, 1) := by decide +kernel
theorem dX4_hide_219 : decode cX4_hide 219 = .ok (.putfield 113, 3) := by decide +kernel
theorem dX4_hide_222 : decode cX4_hide 222 = .ok (.aload_n 0, 1) := by decide +kernel
theorem dX4_hide_223 : decode cX4_hide 223 = .ok (.iconst 0, 1) := by decide +kernel
theorem dX4_hide_224 : decode cX4_hide 224 = .ok (.putfield 116, 3) := by decide +kernel
theorem dX4_hide_227 : decode cX4_hide 227 = .ok (.iload 4, 2) := by decide +kernel
theorem dX4_hide_229 : decode cX4_hide 229 = .ok (.ifCond .le 15, 3) := by decide +kernel
theorem dX4_hide_232 : decode cX4_hide 232 = .ok (.aload_n 0, 1) := by decide +kernel
theorem dX4_hide_233 : decode cX4_hide 233 = .ok (.getfield 113, 3) := by decide +kernel
theorem dX4_hide_236 : decode cX4_hide 236 = .ok (.ifCond .ne 8, 3) := by decide +kernel
theorem dX4_hide_239 : decode cX4_hide 239 = .ok (.aload_n 0, 1) := by decide +kernel
theorem dX4_hide_240 : decode cX4_hide 240 = .ok (.aload_n 1, 1) := by decide +kernel
theorem dX4_hide_241 : decode cX4_hide 241 = .ok (.invokevirtual 119, 3) := by decide +kernel
theorem dX4_hide_244 : decode cX4_hide 244 = .ok (.return_, 1) := by decide +kernel
theorem dX4_listStarts_0 : decode cX4_listStarts 0 = .ok (.aload_n 0, 1) := by decide +kernel
theorem dX4_listStarts_1 : decode cX4_listStarts 1 = .ok (.getfield 42, 3) := by decide +kernel
theorem dX4_listStarts_4 : decode cX4_listStarts 4 = .ok (.iconst 0, 1) := by decide +kernel
theorem dX4_listStarts_5 : decode cX4_listStarts 5 = .ok (.iaload, 1) := by decide +kernel
theorem dX4_listStarts_6 : decode cX4_listStarts 6 = .ok (.istore_n 2, 1) := by decide +kernel
theorem dX4_listStarts_7 : decode cX4_listStarts 7 = .ok (.iconst 0, 1) := by decide +kernel
theorem dX4_listStarts_8 : decode cX4_listStarts 8 = .ok (.istore_n 3, 1) := by decide +kernel
theorem dX4_listStarts_9 : decode cX4_listStarts 9 = .ok (.iload_n 3, 1) := by decide +kernel
theorem dX4_listStarts_10 : decode cX4_listStarts 10 = .ok (.bipush 50, 2) := by decide +kernel
theorem dX4_listStarts_12 : decode cX4_listStarts 12 = .ok (.if_icmp .ge 63, 3) := by decide +kernel
theorem dX4_listStarts_15 : decode cX4_listStarts 15 = .ok (.iload_n 2, 1) := by decide +kernel
theorem dX4_listStarts_16 : decode cX4_listStarts 16 = .ok (.ifCond .le 59, 3) := by decide +kernel
theorem dX4_listStarts_19 : decode cX4_listStarts 19 = .ok (.aload_n 0, 1) := by decide +kernel
theorem dX4_listStarts_20 : decode cX4_listStarts 20 = .ok (.getfield 45, 3) := by decide +kernel
theorem dX4_listStarts_23 : decode cX4_listStarts 23 = .ok (.aload_n 0, 1) := by decide +kernel
theorem dX4_listStarts_24 : decode cX4_listStarts 24 = .ok (.getfield 113, 3) := by decide +kernel
theorem dX4_listStarts_27 : decode cX4_listStarts 27 = .ok (.aload_n 0, 1) := by decide +kernel
theorem dX4_listStarts_28 : decode cX4_listStarts 28 = .ok (.getfield 36, 3) := by decide +kernel
theorem dX4_listStarts_31 : decode cX4_listStarts 31 = .ok (.iload_n 2, 1) := by decide +kernel
theorem dX4_listStarts_32 : decode cX4_listStarts 32 = .ok (.iaload, 1) := by decide +kernel
theorem dX4_listStarts_33 : decode cX4_listStarts 33 = .ok (.iastore, 1) := by decide +kernel
theorem dX4_listStarts_34 : decode cX4_listStarts 34 = .ok (.aload_n 0, 1) := by decide +kernel
theorem dX4_listStarts_35 : decode cX4_listStarts 35 = .ok (.dup, 1) := by decide +kernel
theorem dX4_listStarts_36 : decode cX4_listStarts 36 = .ok (.getfield 113, 3) := by decide +kernel
theorem dX4_listStarts_39 : decode cX4_listStarts 39 = .ok (.iconst 1, 1) := by decide +kernel
theorem dX4_listStarts_40 : decode cX4_listStarts 40 = .ok (.iadd, 1) := by decide +kernel
theorem dX4_listStarts_41 : decode cX4_listStarts 41 = .ok (.putfield 113, 3) := by decide +kernel
theorem dX4_listStarts_44 : decode cX4_listStarts 44 = .ok (.aload_n 0, 1) := by decide +kernel
theorem dX4_listStarts_45 : decode cX4_listStarts 45 = .ok (.dup, 1) := by decide +kernel
theorem dX4_listStarts_46 : decode cX4_listStarts 46 = .ok (.getfield 116, 3) := by decide +kernel
theorem dX4_listStarts_49 : decode cX4_listStarts 49 = .ok (.aload_n 0, 1) := by decide +kernel
theorem dX4_listStarts_50 : decode cX4_listStarts 50 = .ok (.aload_n 1, 1) := by decide +kernel
theorem dX4_listStarts_51 : decode cX4_listStarts 51 = .ok (.iload_n 2, 1) := by decide +kernel
theorem dX4_listStarts_52 : decode cX4_listStarts 52 = .ok (.invokevirtual 109, 3) := by decide +kernel
theorem dX4_listStarts_55 : decode cX4_listStarts 55 = .ok (.bipush 100, 2) := by decide +kernel
theorem dX4_listStarts_57 : decode cX4_listStarts 57 = .ok (.irem, 1) := by decide +kernel
theorem dX4_listStarts_58 : decode cX4_listStarts 58 = .ok (.iadd, 1) := by decide +kernel
theorem dX4_listStarts_59 : decode cX4_listStarts 59 = .ok (.putfield 116, 3) := by decide +kernel
theorem dX4_listStarts_62 : decode cX4_listStarts 62 = .ok (.aload_n 0, 1) := by decide +kernel
theorem dX4_listStarts_63 : decode cX4_listStarts 63 = .ok (.getfield 42, 3) := by decide +kernel
theorem dX4_listStarts_66 : decode cX4_listStarts 66 = .ok (.iload_n 2, 1) := by decide +kernel
theorem dX4_listStarts_67 : decode cX4_listStarts 67 = .ok (.iaload, 1) := by decide +kernel
theorem dX4_listStarts_68 : decode cX4_listStarts 68 = .ok (.istore_n 2, 1) := by decide +kernel
theorem dX4_listStarts_69 : decode cX4_listStarts 69 = .ok (.iinc 3 1, 3) := by decide +kernel
theorem dX4_listStarts_72 : decode cX4_listStarts 72 = .ok (.goto (-63), 3) := by decide +kernel
theorem dX4_listStarts_75 : decode cX4_listStarts 75 = .ok (.return_, 1) := by decide +kernel
theorem dX4_costOf_0 : decode cX4_costOf 0 = .ok (.aload_n 0, 1) := by decide +kernel
theorem dX4_costOf_1 : decode cX4_costOf 1 = .ok (.getfield 36, 3) := by decide +kernel
theorem dX4_costOf_4 : decode cX4_costOf 4 = .ok (.iload_n 2, 1) := by decide +kernel
theorem dX4_costOf_5 : decode cX4_costOf 5 = .ok (.iaload, 1) := by decide +kernel
theorem dX4_costOf_6 : decode cX4_costOf 6 = .ok (.istore_n 3, 1) := by decide +kernel
theorem dX4_costOf_7 : decode cX4_costOf 7 = .ok (.iload_n 3, 1) := by decide +kernel
theorem dX4_costOf_8 : decode cX4_costOf 8 = .ok (.bipush 100, 2) := by decide +kernel
theorem dX4_costOf_10 : decode cX4_costOf 10 = .ok (.irem, 1) := by decide +kernel
theorem dX4_costOf_11 : decode cX4_costOf 11 = .ok (.ifCond .eq 7, 3) := by decide +kernel
theorem dX4_costOf_14 : decode cX4_costOf 14 = .ok (.iconst 1, 1) := by decide +kernel
theorem dX4_costOf_15 : decode cX4_costOf 15 = .ok (.goto 4, 3) := by decide +kernel
theorem dX4_costOf_18 : decode cX4_costOf 18 = .ok (.iconst 0, 1) := by decide +kernel
theorem dX4_costOf_19 : decode cX4_costOf 19 = .ok (.istore 4, 2) := by decide +kernel
theorem dX4_costOf_21 : decode cX4_costOf 21 = .ok (.iload_n 3, 1) := by decide +kernel
theorem dX4_costOf_22 : decode cX4_costOf 22 = .ok (.bipush 100, 2) := by decide +kernel
theorem dX4_costOf_24 : decode cX4_costOf 24 = .ok (.idiv, 1) := by decide +kernel
theorem dX4_costOf_25 : decode cX4_costOf 25 = .ok (.istore 5, 2) := by decide +kernel
theorem dX4_costOf_27 : decode cX4_costOf 27 = .ok (.bipush 100, 2) := by decide +kernel
theorem dX4_costOf_29 : decode cX4_costOf 29 = .ok (.iload 4, 2) := by decide +kernel
theorem dX4_costOf_31 : decode cX4_costOf 31 = .ok (.ifCond .eq 22, 3) := by decide +kernel
theorem dX4_costOf_34 : decode cX4_costOf 34 = .ok (.iload 5, 2) := by decide +kernel
theorem dX4_costOf_36 : decode cX4_costOf 36 = .ok (.aload_n 1, 1) := by decide +kernel
theorem dX4_costOf_37 : decode cX4_costOf 37 = .ok (.getfield 58, 3) := by decide +kernel
theorem dX4_costOf_40 : decode cX4_costOf 40 = .ok (.if_icmp .ge 13, 3) := by decide +kernel
theorem dX4_costOf_43 : decode cX4_costOf 43 = .ok (.aload_n 1, 1) := by decide +kernel
theorem dX4_costOf_44 : decode cX4_costOf 44 = .ok (.getfield 123, 3) := by decide +kernel
theorem dX4_costOf_47 : decode cX4_costOf 47 = .ok (.iload 5, 2) := by decide +kernel
theorem dX4_costOf_49 : decode cX4_costOf 49 = .ok (.iaload, 1) := by decide +kernel
theorem dX4_costOf_50 : decode cX4_costOf 50 = .ok (.goto 4, 3) := by decide +kernel
theorem dX4_costOf_53 : decode cX4_costOf 53 = .ok (.iconst 0, 1) := by decide +kernel
theorem dX4_costOf_54 : decode cX4_costOf 54 = .ok (.iadd, 1) := by decide +kernel
theorem dX4_costOf_55 : decode cX4_costOf 55 = .ok (.ireturn, 1) := by decide +kernel
theorem dX4_listSpots_0 : decode cX4_listSpots 0 = .ok (.iconst 0, 1) := by decide +kernel
theorem dX4_listSpots_1 : decode cX4_listSpots 1 = .ok (.istore_n 2, 1) := by decide +kernel
theorem dX4_listSpots_2 : decode cX4_listSpots 2 = .ok (.iconst 0, 1) := by decide +kernel
theorem dX4_listSpots_3 : decode cX4_listSpots 3 = .ok (.istore_n 3, 1) := by decide +kernel
theorem dX4_listSpots_4 : decode cX4_listSpots 4 = .ok (.iload_n 3, 1) := by decide +kernel
theorem dX4_listSpots_5 : decode cX4_listSpots 5 = .ok (.aload_n 1, 1) := by decide +kernel
theorem dX4_listSpots_6 : decode cX4_listSpots 6 = .ok (.getfield 58, 3) := by decide +kernel
theorem dX4_listSpots_9 : decode cX4_listSpots 9 = .ok (.if_icmp .ge 104, 3) := by decide +kernel
theorem dX4_listSpots_12 : decode cX4_listSpots 12 = .ok (.aload_n 0, 1) := by decide +kernel
theorem dX4_listSpots_13 : decode cX4_listSpots 13 = .ok (.getfield 33, 3) := by decide +kernel
theorem dX4_listSpots_16 : decode cX4_listSpots 16 = .ok (.iload_n 2, 1) := by decide +kernel
theorem dX4_listSpots_17 : decode cX4_listSpots 17 = .ok (.aload_n 1, 1) := by decide +kernel
theorem dX4_listSpots_18 : decode cX4_listSpots 18 = .ok (.getfield 66, 3) := by decide +kernel
theorem dX4_listSpots_21 : decode cX4_listSpots 21 = .ok (.iload_n 3, 1) := by decide +kernel
theorem dX4_listSpots_22 : decode cX4_listSpots 22 = .ok (.iaload, 1) := by decide +kernel
theorem dX4_listSpots_23 : decode cX4_listSpots 23 = .ok (.iastore, 1) := by decide +kernel
theorem dX4_listSpots_24 : decode cX4_listSpots 24 = .ok (.aload_n 0, 1) := by decide +kernel
theorem dX4_listSpots_25 : decode cX4_listSpots 25 = .ok (.getfield 36, 3) := by decide +kernel
theorem dX4_listSpots_28 : decode cX4_listSpots 28 = .ok (.iload_n 2, 1) := by decide +kernel
theorem dX4_listSpots_29 : decode cX4_listSpots 29 = .ok (.bipush 100, 2) := by decide +kernel
theorem dX4_listSpots_31 : decode cX4_listSpots 31 = .ok (.iload_n 3, 1) := by decide +kernel
theorem dX4_listSpots_32 : decode cX4_listSpots 32 = .ok (.imul, 1) := by decide +kernel
theorem dX4_listSpots_33 : decode cX4_listSpots 33 = .ok (.iastore, 1) := by decide +kernel
theorem dX4_listSpots_34 : decode cX4_listSpots 34 = .ok (.iinc 2 1, 3) := by decide +kernel
theorem dX4_listSpots_37 : decode cX4_listSpots 37 = .ok (.iconst 0, 1) := by decide +kernel
theorem dX4_listSpots_38 : decode cX4_listSpots 38 = .ok (.istore 4, 2) := by decide +kernel
theorem dX4_listSpots_40 : decode cX4_listSpots 40 = .ok (.iload 4, 2) := by decide +kernel
theorem dX4_listSpots_42 : decode cX4_listSpots 42 = .ok (.aload_n 1, 1) := by decide +kernel
theorem dX4_listSpots_43 : decode cX4_listSpots 43 = .ok (.getfield 126, 3) := by decide +kernel
theorem dX4_listSpots_46 : decode cX4_listSpots 46 = .ok (.iload_n 3, 1) := by decide +kernel
theorem dX4_listSpots_47 : decode cX4_listSpots 47 = .ok (.iaload, 1) := by decide +kernel
theorem dX4_listSpots_48 : decode cX4_listSpots 48 = .ok (.if_icmp .ge 59, 3) := by decide +kernel
theorem dX4_listSpots_51 : decode cX4_listSpots 51 = .ok (.iload 4, 2) := by decide +kernel
theorem dX4_listSpots_53 : decode cX4_listSpots 53 = .ok (.iconst 4, 1) := by decide +kernel
theorem dX4_listSpots_54 : decode cX4_listSpots 54 = .ok (.if_icmp .ge 53, 3) := by decide +kernel
theorem dX4_listSpots_57 : decode cX4_listSpots 57 = .ok (.aload_n 1, 1) := by decide +kernel
theorem dX4_listSpots_58 : decode cX4_listSpots 58 = .ok (.getfield 129, 3) := by decide +kernel
theorem dX4_listSpots_61 : decode cX4_listSpots 61 = .ok (.iload_n 3, 1) := by decide +kernel
theorem dX4_listSpots_62 : decode cX4_listSpots 62 = .ok (.iconst 4, 1) := by decide +kernel
theorem dX4_listSpots_63 : decode cX4_listSpots 63 = .ok (.imul, 1) := by decide +kernel
theorem dX4_listSpots_64 : decode cX4_listSpots 64 = .ok (.iload 4, 2) := by decide +kernel
theorem dX4_listSpots_66 : decode cX4_listSpots 66 = .ok (.iadd, 1) := by decide +kernel
theorem dX4_listSpots_67 : decode cX4_listSpots 67 = .ok (.iaload, 1) := by decide +kernel
theorem dX4_listSpots_68 : decode cX4_listSpots 68 = .ok (.istore 5, 2) := by decide +kernel
theorem dX4_listSpots_70 : decode cX4_listSpots 70 = .ok (.aload_n 0, 1) := by decide +kernel
theorem dX4_listSpots_71 : decode cX4_listSpots 71 = .ok (.getfield 33, 3) := by decide +kernel
theorem dX4_listSpots_74 : decode cX4_listSpots 74 = .ok (.iload_n 2, 1) := by decide +kernel
theorem dX4_listSpots_75 : decode cX4_listSpots 75 = .ok (.aload_n 1, 1) := by decide +kernel
theorem dX4_listSpots_76 : decode cX4_listSpots 76 = .ok (.getfield 66, 3) := by decide +kernel
theorem dX4_listSpots_79 : decode cX4_listSpots 79 = .ok (.iload_n 3, 1) := by decide +kernel
theorem dX4_listSpots_80 : decode cX4_listSpots 80 = .ok (.iaload, 1) := by decide +kernel
theorem dX4_listSpots_81 : decode cX4_listSpots 81 = .ok (.iload 5, 2) := by decide +kernel
theorem dX4_listSpots_83 : decode cX4_listSpots 83 = .ok (.iadd, 1) := by decide +kernel
theorem dX4_listSpots_84 : decode cX4_listSpots 84 = .ok (.iastore, 1) := by decide +kernel
theorem dX4_listSpots_85 : decode cX4_listSpots 85 = .ok (.aload_n 0, 1) := by decide +kernel
theorem dX4_listSpots_86 : decode cX4_listSpots 86 = .ok (.getfield 36, 3) := by decide +kernel
theorem dX4_listSpots_89 : decode cX4_listSpots 89 = .ok (.iload_n 2, 1) := by decide +kernel
theorem dX4_listSpots_90 : decode cX4_listSpots 90 = .ok (.bipush 100, 2) := by decide +kernel
theorem dX4_listSpots_92 : decode cX4_listSpots 92 = .ok (.iload_n 3, 1) := by decide +kernel
theorem dX4_listSpots_93 : decode cX4_listSpots 93 = .ok (.imul, 1) := by decide +kernel
theorem dX4_listSpots_94 : decode cX4_listSpots 94 = .ok (.iload 5, 2) := by decide +kernel
theorem dX4_listSpots_96 : decode cX4_listSpots 96 = .ok (.iadd, 1) := by decide +kernel
theorem dX4_listSpots_97 : decode cX4_listSpots 97 = .ok (.iastore, 1) := by decide +kernel
theorem dX4_listSpots_98 : decode cX4_listSpots 98 = .ok (.iinc 2 1, 3) := by decide +kernel
theorem dX4_listSpots_101 : decode cX4_listSpots 101 = .ok (.iinc 4 1, 3) := by decide +kernel
theorem dX4_listSpots_104 : decode cX4_listSpots 104 = .ok (.goto (-64), 3) := by decide +kernel
theorem dX4_listSpots_107 : decode cX4_listSpots 107 = .ok (.iinc 3 1, 3) := by decide +kernel
theorem dX4_listSpots_110 : decode cX4_listSpots 110 = .ok (.goto (-106), 3) := by decide +kernel
theorem dX4_listSpots_113 : decode cX4_listSpots 113 = .ok (.iload_n 2, 1) := by decide +kernel
theorem dX4_listSpots_114 : decode cX4_listSpots 114 = .ok (.ireturn, 1) := by decide +kernel
