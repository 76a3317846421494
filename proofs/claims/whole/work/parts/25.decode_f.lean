theorem dX8_means_0 : decode cX8_means 0 = .ok (.aload_n 0, 1) := by decide +kernel
theorem dX8_means_1 : decode cX8_means 1 = .ok (.invokevirtual 431, 3) := by decide +kernel
theorem dX8_means_4 : decode cX8_means 4 = .ok (.istore_n 2, 1) := by decide +kernel
theorem dX8_means_5 : decode cX8_means 5 = .ok (.aload_n 0, 1) := by decide +kernel
theorem dX8_means_6 : decode cX8_means 6 = .ok (.getfield 139, 3) := by decide +kernel
theorem dX8_means_9 : decode cX8_means 9 = .ok (.iload_n 2, 1) := by decide +kernel
theorem dX8_means_10 : decode cX8_means 10 = .ok (.lconst 1, 1) := by decide +kernel
theorem dX8_means_11 : decode cX8_means 11 = .ok (.lastore, 1) := by decide +kernel
theorem dX8_means_12 : decode cX8_means 12 = .ok (.aload_n 0, 1) := by decide +kernel
theorem dX8_means_13 : decode cX8_means 13 = .ok (.getfield 142, 3) := by decide +kernel
theorem dX8_means_16 : decode cX8_means 16 = .ok (.iload_n 2, 1) := by decide +kernel
theorem dX8_means_17 : decode cX8_means 17 = .ok (.lconst 0, 1) := by decide +kernel
theorem dX8_means_18 : decode cX8_means 18 = .ok (.lastore, 1) := by decide +kernel
theorem dX8_means_19 : decode cX8_means 19 = .ok (.iconst 0, 1) := by decide +kernel
theorem dX8_means_20 : decode cX8_means 20 = .ok (.istore_n 3, 1) := by decide +kernel
theorem dX8_means_21 : decode cX8_means 21 = .ok (.iload_n 3, 1) := by decide +kernel
theorem dX8_means_22 : decode cX8_means 22 = .ok (.bipush 99, 2) := by decide +kernel
theorem dX8_means_24 : decode cX8_means 24 = .ok (.if_icmp .gt 21, 3) := by decide +kernel
theorem dX8_means_27 : decode cX8_means 27 = .ok (.aload_n 0, 1) := by decide +kernel
theorem dX8_means_28 : decode cX8_means 28 = .ok (.getfield 145, 3) := by decide +kernel
theorem dX8_means_31 : decode cX8_means 31 = .ok (.bipush 100, 2) := by decide +kernel
theorem dX8_means_33 : decode cX8_means 33 = .ok (.iload_n 2, 1) := by decide +kernel
theorem dX8_means_34 : decode cX8_means 34 = .ok (.imul, 1) := by decide +kernel
theorem dX8_means_35 : decode cX8_means 35 = .ok (.iload_n 3, 1) := by decide +kernel
theorem dX8_means_36 : decode cX8_means 36 = .ok (.iadd, 1) := by decide +kernel
theorem dX8_means_37 : decode cX8_means 37 = .ok (.lconst 0, 1) := by decide +kernel
theorem dX8_means_38 : decode cX8_means 38 = .ok (.lastore, 1) := by decide +kernel
theorem dX8_means_39 : decode cX8_means 39 = .ok (.iinc 3 1, 3) := by decide +kernel
theorem dX8_means_42 : decode cX8_means 42 = .ok (.goto (-21), 3) := by decide +kernel
theorem dX8_means_45 : decode cX8_means 45 = .ok (.iload_n 2, 1) := by decide +kernel
theorem dX8_means_46 : decode cX8_means 46 = .ok (.iconst 1, 1) := by decide +kernel
theorem dX8_means_47 : decode cX8_means 47 = .ok (.isub, 1) := by decide +kernel
theorem dX8_means_48 : decode cX8_means 48 = .ok (.istore_n 3, 1) := by decide +kernel
theorem dX8_means_49 : decode cX8_means 49 = .ok (.iload_n 3, 1) := by decide +kernel
theorem dX8_means_50 : decode cX8_means 50 = .ok (.ifCond .lt 121, 3) := by decide +kernel
theorem dX8_means_53 : decode cX8_means 53 = .ok (.aload_n 0, 1) := by decide +kernel
theorem dX8_means_54 : decode cX8_means 54 = .ok (.getfield 139, 3) := by decide +kernel
theorem dX8_means_57 : decode cX8_means 57 = .ok (.iload_n 3, 1) := by decide +kernel
theorem dX8_means_58 : decode cX8_means 58 = .ok (.ldc2_w 464, 3) := by decide +kernel
theorem dX8_means_61 : decode cX8_means 61 = .ok (.aload_n 0, 1) := by decide +kernel
theorem dX8_means_62 : decode cX8_means 62 = .ok (.getfield 139, 3) := by decide +kernel
theorem dX8_means_65 : decode cX8_means 65 = .ok (.iload_n 3, 1) := by decide +kernel
theorem dX8_means_66 : decode cX8_means 66 = .ok (.iconst 1, 1) := by decide +kernel
theorem dX8_means_67 : decode cX8_means 67 = .ok (.iadd, 1) := by decide +kernel
theorem dX8_means_68 : decode cX8_means 68 = .ok (.laload, 1) := by decide +kernel
theorem dX8_means_69 : decode cX8_means 69 = .ok (.lmul, 1) := by decide +kernel
theorem dX8_means_70 : decode cX8_means 70 = .ok (.lastore, 1) := by decide +kernel
theorem dX8_means_71 : decode cX8_means 71 = .ok (.aload_n 0, 1) := by decide +kernel
theorem dX8_means_72 : decode cX8_means 72 = .ok (.iload_n 3, 1) := by decide +kernel
theorem dX8_means_73 : decode cX8_means 73 = .ok (.invokevirtual 434, 3) := by decide +kernel
theorem dX8_means_76 : decode cX8_means 76 = .ok (.istore 4, 2) := by decide +kernel
theorem dX8_means_78 : decode cX8_means 78 = .ok (.aload_n 0, 1) := by decide +kernel
theorem dX8_means_79 : decode cX8_means 79 = .ok (.getfield 142, 3) := by decide +kernel
theorem dX8_means_82 : decode cX8_means 82 = .ok (.iload_n 3, 1) := by decide +kernel
theorem dX8_means_83 : decode cX8_means 83 = .ok (.aload_n 0, 1) := by decide +kernel
theorem dX8_means_84 : decode cX8_means 84 = .ok (.iload_n 3, 1) := by decide +kernel
theorem dX8_means_85 : decode cX8_means 85 = .ok (.iconst 1, 1) := by decide +kernel
theorem dX8_means_86 : decode cX8_means 86 = .ok (.iadd, 1) := by decide +kernel
theorem dX8_means_87 : decode cX8_means 87 = .ok (.iload 4, 2) := by decide +kernel
theorem dX8_means_89 : decode cX8_means 89 = .ok (.invokevirtual 466, 3) := by decide +kernel
theorem dX8_means_92 : decode cX8_means 92 = .ok (.bipush 100, 2) := by decide +kernel
theorem dX8_means_94 : decode cX8_means 94 = .ok (.aload_n 0, 1) := by decide +kernel
theorem dX8_means_95 : decode cX8_means 95 = .ok (.iload 4, 2) := by decide +kernel
theorem dX8_means_97 : decode cX8_means 97 = .ok (.invokevirtual 469, 3) := by decide +kernel
theorem dX8_means_100 : decode cX8_means 100 = .ok (.isub, 1) := by decide +kernel
theorem dX8_means_101 : decode cX8_means 101 = .ok (.i2l, 1) := by decide +kernel
theorem dX8_means_102 : decode cX8_means 102 = .ok (.aload_n 0, 1) := by decide +kernel
theorem dX8_means_103 : decode cX8_means 103 = .ok (.iload_n 3, 1) := by decide +kernel
theorem dX8_means_104 : decode cX8_means 104 = .ok (.invokevirtual 472, 3) := by decide +kernel
theorem dX8_means_107 : decode cX8_means 107 = .ok (.lmul, 1) := by decide +kernel
theorem dX8_means_108 : decode cX8_means 108 = .ok (.ladd, 1) := by decide +kernel
theorem dX8_means_109 : decode cX8_means 109 = .ok (.lastore, 1) := by decide +kernel
theorem dX8_means_110 : decode cX8_means 110 = .ok (.aload_n 0, 1) := by decide +kernel
theorem dX8_means_111 : decode cX8_means 111 = .ok (.getfield 145, 3) := by decide +kernel
theorem dX8_means_114 : decode cX8_means 114 = .ok (.bipush 100, 2) := by decide +kernel
theorem dX8_means_116 : decode cX8_means 116 = .ok (.iload_n 3, 1) := by decide +kernel
theorem dX8_means_117 : decode cX8_means 117 = .ok (.imul, 1) := by decide +kernel
theorem dX8_means_118 : decode cX8_means 118 = .ok (.ldc2_w 464, 3) := by decide +kernel
theorem dX8_means_121 : decode cX8_means 121 = .ok (.aload_n 0, 1) := by decide +kernel
theorem dX8_means_122 : decode cX8_means 122 = .ok (.getfield 142, 3) := by decide +kernel
theorem dX8_means_125 : decode cX8_means 125 = .ok (.iload_n 3, 1) := by decide +kernel
theorem dX8_means_126 : decode cX8_means 126 = .ok (.laload, 1) := by decide +kernel
theorem dX8_means_127 : decode cX8_means 127 = .ok (.lmul, 1) := by decide +kernel
theorem dX8_means_128 : decode cX8_means 128 = .ok (.lastore, 1) := by decide +kernel
theorem dX8_means_129 : decode cX8_means 129 = .ok (.iconst 1, 1) := by decide +kernel
theorem dX8_means_130 : decode cX8_means 130 = .ok (.istore 5, 2) := by decide +kernel
theorem dX8_means_132 : decode cX8_means 132 = .ok (.iload 5, 2) := by decide +kernel
theorem dX8_means_134 : decode cX8_means 134 = .ok (.bipush 99, 2) := by decide +kernel
theorem dX8_means_136 : decode cX8_means 136 = .ok (.if_icmp .gt 29, 3) := by decide +kernel
theorem dX8_means_139 : decode cX8_means 139 = .ok (.aload_n 0, 1) := by decide +kernel
theorem dX8_means_140 : decode cX8_means 140 = .ok (.getfield 145, 3) := by decide +kernel
theorem dX8_means_143 : decode cX8_means 143 = .ok (.bipush 100, 2) := by decide +kernel
theorem dX8_means_145 : decode cX8_means 145 = .ok (.iload_n 3, 1) := by decide +kernel
theorem dX8_means_146 : decode cX8_means 146 = .ok (.imul, 1) := by decide +kernel
theorem dX8_means_147 : decode cX8_means 147 = .ok (.iload 5, 2) := by decide +kernel
theorem dX8_means_149 : decode cX8_means 149 = .ok (.iadd, 1) := by decide +kernel
theorem dX8_means_150 : decode cX8_means 150 = .ok (.aload_n 0, 1) := by decide +kernel
theorem dX8_means_151 : decode cX8_means 151 = .ok (.iload_n 1, 1) := by decide +kernel
theorem dX8_means_152 : decode cX8_means 152 = .ok (.iload_n 3, 1) := by decide +kernel
theorem dX8_means_153 : decode cX8_means 153 = .ok (.iload 5, 2) := by decide +kernel
theorem dX8_means_155 : decode cX8_means 155 = .ok (.invokevirtual 495, 3) := by decide +kernel
theorem dX8_means_158 : decode cX8_means 158 = .ok (.lastore, 1) := by decide +kernel
theorem dX8_means_159 : decode cX8_means 159 = .ok (.iinc 5 1, 3) := by decide +kernel
theorem dX8_means_162 : decode cX8_means 162 = .ok (.goto (-30), 3) := by decide +kernel
theorem dX8_means_165 : decode cX8_means 165 = .ok (.iinc 3 (-1), 3) := by decide +kernel
theorem dX8_means_168 : decode cX8_means 168 = .ok (.goto (-119), 3) := by decide +kernel
theorem dX8_means_171 : decode cX8_means 171 = .ok (.return_, 1) := by decide +kernel
theorem dX8_areFew_0 : decode cX8_areFew 0 = .ok (.aload_n 0, 1) := by decide +kernel
theorem dX8_areFew_1 : decode cX8_areFew 1 = .ok (.getfield 422, 3) := by decide +kernel
theorem dX8_areFew_4 : decode cX8_areFew 4 = .ok (.ifCond .eq 16, 3) := by decide +kernel
theorem dX8_areFew_7 : decode cX8_areFew 7 = .ok (.aload_n 0, 1) := by decide +kernel
theorem dX8_areFew_8 : decode cX8_areFew 8 = .ok (.invokevirtual 431, 3) := by decide +kernel
theorem dX8_areFew_11 : decode cX8_areFew 11 = .ok (.bipush 6, 2) := by decide +kernel
theorem dX8_areFew_13 : decode cX8_areFew 13 = .ok (.if_icmp .gt 7, 3) := by decide +kernel
theorem dX8_areFew_16 : decode cX8_areFew 16 = .ok (.iconst 1, 1) := by decide +kernel
theorem dX8_areFew_17 : decode cX8_areFew 17 = .ok (.goto 4, 3) := by decide +kernel
theorem dX8_areFew_20 : decode cX8_areFew 20 = .ok (.iconst 0, 1) := by decide +kernel
theorem dX8_areFew_21 : decode cX8_areFew 21 = .ok (.ireturn, 1) := by decide +kernel
theorem dX8_isSewer_0 : decode cX8_isSewer 0 = .ok (.aload_n 0, 1) := by decide +kernel
theorem dX8_isSewer_1 : decode cX8_isSewer 1 = .ok (.getfield 422, 3) := by decide +kernel
theorem dX8_isSewer_4 : decode cX8_isSewer 4 = .ok (.ifCond .eq 37, 3) := by decide +kernel
theorem dX8_isSewer_7 : decode cX8_isSewer 7 = .ok (.iload_n 1, 1) := by decide +kernel
theorem dX8_isSewer_8 : decode cX8_isSewer 8 = .ok (.i2l, 1) := by decide +kernel
theorem dX8_isSewer_9 : decode cX8_isSewer 9 = .ok (.lconst 0, 1) := by decide +kernel
theorem dX8_isSewer_10 : decode cX8_isSewer 10 = .ok (.iconst 4, 1) := by decide +kernel
theorem dX8_isSewer_11 : decode cX8_isSewer 11 = .ok (.aload_n 0, 1) := by decide +kernel
theorem dX8_isSewer_12 : decode cX8_isSewer 12 = .ok (.invokevirtual 499, 3) := by decide +kernel
theorem dX8_isSewer_15 : decode cX8_isSewer 15 = .ok (.iadd, 1) := by decide +kernel
theorem dX8_isSewer_16 : decode cX8_isSewer 16 = .ok (.iconst 1, 1) := by decide +kernel
theorem dX8_isSewer_17 : decode cX8_isSewer 17 = .ok (.isub, 1) := by decide +kernel
theorem dX8_isSewer_18 : decode cX8_isSewer 18 = .ok (.i2l, 1) := by decide +kernel
theorem dX8_isSewer_19 : decode cX8_isSewer 19 = .ok (.invokestatic 333, 3) := by decide +kernel
theorem dX8_isSewer_22 : decode cX8_isSewer 22 = .ok (.ifCond .eq 19, 3) := by decide +kernel
theorem dX8_isSewer_25 : decode cX8_isSewer 25 = .ok (.iload_n 1, 1) := by decide +kernel
theorem dX8_isSewer_26 : decode cX8_isSewer 26 = .ok (.iconst 3, 1) := by decide +kernel
theorem dX8_isSewer_27 : decode cX8_isSewer 27 = .ok (.if_icmp .ne 10, 3) := by decide +kernel
theorem dX8_isSewer_30 : decode cX8_isSewer 30 = .ok (.aload_n 0, 1) := by decide +kernel
theorem dX8_isSewer_31 : decode cX8_isSewer 31 = .ok (.invokevirtual 502, 3) := by decide +kernel
theorem dX8_isSewer_34 : decode cX8_isSewer 34 = .ok (.ifCond .eq 7, 3) := by decide +kernel
theorem dX8_isSewer_37 : decode cX8_isSewer 37 = .ok (.iconst 1, 1) := by decide +kernel
theorem dX8_isSewer_38 : decode cX8_isSewer 38 = .ok (.goto 4, 3) := by decide +kernel
theorem dX8_isSewer_41 : decode cX8_isSewer 41 = .ok (.iconst 0, 1) := by decide +kernel
theorem dX8_isSewer_42 : decode cX8_isSewer 42 = .ok (.ireturn, 1) := by decide +kernel
theorem dX8_mean_0 : decode cX8_mean 0 = .ok (.aload_n 0, 1) := by decide +kernel
theorem dX8_mean_1 : decode cX8_mean 1 = .ok (.invokevirtual 502, 3) := by decide +kernel
theorem dX8_mean_4 : decode cX8_mean 4 = .ok (.ifCond .eq 11, 3) := by decide +kernel
theorem dX8_mean_7 : decode cX8_mean 7 = .ok (.aload_n 0, 1) := by decide +kernel
theorem dX8_mean_8 : decode cX8_mean 8 = .ok (.iload_n 1, 1) := by decide +kernel
theorem dX8_mean_9 : decode cX8_mean 9 = .ok (.invokevirtual 505, 3) := by decide +kernel
theorem dX8_mean_12 : decode cX8_mean 12 = .ok (.ifCond .ne 5, 3) := by decide +kernel
theorem dX8_mean_15 : decode cX8_mean 15 = .ok (.iconst (-1), 1) := by decide +kernel
theorem dX8_mean_16 : decode cX8_mean 16 = .ok (.ireturn, 1) := by decide +kernel
theorem dX8_mean_17 : decode cX8_mean 17 = .ok (.aload_n 0, 1) := by decide +kernel
theorem dX8_mean_18 : decode cX8_mean 18 = .ok (.iload_n 1, 1) := by decide +kernel
theorem dX8_mean_19 : decode cX8_mean 19 = .ok (.invokevirtual 508, 3) := by decide +kernel
theorem dX8_mean_22 : decode cX8_mean 22 = .ok (.ldc2_w 511, 3) := by decide +kernel
theorem dX8_mean_25 : decode cX8_mean 25 = .ok (.aload_n 0, 1) := by decide +kernel
theorem dX8_mean_26 : decode cX8_mean 26 = .ok (.getfield 142, 3) := by decide +kernel
theorem dX8_mean_29 : decode cX8_mean 29 = .ok (.iconst 0, 1) := by decide +kernel
theorem dX8_mean_30 : decode cX8_mean 30 = .ok (.laload, 1) := by decide +kernel
theorem dX8_mean_31 : decode cX8_mean 31 = .ok (.lmul, 1) := by decide +kernel
theorem dX8_mean_32 : decode cX8_mean 32 = .ok (.aload_n 0, 1) := by decide +kernel
theorem dX8_mean_33 : decode cX8_mean 33 = .ok (.getfield 139, 3) := by decide +kernel
theorem dX8_mean_36 : decode cX8_mean 36 = .ok (.iconst 0, 1) := by decide +kernel
theorem dX8_mean_37 : decode cX8_mean 37 = .ok (.laload, 1) := by decide +kernel
theorem dX8_mean_38 : decode cX8_mean 38 = .ok (.ldiv, 1) := by decide +kernel
theorem dX8_mean_39 : decode cX8_mean 39 = .ok (.l2i, 1) := by decide +kernel
theorem dX8_mean_40 : decode cX8_mean 40 = .ok (.ireturn, 1) := by decide +kernel
theorem dX8_isChance_0 : decode cX8_isChance 0 = .ok (.iload_n 2, 1) := by decide +kernel
theorem dX8_isChance_1 : decode cX8_isChance 1 = .ok (.ifCond .ne 5, 3) := by decide +kernel
theorem dX8_isChance_4 : decode cX8_isChance 4 = .ok (.iconst 0, 1) := by decide +kernel
theorem dX8_isChance_5 : decode cX8_isChance 5 = .ok (.ireturn, 1) := by decide +kernel
theorem dX8_isChance_6 : decode cX8_isChance 6 = .ok (.aload_n 0, 1) := by decide +kernel
theorem dX8_isChance_7 : decode cX8_isChance 7 = .ok (.iload_n 2, 1) := by decide +kernel
theorem dX8_isChance_8 : decode cX8_isChance 8 = .ok (.invokevirtual 469, 3) := by decide +kernel
theorem dX8_isChance_11 : decode cX8_isChance 11 = .ok (.ifCond .le 31, 3) := by decide +kernel
theorem dX8_isChance_14 : decode cX8_isChance 14 = .ok (.aload_n 0, 1) := by decide +kernel
theorem dX8_isChance_15 : decode cX8_isChance 15 = .ok (.iload_n 2, 1) := by decide +kernel
theorem dX8_isChance_16 : decode cX8_isChance 16 = .ok (.invokevirtual 469, 3) := by decide +kernel
theorem dX8_isChance_19 : decode cX8_isChance 19 = .ok (.i2l, 1) := by decide +kernel
theorem dX8_isChance_20 : decode cX8_isChance 20 = .ok (.aload_n 0, 1) := by decide +kernel
theorem dX8_isChance_21 : decode cX8_isChance 21 = .ok (.iload_n 1, 1) := by decide +kernel
theorem dX8_isChance_22 : decode cX8_isChance 22 = .ok (.invokevirtual 476, 3) := by decide +kernel
theorem dX8_isChance_25 : decode cX8_isChance 25 = .ok (.lmul, 1) := by decide +kernel
theorem dX8_isChance_26 : decode cX8_isChance 26 = .ok (.aload_n 0, 1) := by decide +kernel
theorem dX8_isChance_27 : decode cX8_isChance 27 = .ok (.iload_n 1, 1) := by decide +kernel
theorem dX8_isChance_28 : decode cX8_isChance 28 = .ok (.iload_n 2, 1) := by decide +kernel
theorem dX8_isChance_29 : decode cX8_isChance 29 = .ok (.invokevirtual 479, 3) := by decide +kernel
theorem dX8_isChance_32 : decode cX8_isChance 32 = .ok (.lcmp, 1) := by decide +kernel
theorem dX8_isChance_33 : decode cX8_isChance 33 = .ok (.ifCond .ge 7, 3) := by decide +kernel
theorem dX8_isChance_36 : decode cX8_isChance 36 = .ok (.iconst 1, 1) := by decide +kernel
theorem dX8_isChance_37 : decode cX8_isChance 37 = .ok (.goto 4, 3) := by decide +kernel
theorem dX8_isChance_40 : decode cX8_isChance 40 = .ok (.iconst 0, 1) := by decide +kernel
theorem dX8_isChance_41 : decode cX8_isChance 41 = .ok (.ireturn, 1) := by decide +kernel
theorem dX8_isChance_42 : decode cX8_isChance 42 = .ok (.aload_n 0, 1) := by decide +kernel
theorem dX8_isChance_43 : decode cX8_isChance 43 = .ok (.iload_n 1, 1) := by decide +kernel
theorem dX8_isChance_44 : decode cX8_isChance 44 = .ok (.invokevirtual 476, 3) := by decide +kernel
theorem dX8_isChance_47 : decode cX8_isChance 47 = .ok (.ldc2_w 464, 3) := by decide +kernel
theorem dX8_isChance_50 : decode cX8_isChance 50 = .ok (.aload_n 0, 1) := by decide +kernel
theorem dX8_isChance_51 : decode cX8_isChance 51 = .ok (.iload_n 1, 1) := by decide +kernel
theorem dX8_isChance_52 : decode cX8_isChance 52 = .ok (.invokevirtual 472, 3) := by decide +kernel
theorem dX8_isChance_55 : decode cX8_isChance 55 = .ok (.lmul, 1) := by decide +kernel
theorem dX8_isChance_56 : decode cX8_isChance 56 = .ok (.lcmp, 1) := by decide +kernel
theorem dX8_isChance_57 : decode cX8_isChance 57 = .ok (.ifCond .ge 7, 3) := by decide +kernel
theorem dX8_isChance_60 : decode cX8_isChance 60 = .ok (.iconst 1, 1) := by decide +kernel
theorem dX8_isChance_61 : decode cX8_isChance 61 = .ok (.goto 4, 3) := by decide +kernel
theorem dX8_isChance_64 : decode cX8_isChance 64 = .ok (.iconst 0, 1) := by decide +kernel
theorem dX8_isChance_65 : decode cX8_isChance 65 = .ok (.ireturn, 1) := by decide +kernel
theorem dX8_when_0 : decode cX8_when 0 = .ok (.aload_n 0, 1) := by decide +kernel
theorem dX8_when_1 : decode cX8_when 1 = .ok (.invokevirtual 502, 3) := by decide +kernel
theorem dX8_when_4 : decode cX8_when 4 = .ok (.ifCond .eq 31, 3) := by decide +kernel
theorem dX8_when_7 : decode cX8_when 7 = .ok (.iload_n 1, 1) := by decide +kernel
theorem dX8_when_8 : decode cX8_when 8 = .ok (.i2l, 1) := by decide +kernel
theorem dX8_when_9 : decode cX8_when 9 = .ok (.lconst 0, 1) := by decide +kernel
theorem dX8_when_10 : decode cX8_when 10 = .ok (.aload_n 0, 1) := by decide +kernel
theorem dX8_when_11 : decode cX8_when 11 = .ok (.invokevirtual 431, 3) := by decide +kernel
theorem dX8_when_14 : decode cX8_when 14 = .ok (.iconst 1, 1) := by decide +kernel
theorem dX8_when_15 : decode cX8_when 15 = .ok (.isub, 1) := by decide +kernel
theorem dX8_when_16 : decode cX8_when 16 = .ok (.i2l, 1) := by decide +kernel
theorem dX8_when_17 : decode cX8_when 17 = .ok (.invokestatic 333, 3) := by decide +kernel
theorem dX8_when_20 : decode cX8_when 20 = .ok (.ifCond .eq 15, 3) := by decide +kernel
theorem dX8_when_23 : decode cX8_when 23 = .ok (.iload_n 2, 1) := by decide +kernel
theorem dX8_when_24 : decode cX8_when 24 = .ok (.i2l, 1) := by decide +kernel
theorem dX8_when_25 : decode cX8_when 25 = .ok (.lconst 0, 1) := by decide +kernel
theorem dX8_when_26 : decode cX8_when 26 = .ok (.ldc2_w 513, 3) := by decide +kernel
theorem dX8_when_29 : decode cX8_when 29 = .ok (.invokestatic 333, 3) := by decide +kernel
theorem dX8_when_32 : decode cX8_when 32 = .ok (.ifCond .ne 5, 3) := by decide +kernel
theorem dX8_when_35 : decode cX8_when 35 = .ok (.iconst (-1), 1) := by decide +kernel
theorem dX8_when_36 : decode cX8_when 36 = .ok (.ireturn, 1) := by decide +kernel
theorem dX8_when_37 : decode cX8_when 37 = .ok (.aload_n 0, 1) := by decide +kernel
theorem dX8_when_38 : decode cX8_when 38 = .ok (.iconst 3, 1) := by decide +kernel
theorem dX8_when_39 : decode cX8_when 39 = .ok (.invokevirtual 508, 3) := by decide +kernel
theorem dX8_when_42 : decode cX8_when 42 = .ok (.aload_n 0, 1) := by decide +kernel
theorem dX8_when_43 : decode cX8_when 43 = .ok (.iload_n 1, 1) := by decide +kernel
theorem dX8_when_44 : decode cX8_when 44 = .ok (.iload_n 2, 1) := by decide +kernel
theorem dX8_when_45 : decode cX8_when 45 = .ok (.invokevirtual 515, 3) := by decide +kernel
theorem dX8_when_48 : decode cX8_when 48 = .ok (.ifCond .eq 7, 3) := by decide +kernel
theorem dX8_when_51 : decode cX8_when 51 = .ok (.iconst 1, 1) := by decide +kernel
theorem dX8_when_52 : decode cX8_when 52 = .ok (.goto 4, 3) := by decide +kernel
theorem dX8_when_55 : decode cX8_when 55 = .ok (.iconst 0, 1) := by decide +kernel
theorem dX8_when_56 : decode cX8_when 56 = .ok (.ireturn, 1) := by decide +kernel
theorem dX8_looks_0 : decode cX8_looks 0 = .ok (.aload_n 0, 1) := by decide +kernel
theorem dX8_looks_1 : decode cX8_looks 1 = .ok (.invokevirtual 502, 3) := by decide +kernel
theorem dX8_looks_4 : decode cX8_looks 4 = .ok (.ifCond .eq 13, 3) := by decide +kernel
theorem dX8_looks_7 : decode cX8_looks 7 = .ok (.iload_n 1, 1) := by decide +kernel
theorem dX8_looks_8 : decode cX8_looks 8 = .ok (.i2l, 1) := by decide +kernel
theorem dX8_looks_9 : decode cX8_looks 9 = .ok (.lconst 0, 1) := by decide +kernel
theorem dX8_looks_10 : decode cX8_looks 10 = .ok (.lconst 1, 1) := by decide +kernel
theorem dX8_looks_11 : decode cX8_looks 11 = .ok (.invokestatic 333, 3) := by decide +kernel
theorem dX8_looks_14 : decode cX8_looks 14 = .ok (.ifCond .ne 5, 3) := by decide +kernel
theorem dX8_looks_17 : decode cX8_looks 17 = .ok (.iconst (-1), 1) := by decide +kernel
theorem dX8_looks_18 : decode cX8_looks 18 = .ok (.ireturn, 1) := by decide +kernel
theorem dX8_looks_19 : decode cX8_looks 19 = .ok (.aload_n 0, 1) := by decide +kernel
theorem dX8_looks_20 : decode cX8_looks 20 = .ok (.iconst 3, 1) := by decide +kernel
theorem dX8_looks_21 : decode cX8_looks 21 = .ok (.invokevirtual 508, 3) := by decide +kernel
theorem dX8_looks_24 : decode cX8_looks 24 = .ok (.aload_n 0, 1) := by decide +kernel
theorem dX8_looks_25 : decode cX8_looks 25 = .ok (.getfield 142, 3) := by decide +kernel
theorem dX8_looks_28 : decode cX8_looks 28 = .ok (.iconst 0, 1) := by decide +kernel
theorem dX8_looks_29 : decode cX8_looks 29 = .ok (.laload, 1) := by decide +kernel
theorem dX8_looks_30 : decode cX8_looks 30 = .ok (.lstore_n 2, 1) := by decide +kernel
theorem dX8_looks_31 : decode cX8_looks 31 = .ok (.aload_n 0, 1) := by decide +kernel
theorem dX8_looks_32 : decode cX8_looks 32 = .ok (.bipush 100, 2) := by decide +kernel
theorem dX8_looks_34 : decode cX8_looks 34 = .ok (.invokevirtual 508, 3) := by decide +kernel
theorem dX8_looks_37 : decode cX8_looks 37 = .ok (.ldc2_w 511, 3) := by decide +kernel
theorem dX8_looks_40 : decode cX8_looks 40 = .ok (.iload_n 1, 1) := by decide +kernel
theorem dX8_looks_41 : decode cX8_looks 41 = .ok (.ifCond .ne 12, 3) := by decide +kernel
theorem dX8_looks_44 : decode cX8_looks 44 = .ok (.aload_n 0, 1) := by decide +kernel
theorem dX8_looks_45 : decode cX8_looks 45 = .ok (.getfield 142, 3) := by decide +kernel
theorem dX8_looks_48 : decode cX8_looks 48 = .ok (.iconst 0, 1) := by decide +kernel
theorem dX8_looks_49 : decode cX8_looks 49 = .ok (.laload, 1) := by decide +kernel
theorem dX8_looks_50 : decode cX8_looks 50 = .ok (.goto 11, 3) := by decide +kernel
theorem dX8_looks_53 : decode cX8_looks 53 = .ok (.lload_n 2, 1) := by decide +kernel
theorem dX8_looks_54 : decode cX8_looks 54 = .ok (.aload_n 0, 1) := by decide +kernel
theorem dX8_looks_55 : decode cX8_looks 55 = .ok (.getfield 142, 3) := by decide +kernel
theorem dX8_looks_58 : decode cX8_looks 58 = .ok (.iconst 0, 1) := by decide +kernel
theorem dX8_looks_59 : decode cX8_looks 59 = .ok (.laload, 1) := by decide +kernel
theorem dX8_looks_60 : decode cX8_looks 60 = .ok (.lsub, 1) := by decide +kernel
theorem dX8_looks_61 : decode cX8_looks 61 = .ok (.lmul, 1) := by decide +kernel
theorem dX8_looks_62 : decode cX8_looks 62 = .ok (.aload_n 0, 1) := by decide +kernel
theorem dX8_looks_63 : decode cX8_looks 63 = .ok (.getfield 139, 3) := by decide +kernel
theorem dX8_looks_66 : decode cX8_looks 66 = .ok (.iconst 0, 1) := by decide +kernel
theorem dX8_looks_67 : decode cX8_looks 67 = .ok (.laload, 1) := by decide +kernel
theorem dX8_looks_68 : decode cX8_looks 68 = .ok (.ldiv, 1) := by decide +kernel
theorem dX8_looks_69 : decode cX8_looks 69 = .ok (.l2i, 1) := by decide +kernel
theorem dX8_looks_70 : decode cX8_looks 70 = .ok (.ireturn, 1) := by decide +kernel
theorem dX8_rule_0 : decode cX8_rule 0 = .ok (.aload_n 0, 1) := by decide +kernel
theorem dX8_rule_1 : decode cX8_rule 1 = .ok (.invokevirtual 502, 3) := by decide +kernel
theorem dX8_rule_4 : decode cX8_rule 4 = .ok (.ifCond .ne 5, 3) := by decide +kernel
theorem dX8_rule_7 : decode cX8_rule 7 = .ok (.iconst (-1), 1) := by decide +kernel
theorem dX8_rule_8 : decode cX8_rule 8 = .ok (.ireturn, 1) := by decide +kernel
theorem dX8_rule_9 : decode cX8_rule 9 = .ok (.iconst (-1), 1) := by decide +kernel
theorem dX8_rule_10 : decode cX8_rule 10 = .ok (.istore_n 1, 1) := by decide +kernel
theorem dX8_rule_11 : decode cX8_rule 11 = .ok (.lconst 0, 1) := by decide +kernel
theorem dX8_rule_12 : decode cX8_rule 12 = .ok (.lstore_n 2, 1) := by decide +kernel
theorem dX8_rule_13 : decode cX8_rule 13 = .ok (.iconst 0, 1) := by decide +kernel
theorem dX8_rule_14 : decode cX8_rule 14 = .ok (.istore 4, 2) := by decide +kernel
theorem dX8_rule_16 : decode cX8_rule 16 = .ok (.iload 4, 2) := by decide +kernel
theorem dX8_rule_18 : decode cX8_rule 18 = .ok (.aload_n 0, 1) := by decide +kernel
theorem dX8_rule_19 : decode cX8_rule 19 = .ok (.invokevirtual 499, 3) := by decide +kernel
theorem dX8_rule_22 : decode cX8_rule 22 = .ok (.if_icmp .ge 46, 3) := by decide +kernel
theorem dX8_rule_25 : decode cX8_rule 25 = .ok (.aload_n 0, 1) := by decide +kernel
theorem dX8_rule_26 : decode cX8_rule 26 = .ok (.iconst 4, 1) := by decide +kernel
theorem dX8_rule_27 : decode cX8_rule 27 = .ok (.iload 4, 2) := by decide +kernel
theorem dX8_rule_29 : decode cX8_rule 29 = .ok (.iadd, 1) := by decide +kernel
theorem dX8_rule_30 : decode cX8_rule 30 = .ok (.invokevirtual 508, 3) := by decide +kernel
theorem dX8_rule_33 : decode cX8_rule 33 = .ok (.iload_n 1, 1) := by decide +kernel
theorem dX8_rule_34 : decode cX8_rule 34 = .ok (.iconst (-1), 1) := by decide +kernel
theorem dX8_rule_35 : decode cX8_rule 35 = .ok (.if_icmp .eq 17, 3) := by decide +kernel
theorem dX8_rule_38 : decode cX8_rule 38 = .ok (.aload_n 0, 1) := by decide +kernel
theorem dX8_rule_39 : decode cX8_rule 39 = .ok (.getfield 142, 3) := by decide +kernel
theorem dX8_rule_42 : decode cX8_rule 42 = .ok (.iconst 0, 1) := by decide +kernel
theorem dX8_rule_43 : decode cX8_rule 43 = .ok (.laload, 1) := by decide +kernel
theorem dX8_rule_44 : decode cX8_rule 44 = .ok (.lload_n 2, 1) := by decide +kernel
theorem dX8_rule_45 : decode cX8_rule 45 = .ok (.lcmp, 1) := by decide +kernel
theorem dX8_rule_46 : decode cX8_rule 46 = .ok (.ifCond .lt 6, 3) := by decide +kernel
theorem dX8_rule_49 : decode cX8_rule 49 = .ok (.goto 13, 3) := by decide +kernel
theorem dX8_rule_52 : decode cX8_rule 52 = .ok (.iload 4, 2) := by decide +kernel
theorem dX8_rule_54 : decode cX8_rule 54 = .ok (.istore_n 1, 1) := by decide +kernel
theorem dX8_rule_55 : decode cX8_rule 55 = .ok (.aload_n 0, 1) := by decide +kernel
theorem dX8_rule_56 : decode cX8_rule 56 = .ok (.getfield 142, 3) := by decide +kernel
theorem dX8_rule_59 : decode cX8_rule 59 = .ok (.iconst 0, 1) := by decide +kernel
theorem dX8_rule_60 : decode cX8_rule 60 = .ok (.laload, 1) := by decide +kernel
theorem dX8_rule_61 : decode cX8_rule 61 = .ok (.lstore_n 2, 1) := by decide +kernel
theorem dX8_rule_62 : decode cX8_rule 62 = .ok (.iinc 4 1, 3) := by decide +kernel
theorem dX8_rule_65 : decode cX8_rule 65 = .ok (.goto (-49), 3) := by decide +kernel
theorem dX8_rule_68 : decode cX8_rule 68 = .ok (.iload_n 1, 1) := by decide +kernel
theorem dX8_rule_69 : decode cX8_rule 69 = .ok (.ireturn, 1) := by decide +kernel
theorem dX8_changesAt_0 : decode cX8_changesAt 0 = .ok (.iload_n 3, 1) := by decide +kernel
theorem dX8_changesAt_1 : decode cX8_changesAt 1 = .ok (.ifCond .ne 5, 3) := by decide +kernel
theorem dX8_changesAt_4 : decode cX8_changesAt 4 = .ok (.iconst 0, 1) := by decide +kernel
theorem dX8_changesAt_5 : decode cX8_changesAt 5 = .ok (.ireturn, 1) := by decide +kernel
theorem dX8_changesAt_6 : decode cX8_changesAt 6 = .ok (.iload_n 1, 1) := by decide +kernel
theorem dX8_changesAt_7 : decode cX8_changesAt 7 = .ok (.iconst 2, 1) := by decide +kernel
theorem dX8_changesAt_8 : decode cX8_changesAt 8 = .ok (.if_icmp .ne 23, 3) := by decide +kernel
theorem dX8_changesAt_11 : decode cX8_changesAt 11 = .ok (.iload_n 3, 1) := by decide +kernel
theorem dX8_changesAt_12 : decode cX8_changesAt 12 = .ok (.aload_n 0, 1) := by decide +kernel
theorem dX8_changesAt_13 : decode cX8_changesAt 13 = .ok (.iload_n 2, 1) := by decide +kernel
theorem dX8_changesAt_14 : decode cX8_changesAt 14 = .ok (.invokevirtual 434, 3) := by decide +kernel
theorem dX8_changesAt_17 : decode cX8_changesAt 17 = .ok (.iadd, 1) := by decide +kernel
theorem dX8_changesAt_18 : decode cX8_changesAt 18 = .ok (.iload 4, 2) := by decide +kernel
theorem dX8_changesAt_20 : decode cX8_changesAt 20 = .ok (.if_icmp .le 7, 3) := by decide +kernel
theorem dX8_changesAt_23 : decode cX8_changesAt 23 = .ok (.iconst 1, 1) := by decide +kernel
theorem dX8_changesAt_24 : decode cX8_changesAt 24 = .ok (.goto 28, 3) := by decide +kernel
theorem dX8_changesAt_27 : decode cX8_changesAt 27 = .ok (.iconst 0, 1) := by decide +kernel
theorem dX8_changesAt_28 : decode cX8_changesAt 28 = .ok (.goto 24, 3) := by decide +kernel
theorem dX8_changesAt_31 : decode cX8_changesAt 31 = .ok (.iload_n 1, 1) := by decide +kernel
theorem dX8_changesAt_32 : decode cX8_changesAt 32 = .ok (.iconst 3, 1) := by decide +kernel
theorem dX8_changesAt_33 : decode cX8_changesAt 33 = .ok (.if_icmp .ne 12, 3) := by decide +kernel
theorem dX8_changesAt_36 : decode cX8_changesAt 36 = .ok (.aload_n 0, 1) := by decide +kernel
theorem dX8_changesAt_37 : decode cX8_changesAt 37 = .ok (.iload_n 2, 1) := by decide +kernel
theorem dX8_changesAt_38 : decode cX8_changesAt 38 = .ok (.iload_n 3, 1) := by decide +kernel
theorem dX8_changesAt_39 : decode cX8_changesAt 39 = .ok (.invokevirtual 515, 3) := by decide +kernel
theorem dX8_changesAt_42 : decode cX8_changesAt 42 = .ok (.goto 10, 3) := by decide +kernel
theorem dX8_changesAt_45 : decode cX8_changesAt 45 = .ok (.aload_n 0, 1) := by decide +kernel
theorem dX8_changesAt_46 : decode cX8_changesAt 46 = .ok (.iload_n 1, 1) := by decide +kernel
theorem dX8_changesAt_47 : decode cX8_changesAt 47 = .ok (.iload_n 2, 1) := by decide +kernel
theorem dX8_changesAt_48 : decode cX8_changesAt 48 = .ok (.iload_n 3, 1) := by decide +kernel
theorem dX8_changesAt_49 : decode cX8_changesAt 49 = .ok (.invokevirtual 485, 3) := by decide +kernel
theorem dX8_changesAt_52 : decode cX8_changesAt 52 = .ok (.ireturn, 1) := by decide +kernel
theorem dX8_laysRow_0 : decode cX8_laysRow 0 = .ok (.iload_n 1, 1) := by decide +kernel
theorem dX8_laysRow_1 : decode cX8_laysRow 1 = .ok (.iconst 3, 1) := by decide +kernel
theorem dX8_laysRow_2 : decode cX8_laysRow 2 = .ok (.if_icmp .ne 8, 3) := by decide +kernel
theorem dX8_laysRow_5 : decode cX8_laysRow 5 = .ok (.aload_n 0, 1) := by decide +kernel
theorem dX8_laysRow_6 : decode cX8_laysRow 6 = .ok (.iconst 3, 1) := by decide +kernel
theorem dX8_laysRow_7 : decode cX8_laysRow 7 = .ok (.invokevirtual 508, 3) := by decide +kernel
theorem dX8_laysRow_10 : decode cX8_laysRow 10 = .ok (.iconst 0, 1) := by decide +kernel
theorem dX8_laysRow_11 : decode cX8_laysRow 11 = .ok (.istore_n 3, 1) := by decide +kernel
theorem dX8_laysRow_12 : decode cX8_laysRow 12 = .ok (.aload_n 0, 1) := by decide +kernel
theorem dX8_laysRow_13 : decode cX8_laysRow 13 = .ok (.iconst 0, 1) := by decide +kernel
theorem dX8_laysRow_14 : decode cX8_laysRow 14 = .ok (.putfield 519, 3) := by decide +kernel
theorem dX8_laysRow_17 : decode cX8_laysRow 17 = .ok (.iconst 0, 1) := by decide +kernel
theorem dX8_laysRow_18 : decode cX8_laysRow 18 = .ok (.istore 4, 2) := by decide +kernel
theorem dX8_laysRow_20 : decode cX8_laysRow 20 = .ok (.iload 4, 2) := by decide +kernel
theorem dX8_laysRow_22 : decode cX8_laysRow 22 = .ok (.aload_n 0, 1) := by decide +kernel
theorem dX8_laysRow_23 : decode cX8_laysRow 23 = .ok (.invokevirtual 431, 3) := by decide +kernel
theorem dX8_laysRow_26 : decode cX8_laysRow 26 = .ok (.if_icmp .ge 168, 3) := by decide +kernel
theorem dX8_laysRow_29 : decode cX8_laysRow 29 = .ok (.iload_n 1, 1) := by decide +kernel
theorem dX8_laysRow_30 : decode cX8_laysRow 30 = .ok (.iconst 2, 1) := by decide +kernel
theorem dX8_laysRow_31 : decode cX8_laysRow 31 = .ok (.if_icmp .ne 21, 3) := by decide +kernel
theorem dX8_laysRow_34 : decode cX8_laysRow 34 = .ok (.iload_n 3, 1) := by decide +kernel
theorem dX8_laysRow_35 : decode cX8_laysRow 35 = .ok (.ifCond .le 17, 3) := by decide +kernel
theorem dX8_laysRow_38 : decode cX8_laysRow 38 = .ok (.aload_n 0, 1) := by decide +kernel
theorem dX8_laysRow_39 : decode cX8_laysRow 39 = .ok (.dup, 1) := by decide +kernel
theorem dX8_laysRow_40 : decode cX8_laysRow 40 = .ok (.getfield 519, 3) := by decide +kernel
theorem dX8_laysRow_43 : decode cX8_laysRow 43 = .ok (.aload_n 0, 1) := by decide +kernel
theorem dX8_laysRow_44 : decode cX8_laysRow 44 = .ok (.iconst 2, 1) := by decide +kernel
theorem dX8_laysRow_45 : decode cX8_laysRow 45 = .ok (.invokevirtual 461, 3) := by decide +kernel
theorem dX8_laysRow_48 : decode cX8_laysRow 48 = .ok (.iadd, 1) := by decide +kernel
theorem dX8_laysRow_49 : decode cX8_laysRow 49 = .ok (.putfield 519, 3) := by decide +kernel
theorem dX8_laysRow_52 : decode cX8_laysRow 52 = .ok (.aload_n 0, 1) := by decide +kernel
theorem dX8_laysRow_53 : decode cX8_laysRow 53 = .ok (.iload_n 1, 1) := by decide +kernel
theorem dX8_laysRow_54 : decode cX8_laysRow 54 = .ok (.iload 4, 2) := by decide +kernel
theorem dX8_laysRow_56 : decode cX8_laysRow 56 = .ok (.iload_n 3, 1) := by decide +kernel
theorem dX8_laysRow_57 : decode cX8_laysRow 57 = .ok (.iload_n 2, 1) := by decide +kernel
theorem dX8_laysRow_58 : decode cX8_laysRow 58 = .ok (.invokevirtual 522, 3) := by decide +kernel
theorem dX8_laysRow_61 : decode cX8_laysRow 61 = .ok (.istore 5, 2) := by decide +kernel
theorem dX8_laysRow_63 : decode cX8_laysRow 63 = .ok (.iload 5, 2) := by decide +kernel
theorem dX8_laysRow_65 : decode cX8_laysRow 65 = .ok (.ifCond .eq 19, 3) := by decide +kernel
theorem dX8_laysRow_68 : decode cX8_laysRow 68 = .ok (.aload_n 0, 1) := by decide +kernel
theorem dX8_laysRow_69 : decode cX8_laysRow 69 = .ok (.dup, 1) := by decide +kernel
theorem dX8_laysRow_70 : decode cX8_laysRow 70 = .ok (.getfield 519, 3) := by decide +kernel
theorem dX8_laysRow_73 : decode cX8_laysRow 73 = .ok (.aload_n 0, 1) := by decide +kernel
theorem dX8_laysRow_74 : decode cX8_laysRow 74 = .ok (.iconst 0, 1) := by decide +kernel
theorem dX8_laysRow_75 : decode cX8_laysRow 75 = .ok (.invokevirtual 461, 3) := by decide +kernel
theorem dX8_laysRow_78 : decode cX8_laysRow 78 = .ok (.iadd, 1) := by decide +kernel
theorem dX8_laysRow_79 : decode cX8_laysRow 79 = .ok (.putfield 519, 3) := by decide +kernel
theorem dX8_laysRow_82 : decode cX8_laysRow 82 = .ok (.iconst 0, 1) := by decide +kernel
theorem dX8_laysRow_83 : decode cX8_laysRow 83 = .ok (.istore_n 3, 1) := by decide +kernel
theorem dX8_laysRow_84 : decode cX8_laysRow 84 = .ok (.aload_n 0, 1) := by decide +kernel
theorem dX8_laysRow_85 : decode cX8_laysRow 85 = .ok (.getfield 148, 3) := by decide +kernel
theorem dX8_laysRow_88 : decode cX8_laysRow 88 = .ok (.iload 4, 2) := by decide +kernel
theorem dX8_laysRow_90 : decode cX8_laysRow 90 = .ok (.iload_n 3, 1) := by decide +kernel
theorem dX8_laysRow_91 : decode cX8_laysRow 91 = .ok (.iastore, 1) := by decide +kernel
theorem dX8_laysRow_92 : decode cX8_laysRow 92 = .ok (.aload_n 0, 1) := by decide +kernel
theorem dX8_laysRow_93 : decode cX8_laysRow 93 = .ok (.getfield 151, 3) := by decide +kernel
theorem dX8_laysRow_96 : decode cX8_laysRow 96 = .ok (.iload 4, 2) := by decide +kernel
theorem dX8_laysRow_98 : decode cX8_laysRow 98 = .ok (.iload 5, 2) := by decide +kernel
theorem dX8_laysRow_100 : decode cX8_laysRow 100 = .ok (.ifCond .eq 7, 3) := by decide +kernel
theorem dX8_laysRow_103 : decode cX8_laysRow 103 = .ok (.iconst 1, 1) := by decide +kernel
theorem dX8_laysRow_104 : decode cX8_laysRow 104 = .ok (.goto 4, 3) := by decide +kernel
theorem dX8_laysRow_107 : decode cX8_laysRow 107 = .ok (.iconst 0, 1) := by decide +kernel
theorem dX8_laysRow_108 : decode cX8_laysRow 108 = .ok (.iastore, 1) := by decide +kernel
theorem dX8_laysRow_109 : decode cX8_laysRow 109 = .ok (.iload_n 3, 1) := by decide +kernel
theorem dX8_laysRow_110 : decode cX8_laysRow 110 = .ok (.aload_n 0, 1) := by decide +kernel
theorem dX8_laysRow_111 : decode cX8_laysRow 111 = .ok (.iload 4, 2) := by decide +kernel
theorem dX8_laysRow_113 : decode cX8_laysRow 113 = .ok (.invokevirtual 434, 3) := by decide +kernel
theorem dX8_laysRow_116 : decode cX8_laysRow 116 = .ok (.iadd, 1) := by decide +kernel
theorem dX8_laysRow_117 : decode cX8_laysRow 117 = .ok (.iload_n 2, 1) := by decide +kernel
theorem dX8_laysRow_118 : decode cX8_laysRow 118 = .ok (.if_icmp .gt 7, 3) := by decide +kernel
theorem dX8_laysRow_121 : decode cX8_laysRow 121 = .ok (.iconst 1, 1) := by decide +kernel
theorem dX8_laysRow_122 : decode cX8_laysRow 122 = .ok (.goto 4, 3) := by decide +kernel
theorem dX8_laysRow_125 : decode cX8_laysRow 125 = .ok (.iconst 0, 1) := by decide +kernel
theorem dX8_laysRow_126 : decode cX8_laysRow 126 = .ok (.istore 6, 2) := by decide +kernel
theorem dX8_laysRow_128 : decode cX8_laysRow 128 = .ok (.aload_n 0, 1) := by decide +kernel
theorem dX8_laysRow_129 : decode cX8_laysRow 129 = .ok (.getfield 154, 3) := by decide +kernel
theorem dX8_laysRow_132 : decode cX8_laysRow 132 = .ok (.iload 4, 2) := by decide +kernel
theorem dX8_laysRow_134 : decode cX8_laysRow 134 = .ok (.iload 6, 2) := by decide +kernel
theorem dX8_laysRow_136 : decode cX8_laysRow 136 = .ok (.ifCond .eq 7, 3) := by decide +kernel
theorem dX8_laysRow_139 : decode cX8_laysRow 139 = .ok (.iconst 0, 1) := by decide +kernel
theorem dX8_laysRow_140 : decode cX8_laysRow 140 = .ok (.goto 4, 3) := by decide +kernel
theorem dX8_laysRow_143 : decode cX8_laysRow 143 = .ok (.iconst 1, 1) := by decide +kernel
theorem dX8_laysRow_144 : decode cX8_laysRow 144 = .ok (.iastore, 1) := by decide +kernel
theorem dX8_laysRow_145 : decode cX8_laysRow 145 = .ok (.iload 6, 2) := by decide +kernel
theorem dX8_laysRow_147 : decode cX8_laysRow 147 = .ok (.ifCond .ne 23, 3) := by decide +kernel
theorem dX8_laysRow_150 : decode cX8_laysRow 150 = .ok (.aload_n 0, 1) := by decide +kernel
theorem dX8_laysRow_151 : decode cX8_laysRow 151 = .ok (.dup, 1) := by decide +kernel
theorem dX8_laysRow_152 : decode cX8_laysRow 152 = .ok (.getfield 519, 3) := by decide +kernel
theorem dX8_laysRow_155 : decode cX8_laysRow 155 = .ok (.aload_n 0, 1) := by decide +kernel
theorem dX8_laysRow_156 : decode cX8_laysRow 156 = .ok (.iconst 1, 1) := by decide +kernel
theorem dX8_laysRow_157 : decode cX8_laysRow 157 = .ok (.invokevirtual 461, 3) := by decide +kernel
theorem dX8_laysRow_160 : decode cX8_laysRow 160 = .ok (.aload_n 0, 1) := by decide +kernel
theorem dX8_laysRow_161 : decode cX8_laysRow 161 = .ok (.iconst 0, 1) := by decide +kernel
theorem dX8_laysRow_162 : decode cX8_laysRow 162 = .ok (.invokevirtual 461, 3) := by decide +kernel
theorem dX8_laysRow_165 : decode cX8_laysRow 165 = .ok (.iadd, 1) := by decide +kernel
theorem dX8_laysRow_166 : decode cX8_laysRow 166 = .ok (.iadd, 1) := by decide +kernel
theorem dX8_laysRow_167 : decode cX8_laysRow 167 = .ok (.putfield 519, 3) := by decide +kernel
theorem dX8_laysRow_170 : decode cX8_laysRow 170 = .ok (.iload 6, 2) := by decide +kernel
theorem dX8_laysRow_172 : decode cX8_laysRow 172 = .ok (.ifCond .eq 14, 3) := by decide +kernel
theorem dX8_laysRow_175 : decode cX8_laysRow 175 = .ok (.iload_n 3, 1) := by decide +kernel
theorem dX8_laysRow_176 : decode cX8_laysRow 176 = .ok (.aload_n 0, 1) := by decide +kernel
theorem dX8_laysRow_177 : decode cX8_laysRow 177 = .ok (.iload 4, 2) := by decide +kernel
theorem dX8_laysRow_179 : decode cX8_laysRow 179 = .ok (.invokevirtual 434, 3) := by decide +kernel
theorem dX8_laysRow_182 : decode cX8_laysRow 182 = .ok (.iadd, 1) := by decide +kernel
theorem dX8_laysRow_183 : decode cX8_laysRow 183 = .ok (.goto 4, 3) := by decide +kernel
theorem dX8_laysRow_186 : decode cX8_laysRow 186 = .ok (.iconst 0, 1) := by decide +kernel
theorem dX8_laysRow_187 : decode cX8_laysRow 187 = .ok (.istore_n 3, 1) := by decide +kernel
theorem dX8_laysRow_188 : decode cX8_laysRow 188 = .ok (.iinc 4 1, 3) := by decide +kernel
theorem dX8_laysRow_191 : decode cX8_laysRow 191 = .ok (.goto (-171), 3) := by decide +kernel
theorem dX8_laysRow_194 : decode cX8_laysRow 194 = .ok (.return_, 1) := by decide +kernel
theorem dX8_row_0 : decode cX8_row 0 = .ok (.aload_n 0, 1) := by decide +kernel
theorem dX8_row_1 : decode cX8_row 1 = .ok (.iload_n 1, 1) := by decide +kernel
theorem dX8_row_2 : decode cX8_row 2 = .ok (.invokevirtual 505, 3) := by decide +kernel
theorem dX8_row_5 : decode cX8_row 5 = .ok (.ifCond .eq 44, 3) := by decide +kernel
theorem dX8_row_8 : decode cX8_row 8 = .ok (.iload_n 2, 1) := by decide +kernel
theorem dX8_row_9 : decode cX8_row 9 = .ok (.i2l, 1) := by decide +kernel
theorem dX8_row_10 : decode cX8_row 10 = .ok (.lconst 1, 1) := by decide +kernel
theorem dX8_row_11 : decode cX8_row 11 = .ok (.ldc2_w 513, 3) := by decide +kernel
theorem dX8_row_14 : decode cX8_row 14 = .ok (.invokestatic 333, 3) := by decide +kernel
theorem dX8_row_17 : decode cX8_row 17 = .ok (.ifCond .eq 32, 3) := by decide +kernel
theorem dX8_row_20 : decode cX8_row 20 = .ok (.iload_n 3, 1) := by decide +kernel
theorem dX8_row_21 : decode cX8_row 21 = .ok (.i2l, 1) := by decide +kernel
theorem dX8_row_22 : decode cX8_row 22 = .ok (.lconst 0, 1) := by decide +kernel
theorem dX8_row_23 : decode cX8_row 23 = .ok (.aload_n 0, 1) := by decide +kernel
theorem dX8_row_24 : decode cX8_row 24 = .ok (.invokevirtual 431, 3) := by decide +kernel
theorem dX8_row_27 : decode cX8_row 27 = .ok (.iconst 1, 1) := by decide +kernel
theorem dX8_row_28 : decode cX8_row 28 = .ok (.isub, 1) := by decide +kernel
theorem dX8_row_29 : decode cX8_row 29 = .ok (.i2l, 1) := by decide +kernel
theorem dX8_row_30 : decode cX8_row 30 = .ok (.invokestatic 333, 3) := by decide +kernel
theorem dX8_row_33 : decode cX8_row 33 = .ok (.ifCond .eq 16, 3) := by decide +kernel
theorem dX8_row_36 : decode cX8_row 36 = .ok (.iload 4, 2) := by decide +kernel
theorem dX8_row_38 : decode cX8_row 38 = .ok (.i2l, 1) := by decide +kernel
theorem dX8_row_39 : decode cX8_row 39 = .ok (.lconst 0, 1) := by decide +kernel
theorem dX8_row_40 : decode cX8_row 40 = .ok (.ldc2_w 526, 3) := by decide +kernel
theorem dX8_row_43 : decode cX8_row 43 = .ok (.invokestatic 333, 3) := by decide +kernel
theorem dX8_row_46 : decode cX8_row 46 = .ok (.ifCond .ne 5, 3) := by decide +kernel
theorem dX8_row_49 : decode cX8_row 49 = .ok (.iconst (-1), 1) := by decide +kernel
theorem dX8_row_50 : decode cX8_row 50 = .ok (.ireturn, 1) := by decide +kernel
theorem dX8_row_51 : decode cX8_row 51 = .ok (.aload_n 0, 1) := by decide +kernel
theorem dX8_row_52 : decode cX8_row 52 = .ok (.iload_n 1, 1) := by decide +kernel
theorem dX8_row_53 : decode cX8_row 53 = .ok (.iload_n 2, 1) := by decide +kernel
theorem dX8_row_54 : decode cX8_row 54 = .ok (.invokevirtual 528, 3) := by decide +kernel
theorem dX8_row_57 : decode cX8_row 57 = .ok (.iload 4, 2) := by decide +kernel
theorem dX8_row_59 : decode cX8_row 59 = .ok (.ifCond .ne 12, 3) := by decide +kernel
theorem dX8_row_62 : decode cX8_row 62 = .ok (.aload_n 0, 1) := by decide +kernel
theorem dX8_row_63 : decode cX8_row 63 = .ok (.getfield 148, 3) := by decide +kernel
theorem dX8_row_66 : decode cX8_row 66 = .ok (.iload_n 3, 1) := by decide +kernel
theorem dX8_row_67 : decode cX8_row 67 = .ok (.iaload, 1) := by decide +kernel
theorem dX8_row_68 : decode cX8_row 68 = .ok (.goto 24, 3) := by decide +kernel
theorem dX8_row_71 : decode cX8_row 71 = .ok (.iload 4, 2) := by decide +kernel
theorem dX8_row_73 : decode cX8_row 73 = .ok (.iconst 1, 1) := by decide +kernel
theorem dX8_row_74 : decode cX8_row 74 = .ok (.if_icmp .ne 12, 3) := by decide +kernel
theorem dX8_row_77 : decode cX8_row 77 = .ok (.aload_n 0, 1) := by decide +kernel
theorem dX8_row_78 : decode cX8_row 78 = .ok (.getfield 151, 3) := by decide +kernel
theorem dX8_row_81 : decode cX8_row 81 = .ok (.iload_n 3, 1) := by decide +kernel
theorem dX8_row_82 : decode cX8_row 82 = .ok (.iaload, 1) := by decide +kernel
theorem dX8_row_83 : decode cX8_row 83 = .ok (.goto 9, 3) := by decide +kernel
theorem dX8_row_86 : decode cX8_row 86 = .ok (.aload_n 0, 1) := by decide +kernel
theorem dX8_row_87 : decode cX8_row 87 = .ok (.getfield 154, 3) := by decide +kernel
theorem dX8_row_90 : decode cX8_row 90 = .ok (.iload_n 3, 1) := by decide +kernel
theorem dX8_row_91 : decode cX8_row 91 = .ok (.iaload, 1) := by decide +kernel
theorem dX8_row_92 : decode cX8_row 92 = .ok (.ireturn, 1) := by decide +kernel
theorem dX8_firstOf_0 : decode cX8_firstOf 0 = .ok (.iconst 0, 1) := by decide +kernel
theorem dX8_firstOf_1 : decode cX8_firstOf 1 = .ok (.istore_n 2, 1) := by decide +kernel
theorem dX8_firstOf_2 : decode cX8_firstOf 2 = .ok (.iload_n 2, 1) := by decide +kernel
theorem dX8_firstOf_3 : decode cX8_firstOf 3 = .ok (.iload_n 1, 1) := by decide +kernel
theorem dX8_firstOf_4 : decode cX8_firstOf 4 = .ok (.if_icmp .ge 18, 3) := by decide +kernel
theorem dX8_firstOf_7 : decode cX8_firstOf 7 = .ok (.aload_n 0, 1) := by decide +kernel
theorem dX8_firstOf_8 : decode cX8_firstOf 8 = .ok (.iload_n 2, 1) := by decide +kernel
theorem dX8_firstOf_9 : decode cX8_firstOf 9 = .ok (.iaload, 1) := by decide +kernel
theorem dX8_firstOf_10 : decode cX8_firstOf 10 = .ok (.iconst 1, 1) := by decide +kernel
theorem dX8_firstOf_11 : decode cX8_firstOf 11 = .ok (.if_icmp .ne 5, 3) := by decide +kernel
theorem dX8_firstOf_14 : decode cX8_firstOf 14 = .ok (.iload_n 2, 1) := by decide +kernel
theorem dX8_firstOf_15 : decode cX8_firstOf 15 = .ok (.ireturn, 1) := by decide +kernel
theorem dX8_firstOf_16 : decode cX8_firstOf 16 = .ok (.iinc 2 1, 3) := by decide +kernel
theorem dX8_firstOf_19 : decode cX8_firstOf 19 = .ok (.goto (-17), 3) := by decide +kernel
theorem dX8_firstOf_22 : decode cX8_firstOf 22 = .ok (.iconst (-1), 1) := by decide +kernel
theorem dX8_firstOf_23 : decode cX8_firstOf 23 = .ok (.ireturn, 1) := by decide +kernel
theorem dX8_sumOf_0 : decode cX8_sumOf 0 = .ok (.iconst 0, 1) := by decide +kernel
theorem dX8_sumOf_1 : decode cX8_sumOf 1 = .ok (.istore_n 2, 1) := by decide +kernel
theorem dX8_sumOf_2 : decode cX8_sumOf 2 = .ok (.iconst 0, 1) := by decide +kernel
theorem dX8_sumOf_3 : decode cX8_sumOf 3 = .ok (.istore_n 3, 1) := by decide +kernel
theorem dX8_sumOf_4 : decode cX8_sumOf 4 = .ok (.iload_n 3, 1) := by decide +kernel
theorem dX8_sumOf_5 : decode cX8_sumOf 5 = .ok (.iload_n 1, 1) := by decide +kernel
theorem dX8_sumOf_6 : decode cX8_sumOf 6 = .ok (.if_icmp .ge 15, 3) := by decide +kernel
theorem dX8_sumOf_9 : decode cX8_sumOf 9 = .ok (.iload_n 2, 1) := by decide +kernel
theorem dX8_sumOf_10 : decode cX8_sumOf 10 = .ok (.aload_n 0, 1) := by decide +kernel
theorem dX8_sumOf_11 : decode cX8_sumOf 11 = .ok (.iload_n 3, 1) := by decide +kernel
theorem dX8_sumOf_12 : decode cX8_sumOf 12 = .ok (.iaload, 1) := by decide +kernel
theorem dX8_sumOf_13 : decode cX8_sumOf 13 = .ok (.iadd, 1) := by decide +kernel
theorem dX8_sumOf_14 : decode cX8_sumOf 14 = .ok (.istore_n 2, 1) := by decide +kernel
theorem dX8_sumOf_15 : decode cX8_sumOf 15 = .ok (.iinc 3 1, 3) := by decide +kernel
theorem dX8_sumOf_18 : decode cX8_sumOf 18 = .ok (.goto (-14), 3) := by decide +kernel
theorem dX8_sumOf_21 : decode cX8_sumOf 21 = .ok (.iload_n 2, 1) := by decide +kernel
theorem dX8_sumOf_22 : decode cX8_sumOf 22 = .ok (.ireturn, 1) := by decide +kernel
theorem dX8_judge_0 : decode cX8_judge 0 = .ok (.aload_n 0, 1) := by decide +kernel
theorem dX8_judge_1 : decode cX8_judge 1 = .ok (.iload_n 1, 1) := by decide +kernel
theorem dX8_judge_2 : decode cX8_judge 2 = .ok (.invokevirtual 505, 3) := by decide +kernel
theorem dX8_judge_5 : decode cX8_judge 5 = .ok (.ifCond .eq 15, 3) := by decide +kernel
theorem dX8_judge_8 : decode cX8_judge 8 = .ok (.iload_n 2, 1) := by decide +kernel
theorem dX8_judge_9 : decode cX8_judge 9 = .ok (.i2l, 1) := by decide +kernel
theorem dX8_judge_10 : decode cX8_judge 10 = .ok (.lconst 1, 1) := by decide +kernel
theorem dX8_judge_11 : decode cX8_judge 11 = .ok (.ldc2_w 513, 3) := by decide +kernel
theorem dX8_judge_14 : decode cX8_judge 14 = .ok (.invokestatic 333, 3) := by decide +kernel
theorem dX8_judge_17 : decode cX8_judge 17 = .ok (.ifCond .ne 5, 3) := by decide +kernel
theorem dX8_judge_20 : decode cX8_judge 20 = .ok (.iconst (-1), 1) := by decide +kernel
theorem dX8_judge_21 : decode cX8_judge 21 = .ok (.ireturn, 1) := by decide +kernel
theorem dX8_judge_22 : decode cX8_judge 22 = .ok (.aload_n 0, 1) := by decide +kernel
theorem dX8_judge_23 : decode cX8_judge 23 = .ok (.iload_n 1, 1) := by decide +kernel
theorem dX8_judge_24 : decode cX8_judge 24 = .ok (.iload_n 2, 1) := by decide +kernel
theorem dX8_judge_25 : decode cX8_judge 25 = .ok (.invokevirtual 528, 3) := by decide +kernel
theorem dX8_judge_28 : decode cX8_judge 28 = .ok (.iload_n 3, 1) := by decide +kernel
theorem dX8_judge_29 : decode cX8_judge 29 = .ok (.tableswitch 72 0 3 #[31, 43, 55, 67], 31) := by decide +kernel
theorem dX8_judge_60 : decode cX8_judge 60 = .ok (.aload_n 0, 1) := by decide +kernel
theorem dX8_judge_61 : decode cX8_judge 61 = .ok (.getfield 154, 3) := by decide +kernel
theorem dX8_judge_64 : decode cX8_judge 64 = .ok (.aload_n 0, 1) := by decide +kernel
theorem dX8_judge_65 : decode cX8_judge 65 = .ok (.invokevirtual 431, 3) := by decide +kernel
theorem dX8_judge_68 : decode cX8_judge 68 = .ok (.invokestatic 531, 3) := by decide +kernel
theorem dX8_judge_71 : decode cX8_judge 71 = .ok (.ireturn, 1) := by decide +kernel
theorem dX8_judge_72 : decode cX8_judge 72 = .ok (.aload_n 0, 1) := by decide +kernel
theorem dX8_judge_73 : decode cX8_judge 73 = .ok (.getfield 151, 3) := by decide +kernel
theorem dX8_judge_76 : decode cX8_judge 76 = .ok (.aload_n 0, 1) := by decide +kernel
theorem dX8_judge_77 : decode cX8_judge 77 = .ok (.invokevirtual 431, 3) := by decide +kernel
theorem dX8_judge_80 : decode cX8_judge 80 = .ok (.invokestatic 535, 3) := by decide +kernel
theorem dX8_judge_83 : decode cX8_judge 83 = .ok (.ireturn, 1) := by decide +kernel
theorem dX8_judge_84 : decode cX8_judge 84 = .ok (.aload_n 0, 1) := by decide +kernel
theorem dX8_judge_85 : decode cX8_judge 85 = .ok (.getfield 154, 3) := by decide +kernel
theorem dX8_judge_88 : decode cX8_judge 88 = .ok (.aload_n 0, 1) := by decide +kernel
theorem dX8_judge_89 : decode cX8_judge 89 = .ok (.invokevirtual 431, 3) := by decide +kernel
theorem dX8_judge_92 : decode cX8_judge 92 = .ok (.invokestatic 535, 3) := by decide +kernel
theorem dX8_judge_95 : decode cX8_judge 95 = .ok (.ireturn, 1) := by decide +kernel
theorem dX8_judge_96 : decode cX8_judge 96 = .ok (.aload_n 0, 1) := by decide +kernel
theorem dX8_judge_97 : decode cX8_judge 97 = .ok (.getfield 519, 3) := by decide +kernel
theorem dX8_judge_100 : decode cX8_judge 100 = .ok (.ireturn, 1) := by decide +kernel
theorem dX8_judge_101 : decode cX8_judge 101 = .ok (.iconst (-1), 1) := by decide +kernel
theorem dX8_judge_102 : decode cX8_judge 102 = .ok (.ireturn, 1) := by decide +kernel
theorem dX8_has_0 : decode cX8_has 0 = .ok (.iload_n 1, 1) := by decide +kernel
theorem dX8_has_1 : decode cX8_has 1 = .ok (.tableswitch 102 0 11 #[63, 68, 73, 78, 78, 78, 78, 78, 78, 86, 92, 97], 63) := by decide +kernel
theorem dX8_has_64 : decode cX8_has 64 = .ok (.aload_n 0, 1) := by decide +kernel
theorem dX8_has_65 : decode cX8_has 65 = .ok (.invokevirtual 438, 3) := by decide +kernel
theorem dX8_has_68 : decode cX8_has 68 = .ok (.ireturn, 1) := by decide +kernel
theorem dX8_has_69 : decode cX8_has 69 = .ok (.aload_n 0, 1) := by decide +kernel
theorem dX8_has_70 : decode cX8_has 70 = .ok (.invokevirtual 431, 3) := by decide +kernel
theorem dX8_has_73 : decode cX8_has 73 = .ok (.ireturn, 1) := by decide +kernel
theorem dX8_has_74 : decode cX8_has 74 = .ok (.aload_n 0, 1) := by decide +kernel
theorem dX8_has_75 : decode cX8_has 75 = .ok (.invokevirtual 499, 3) := by decide +kernel
theorem dX8_has_78 : decode cX8_has 78 = .ok (.ireturn, 1) := by decide +kernel
theorem dX8_has_79 : decode cX8_has 79 = .ok (.aload_n 0, 1) := by decide +kernel
theorem dX8_has_80 : decode cX8_has 80 = .ok (.iload_n 1, 1) := by decide +kernel
theorem dX8_has_81 : decode cX8_has 81 = .ok (.iconst 3, 1) := by decide +kernel
theorem dX8_has_82 : decode cX8_has 82 = .ok (.isub, 1) := by decide +kernel
theorem dX8_has_83 : decode cX8_has 83 = .ok (.invokevirtual 461, 3) := by decide +kernel
theorem dX8_has_86 : decode cX8_has 86 = .ok (.ireturn, 1) := by decide +kernel
theorem dX8_has_87 : decode cX8_has 87 = .ok (.aload_n 0, 1) := by decide +kernel
theorem dX8_has_88 : decode cX8_has 88 = .ok (.iconst 0, 1) := by decide +kernel
theorem dX8_has_89 : decode cX8_has 89 = .ok (.invokevirtual 538, 3) := by decide +kernel
theorem dX8_has_92 : decode cX8_has 92 = .ok (.ireturn, 1) := by decide +kernel
theorem dX8_has_93 : decode cX8_has 93 = .ok (.aload_n 0, 1) := by decide +kernel
theorem dX8_has_94 : decode cX8_has 94 = .ok (.getfield 428, 3) := by decide +kernel
theorem dX8_has_97 : decode cX8_has 97 = .ok (.ireturn, 1) := by decide +kernel
theorem dX8_has_98 : decode cX8_has 98 = .ok (.aload_n 0, 1) := by decide +kernel
theorem dX8_has_99 : decode cX8_has 99 = .ok (.getfield 425, 3) := by decide +kernel
theorem dX8_has_102 : decode cX8_has 102 = .ok (.ireturn, 1) := by decide +kernel
theorem dX8_has_103 : decode cX8_has 103 = .ok (.iconst (-1), 1) := by decide +kernel
theorem dX8_has_104 : decode cX8_has 104 = .ok (.ireturn, 1) := by decide +kernel
theorem dX8_letter_0 : decode cX8_letter 0 = .ok (.iload_n 1, 1) := by decide +kernel
theorem dX8_letter_1 : decode cX8_letter 1 = .ok (.i2l, 1) := by decide +kernel
theorem dX8_letter_2 : decode cX8_letter 2 = .ok (.lconst 0, 1) := by decide +kernel
theorem dX8_letter_3 : decode cX8_letter 3 = .ok (.lconst 1, 1) := by decide +kernel
theorem dX8_letter_4 : decode cX8_letter 4 = .ok (.invokestatic 333, 3) := by decide +kernel
theorem dX8_letter_7 : decode cX8_letter 7 = .ok (.ifCond .eq 35, 3) := by decide +kernel
theorem dX8_letter_10 : decode cX8_letter 10 = .ok (.iload_n 2, 1) := by decide +kernel
theorem dX8_letter_11 : decode cX8_letter 11 = .ok (.i2l, 1) := by decide +kernel
theorem dX8_letter_12 : decode cX8_letter 12 = .ok (.lconst 0, 1) := by decide +kernel
theorem dX8_letter_13 : decode cX8_letter 13 = .ok (.aload_n 0, 1) := by decide +kernel
theorem dX8_letter_14 : decode cX8_letter 14 = .ok (.getfield 111, 3) := by decide +kernel
theorem dX8_letter_17 : decode cX8_letter 17 = .ok (.iconst 4, 1) := by decide +kernel
theorem dX8_letter_18 : decode cX8_letter 18 = .ok (.iload_n 1, 1) := by decide +kernel
theorem dX8_letter_19 : decode cX8_letter 19 = .ok (.iadd, 1) := by decide +kernel
theorem dX8_letter_20 : decode cX8_letter 20 = .ok (.iaload, 1) := by decide +kernel
theorem dX8_letter_21 : decode cX8_letter 21 = .ok (.iconst 1, 1) := by decide +kernel
theorem dX8_letter_22 : decode cX8_letter 22 = .ok (.isub, 1) := by decide +kernel
theorem dX8_letter_23 : decode cX8_letter 23 = .ok (.i2l, 1) := by decide +kernel
theorem dX8_letter_24 : decode cX8_letter 24 = .ok (.invokestatic 333, 3) := by decide +kernel
theorem dX8_letter_27 : decode cX8_letter 27 = .ok (.ifCond .eq 15, 3) := by decide +kernel
theorem dX8_letter_30 : decode cX8_letter 30 = .ok (.iload_n 3, 1) := by decide +kernel
theorem dX8_letter_31 : decode cX8_letter 31 = .ok (.i2l, 1) := by decide +kernel
theorem dX8_letter_32 : decode cX8_letter 32 = .ok (.lconst 0, 1) := by decide +kernel
theorem dX8_letter_33 : decode cX8_letter 33 = .ok (.ldc2_w 541, 3) := by decide +kernel
theorem dX8_letter_36 : decode cX8_letter 36 = .ok (.invokestatic 333, 3) := by decide +kernel
theorem dX8_letter_39 : decode cX8_letter 39 = .ok (.ifCond .ne 5, 3) := by decide +kernel
theorem dX8_letter_42 : decode cX8_letter 42 = .ok (.iconst (-1), 1) := by decide +kernel
theorem dX8_letter_43 : decode cX8_letter 43 = .ok (.ireturn, 1) := by decide +kernel
theorem dX8_letter_44 : decode cX8_letter 44 = .ok (.aload_n 0, 1) := by decide +kernel
theorem dX8_letter_45 : decode cX8_letter 45 = .ok (.getfield 114, 3) := by decide +kernel
theorem dX8_letter_48 : decode cX8_letter 48 = .ok (.bipush 20, 2) := by decide +kernel
theorem dX8_letter_50 : decode cX8_letter 50 = .ok (.bipush 10, 2) := by decide +kernel
theorem dX8_letter_52 : decode cX8_letter 52 = .ok (.iload_n 1, 1) := by decide +kernel
theorem dX8_letter_53 : decode cX8_letter 53 = .ok (.imul, 1) := by decide +kernel
theorem dX8_letter_54 : decode cX8_letter 54 = .ok (.iadd, 1) := by decide +kernel
theorem dX8_letter_55 : decode cX8_letter 55 = .ok (.iload_n 2, 1) := by decide +kernel
theorem dX8_letter_56 : decode cX8_letter 56 = .ok (.iadd, 1) := by decide +kernel
theorem dX8_letter_57 : decode cX8_letter 57 = .ok (.laload, 1) := by decide +kernel
theorem dX8_letter_58 : decode cX8_letter 58 = .ok (.lstore 4, 2) := by decide +kernel
theorem dX8_letter_60 : decode cX8_letter 60 = .ok (.iconst 0, 1) := by decide +kernel
theorem dX8_letter_61 : decode cX8_letter 61 = .ok (.istore 6, 2) := by decide +kernel
theorem dX8_letter_63 : decode cX8_letter 63 = .ok (.lload 4, 2) := by decide +kernel
theorem dX8_letter_65 : decode cX8_letter 65 = .ok (.lstore 7, 2) := by decide +kernel
theorem dX8_letter_67 : decode cX8_letter 67 = .ok (.lload 7, 2) := by decide +kernel
theorem dX8_letter_69 : decode cX8_letter 69 = .ok (.lconst 0, 1) := by decide +kernel
theorem dX8_letter_70 : decode cX8_letter 70 = .ok (.lcmp, 1) := by decide +kernel
theorem dX8_letter_71 : decode cX8_letter 71 = .ok (.ifCond .le 17, 3) := by decide +kernel
theorem dX8_letter_74 : decode cX8_letter 74 = .ok (.iinc 6 1, 3) := by decide +kernel
theorem dX8_letter_77 : decode cX8_letter 77 = .ok (.lload 7, 2) := by decide +kernel
theorem dX8_letter_79 : decode cX8_letter 79 = .ok (.ldc2_w 344, 3) := by decide +kernel
theorem dX8_letter_82 : decode cX8_letter 82 = .ok (.ldiv, 1) := by decide +kernel
theorem dX8_letter_83 : decode cX8_letter 83 = .ok (.lstore 7, 2) := by decide +kernel
theorem dX8_letter_85 : decode cX8_letter 85 = .ok (.goto (-18), 3) := by decide +kernel
theorem dX8_letter_88 : decode cX8_letter 88 = .ok (.iload_n 3, 1) := by decide +kernel
theorem dX8_letter_89 : decode cX8_letter 89 = .ok (.iload 6, 2) := by decide +kernel
theorem dX8_letter_91 : decode cX8_letter 91 = .ok (.if_icmp .lt 5, 3) := by decide +kernel
theorem dX8_letter_94 : decode cX8_letter 94 = .ok (.iconst 0, 1) := by decide +kernel
theorem dX8_letter_95 : decode cX8_letter 95 = .ok (.ireturn, 1) := by decide +kernel
theorem dX8_letter_96 : decode cX8_letter 96 = .ok (.iload 6, 2) := by decide +kernel
theorem dX8_letter_98 : decode cX8_letter 98 = .ok (.iconst 1, 1) := by decide +kernel
theorem dX8_letter_99 : decode cX8_letter 99 = .ok (.isub, 1) := by decide +kernel
theorem dX8_letter_100 : decode cX8_letter 100 = .ok (.istore 7, 2) := by decide +kernel
theorem dX8_letter_102 : decode cX8_letter 102 = .ok (.iload 7, 2) := by decide +kernel
theorem dX8_letter_104 : decode cX8_letter 104 = .ok (.iload_n 3, 1) := by decide +kernel
theorem dX8_letter_105 : decode cX8_letter 105 = .ok (.if_icmp .le 17, 3) := by decide +kernel
theorem dX8_letter_108 : decode cX8_letter 108 = .ok (.lload 4, 2) := by decide +kernel
theorem dX8_letter_110 : decode cX8_letter 110 = .ok (.ldc2_w 344, 3) := by decide +kernel
theorem dX8_letter_113 : decode cX8_letter 113 = .ok (.ldiv, 1) := by decide +kernel
theorem dX8_letter_114 : decode cX8_letter 114 = .ok (.lstore 4, 2) := by decide +kernel
theorem dX8_letter_116 : decode cX8_letter 116 = .ok (.iinc 7 (-1), 3) := by decide +kernel
theorem dX8_letter_119 : decode cX8_letter 119 = .ok (.goto (-17), 3) := by decide +kernel
theorem dX8_letter_122 : decode cX8_letter 122 = .ok (.lload 4, 2) := by decide +kernel
theorem dX8_letter_124 : decode cX8_letter 124 = .ok (.ldc2_w 344, 3) := by decide +kernel
theorem dX8_letter_127 : decode cX8_letter 127 = .ok (.lrem, 1) := by decide +kernel
theorem dX8_letter_128 : decode cX8_letter 128 = .ok (.l2i, 1) := by decide +kernel
theorem dX8_letter_129 : decode cX8_letter 129 = .ok (.ireturn, 1) := by decide +kernel
theorem dX8_bobbin_0 : decode cX8_bobbin 0 = .ok (.iload_n 1, 1) := by decide +kernel
theorem dX8_bobbin_1 : decode cX8_bobbin 1 = .ok (.i2l, 1) := by decide +kernel
theorem dX8_bobbin_2 : decode cX8_bobbin 2 = .ok (.lconst 0, 1) := by decide +kernel
theorem dX8_bobbin_3 : decode cX8_bobbin 3 = .ok (.aload_n 0, 1) := by decide +kernel
theorem dX8_bobbin_4 : decode cX8_bobbin 4 = .ok (.invokevirtual 438, 3) := by decide +kernel
theorem dX8_bobbin_7 : decode cX8_bobbin 7 = .ok (.iconst 1, 1) := by decide +kernel
theorem dX8_bobbin_8 : decode cX8_bobbin 8 = .ok (.isub, 1) := by decide +kernel
theorem dX8_bobbin_9 : decode cX8_bobbin 9 = .ok (.i2l, 1) := by decide +kernel
theorem dX8_bobbin_10 : decode cX8_bobbin 10 = .ok (.invokestatic 333, 3) := by decide +kernel
theorem dX8_bobbin_13 : decode cX8_bobbin 13 = .ok (.ifCond .ne 5, 3) := by decide +kernel
theorem dX8_bobbin_16 : decode cX8_bobbin 16 = .ok (.iconst (-1), 1) := by decide +kernel
theorem dX8_bobbin_17 : decode cX8_bobbin 17 = .ok (.ireturn, 1) := by decide +kernel
theorem dX8_bobbin_18 : decode cX8_bobbin 18 = .ok (.iload_n 2, 1) := by decide +kernel
theorem dX8_bobbin_19 : decode cX8_bobbin 19 = .ok (.ifCond .ne 15, 3) := by decide +kernel
theorem dX8_bobbin_22 : decode cX8_bobbin 22 = .ok (.aload_n 0, 1) := by decide +kernel
theorem dX8_bobbin_23 : decode cX8_bobbin 23 = .ok (.getfield 118, 3) := by decide +kernel
theorem dX8_bobbin_26 : decode cX8_bobbin 26 = .ok (.bipush 6, 2) := by decide +kernel
theorem dX8_bobbin_28 : decode cX8_bobbin 28 = .ok (.iload_n 1, 1) := by decide +kernel
theorem dX8_bobbin_29 : decode cX8_bobbin 29 = .ok (.iadd, 1) := by decide +kernel
theorem dX8_bobbin_30 : decode cX8_bobbin 30 = .ok (.iaload, 1) := by decide +kernel
theorem dX8_bobbin_31 : decode cX8_bobbin 31 = .ok (.goto 21, 3) := by decide +kernel
theorem dX8_bobbin_34 : decode cX8_bobbin 34 = .ok (.iload_n 2, 1) := by decide +kernel
theorem dX8_bobbin_35 : decode cX8_bobbin 35 = .ok (.iconst 1, 1) := by decide +kernel
theorem dX8_bobbin_36 : decode cX8_bobbin 36 = .ok (.if_icmp .ne 15, 3) := by decide +kernel
theorem dX8_bobbin_39 : decode cX8_bobbin 39 = .ok (.aload_n 0, 1) := by decide +kernel
theorem dX8_bobbin_40 : decode cX8_bobbin 40 = .ok (.getfield 121, 3) := by decide +kernel
theorem dX8_bobbin_43 : decode cX8_bobbin 43 = .ok (.bipush 6, 2) := by decide +kernel
theorem dX8_bobbin_45 : decode cX8_bobbin 45 = .ok (.iload_n 1, 1) := by decide +kernel
theorem dX8_bobbin_46 : decode cX8_bobbin 46 = .ok (.iadd, 1) := by decide +kernel
theorem dX8_bobbin_47 : decode cX8_bobbin 47 = .ok (.iaload, 1) := by decide +kernel
theorem dX8_bobbin_48 : decode cX8_bobbin 48 = .ok (.goto 4, 3) := by decide +kernel
theorem dX8_bobbin_51 : decode cX8_bobbin 51 = .ok (.iconst (-1), 1) := by decide +kernel
theorem dX8_bobbin_52 : decode cX8_bobbin 52 = .ok (.ireturn, 1) := by decide +kernel
theorem dX8_seam_0 : decode cX8_seam 0 = .ok (.iload_n 1, 1) := by decide +kernel
theorem dX8_seam_1 : decode cX8_seam 1 = .ok (.i2l, 1) := by decide +kernel
theorem dX8_seam_2 : decode cX8_seam 2 = .ok (.lconst 0, 1) := by decide +kernel
theorem dX8_seam_3 : decode cX8_seam 3 = .ok (.aload_n 0, 1) := by decide +kernel
theorem dX8_seam_4 : decode cX8_seam 4 = .ok (.invokevirtual 431, 3) := by decide +kernel
theorem dX8_seam_7 : decode cX8_seam 7 = .ok (.iconst 1, 1) := by decide +kernel
theorem dX8_seam_8 : decode cX8_seam 8 = .ok (.isub, 1) := by decide +kernel
theorem dX8_seam_9 : decode cX8_seam 9 = .ok (.i2l, 1) := by decide +kernel
theorem dX8_seam_10 : decode cX8_seam 10 = .ok (.invokestatic 333, 3) := by decide +kernel
theorem dX8_seam_13 : decode cX8_seam 13 = .ok (.ifCond .ne 5, 3) := by decide +kernel
theorem dX8_seam_16 : decode cX8_seam 16 = .ok (.iconst (-1), 1) := by decide +kernel
theorem dX8_seam_17 : decode cX8_seam 17 = .ok (.ireturn, 1) := by decide +kernel
theorem dX8_seam_18 : decode cX8_seam 18 = .ok (.iload_n 2, 1) := by decide +kernel
theorem dX8_seam_19 : decode cX8_seam 19 = .ok (.i2l, 1) := by decide +kernel
theorem dX8_seam_20 : decode cX8_seam 20 = .ok (.ldc2_w 543, 3) := by decide +kernel
theorem dX8_seam_23 : decode cX8_seam 23 = .ok (.bipush 9, 2) := by decide +kernel
theorem dX8_seam_25 : decode cX8_seam 25 = .ok (.aload_n 0, 1) := by decide +kernel
theorem dX8_seam_26 : decode cX8_seam 26 = .ok (.iload_n 1, 1) := by decide +kernel
theorem dX8_seam_27 : decode cX8_seam 27 = .ok (.invokevirtual 545, 3) := by decide +kernel
theorem dX8_seam_30 : decode cX8_seam 30 = .ok (.iadd, 1) := by decide +kernel
theorem dX8_seam_31 : decode cX8_seam 31 = .ok (.i2l, 1) := by decide +kernel
theorem dX8_seam_32 : decode cX8_seam 32 = .ok (.invokestatic 333, 3) := by decide +kernel
theorem dX8_seam_35 : decode cX8_seam 35 = .ok (.ifCond .eq 13, 3) := by decide +kernel
theorem dX8_seam_38 : decode cX8_seam 38 = .ok (.aload_n 0, 1) := by decide +kernel
theorem dX8_seam_39 : decode cX8_seam 39 = .ok (.iload_n 1, 1) := by decide +kernel
theorem dX8_seam_40 : decode cX8_seam 40 = .ok (.iload_n 2, 1) := by decide +kernel
theorem dX8_seam_41 : decode cX8_seam 41 = .ok (.bipush 10, 2) := by decide +kernel
theorem dX8_seam_43 : decode cX8_seam 43 = .ok (.isub, 1) := by decide +kernel
theorem dX8_seam_44 : decode cX8_seam 44 = .ok (.invokevirtual 548, 3) := by decide +kernel
theorem dX8_seam_47 : decode cX8_seam 47 = .ok (.ireturn, 1) := by decide +kernel
theorem dX8_seam_48 : decode cX8_seam 48 = .ok (.iload_n 2, 1) := by decide +kernel
theorem dX8_seam_49 : decode cX8_seam 49 = .ok (.i2l, 1) := by decide +kernel
theorem dX8_seam_50 : decode cX8_seam 50 = .ok (.lconst 0, 1) := by decide +kernel
theorem dX8_seam_51 : decode cX8_seam 51 = .ok (.ldc2_w 526, 3) := by decide +kernel
theorem dX8_seam_54 : decode cX8_seam 54 = .ok (.invokestatic 333, 3) := by decide +kernel
theorem dX8_seam_57 : decode cX8_seam 57 = .ok (.ifCond .eq 20, 3) := by decide +kernel
theorem dX8_seam_60 : decode cX8_seam 60 = .ok (.aload_n 0, 1) := by decide +kernel
theorem dX8_seam_61 : decode cX8_seam 61 = .ok (.getfield 124, 3) := by decide +kernel
theorem dX8_seam_64 : decode cX8_seam 64 = .ok (.bipush 70, 2) := by decide +kernel
theorem dX8_seam_66 : decode cX8_seam 66 = .ok (.bipush 7, 2) := by decide +kernel
theorem dX8_seam_68 : decode cX8_seam 68 = .ok (.iload_n 1, 1) := by decide +kernel
theorem dX8_seam_69 : decode cX8_seam 69 = .ok (.imul, 1) := by decide +kernel
theorem dX8_seam_70 : decode cX8_seam 70 = .ok (.iadd, 1) := by decide +kernel
theorem dX8_seam_71 : decode cX8_seam 71 = .ok (.iload_n 2, 1) := by decide +kernel
theorem dX8_seam_72 : decode cX8_seam 72 = .ok (.iadd, 1) := by decide +kernel
theorem dX8_seam_73 : decode cX8_seam 73 = .ok (.iaload, 1) := by decide +kernel
theorem dX8_seam_74 : decode cX8_seam 74 = .ok (.goto 4, 3) := by decide +kernel
theorem dX8_seam_77 : decode cX8_seam 77 = .ok (.iconst (-1), 1) := by decide +kernel
theorem dX8_seam_78 : decode cX8_seam 78 = .ok (.ireturn, 1) := by decide +kernel
theorem dX8_packs_0 : decode cX8_packs 0 = .ok (.aload_n 0, 1) := by decide +kernel
theorem dX8_packs_1 : decode cX8_packs 1 = .ok (.iconst 0, 1) := by decide +kernel
theorem dX8_packs_2 : decode cX8_packs 2 = .ok (.putfield 551, 3) := by decide +kernel
theorem dX8_packs_5 : decode cX8_packs 5 = .ok (.iload_n 1, 1) := by decide +kernel
theorem dX8_packs_6 : decode cX8_packs 6 = .ok (.istore_n 2, 1) := by decide +kernel
theorem dX8_packs_7 : decode cX8_packs 7 = .ok (.iconst 0, 1) := by decide +kernel
theorem dX8_packs_8 : decode cX8_packs 8 = .ok (.istore_n 3, 1) := by decide +kernel
theorem dX8_packs_9 : decode cX8_packs 9 = .ok (.iload_n 3, 1) := by decide +kernel
theorem dX8_packs_10 : decode cX8_packs 10 = .ok (.aload_n 0, 1) := by decide +kernel
theorem dX8_packs_11 : decode cX8_packs 11 = .ok (.invokevirtual 431, 3) := by decide +kernel
theorem dX8_packs_14 : decode cX8_packs 14 = .ok (.if_icmp .ge 86, 3) := by decide +kernel
theorem dX8_packs_17 : decode cX8_packs 17 = .ok (.aload_n 0, 1) := by decide +kernel
theorem dX8_packs_18 : decode cX8_packs 18 = .ok (.iload_n 3, 1) := by decide +kernel
theorem dX8_packs_19 : decode cX8_packs 19 = .ok (.invokevirtual 434, 3) := by decide +kernel
theorem dX8_packs_22 : decode cX8_packs 22 = .ok (.iload_n 1, 1) := by decide +kernel
theorem dX8_packs_23 : decode cX8_packs 23 = .ok (.if_icmp .le 5, 3) := by decide +kernel
theorem dX8_packs_26 : decode cX8_packs 26 = .ok (.iconst 0, 1) := by decide +kernel
theorem dX8_packs_27 : decode cX8_packs 27 = .ok (.ireturn, 1) := by decide +kernel
theorem dX8_packs_28 : decode cX8_packs 28 = .ok (.iload_n 2, 1) := by decide +kernel
theorem dX8_packs_29 : decode cX8_packs 29 = .ok (.aload_n 0, 1) := by decide +kernel
theorem dX8_packs_30 : decode cX8_packs 30 = .ok (.iload_n 3, 1) := by decide +kernel
theorem dX8_packs_31 : decode cX8_packs 31 = .ok (.invokevirtual 434, 3) := by decide +kernel
theorem dX8_packs_34 : decode cX8_packs 34 = .ok (.iadd, 1) := by decide +kernel
theorem dX8_packs_35 : decode cX8_packs 35 = .ok (.iload_n 1, 1) := by decide +kernel
theorem dX8_packs_36 : decode cX8_packs 36 = .ok (.if_icmp .le 7, 3) := by decide +kernel
theorem dX8_packs_39 : decode cX8_packs 39 = .ok (.iconst 1, 1) := by decide +kernel
theorem dX8_packs_40 : decode cX8_packs 40 = .ok (.goto 4, 3) := by decide +kernel
theorem dX8_packs_43 : decode cX8_packs 43 = .ok (.iconst 0, 1) := by decide +kernel
theorem dX8_packs_44 : decode cX8_packs 44 = .ok (.istore 4, 2) := by decide +kernel
theorem dX8_packs_46 : decode cX8_packs 46 = .ok (.aload_n 0, 1) := by decide +kernel
theorem dX8_packs_47 : decode cX8_packs 47 = .ok (.getfield 157, 3) := by decide +kernel
theorem dX8_packs_50 : decode cX8_packs 50 = .ok (.iload_n 3, 1) := by decide +kernel
theorem dX8_packs_51 : decode cX8_packs 51 = .ok (.iload 4, 2) := by decide +kernel
theorem dX8_packs_53 : decode cX8_packs 53 = .ok (.ifCond .eq 7, 3) := by decide +kernel
theorem dX8_packs_56 : decode cX8_packs 56 = .ok (.iconst 1, 1) := by decide +kernel
theorem dX8_packs_57 : decode cX8_packs 57 = .ok (.goto 4, 3) := by decide +kernel
theorem dX8_packs_60 : decode cX8_packs 60 = .ok (.iconst 0, 1) := by decide +kernel
theorem dX8_packs_61 : decode cX8_packs 61 = .ok (.iastore, 1) := by decide +kernel
theorem dX8_packs_62 : decode cX8_packs 62 = .ok (.iload 4, 2) := by decide +kernel
theorem dX8_packs_64 : decode cX8_packs 64 = .ok (.ifCond .eq 13, 3) := by decide +kernel
theorem dX8_packs_67 : decode cX8_packs 67 = .ok (.aload_n 0, 1) := by decide +kernel
theorem dX8_packs_68 : decode cX8_packs 68 = .ok (.dup, 1) := by decide +kernel
theorem dX8_packs_69 : decode cX8_packs 69 = .ok (.getfield 551, 3) := by decide +kernel
theorem dX8_packs_72 : decode cX8_packs 72 = .ok (.iconst 1, 1) := by decide +kernel
theorem dX8_packs_73 : decode cX8_packs 73 = .ok (.iadd, 1) := by decide +kernel
theorem dX8_packs_74 : decode cX8_packs 74 = .ok (.putfield 551, 3) := by decide +kernel
theorem dX8_packs_77 : decode cX8_packs 77 = .ok (.iload 4, 2) := by decide +kernel
theorem dX8_packs_79 : decode cX8_packs 79 = .ok (.ifCond .eq 7, 3) := by decide +kernel
theorem dX8_packs_82 : decode cX8_packs 82 = .ok (.iconst 0, 1) := by decide +kernel
theorem dX8_packs_83 : decode cX8_packs 83 = .ok (.goto 4, 3) := by decide +kernel
theorem dX8_packs_86 : decode cX8_packs 86 = .ok (.iload_n 2, 1) := by decide +kernel
theorem dX8_packs_87 : decode cX8_packs 87 = .ok (.aload_n 0, 1) := by decide +kernel
theorem dX8_packs_88 : decode cX8_packs 88 = .ok (.iload_n 3, 1) := by decide +kernel
theorem dX8_packs_89 : decode cX8_packs 89 = .ok (.invokevirtual 434, 3) := by decide +kernel
theorem dX8_packs_92 : decode cX8_packs 92 = .ok (.iadd, 1) := by decide +kernel
theorem dX8_packs_93 : decode cX8_packs 93 = .ok (.istore_n 2, 1) := by decide +kernel
theorem dX8_packs_94 : decode cX8_packs 94 = .ok (.iinc 3 1, 3) := by decide +kernel
theorem dX8_packs_97 : decode cX8_packs 97 = .ok (.goto (-88), 3) := by decide +kernel
theorem dX8_packs_100 : decode cX8_packs 100 = .ok (.iconst 1, 1) := by decide +kernel
theorem dX8_packs_101 : decode cX8_packs 101 = .ok (.ireturn, 1) := by decide +kernel
theorem dX8_isAsked_0 : decode cX8_isAsked 0 = .ok (.aload_n 0, 1) := by decide +kernel
theorem dX8_isAsked_1 : decode cX8_isAsked 1 = .ok (.getfield 422, 3) := by decide +kernel
theorem dX8_isAsked_4 : decode cX8_isAsked 4 = .ok (.ifCond .eq 40, 3) := by decide +kernel
theorem dX8_isAsked_7 : decode cX8_isAsked 7 = .ok (.iload_n 1, 1) := by decide +kernel
theorem dX8_isAsked_8 : decode cX8_isAsked 8 = .ok (.i2l, 1) := by decide +kernel
theorem dX8_isAsked_9 : decode cX8_isAsked 9 = .ok (.lconst 1, 1) := by decide +kernel
theorem dX8_isAsked_10 : decode cX8_isAsked 10 = .ok (.ldc2_w 513, 3) := by decide +kernel
theorem dX8_isAsked_13 : decode cX8_isAsked 13 = .ok (.invokestatic 333, 3) := by decide +kernel
theorem dX8_isAsked_16 : decode cX8_isAsked 16 = .ok (.ifCond .eq 28, 3) := by decide +kernel
theorem dX8_isAsked_19 : decode cX8_isAsked 19 = .ok (.iload_n 2, 1) := by decide +kernel
theorem dX8_isAsked_20 : decode cX8_isAsked 20 = .ok (.iconst (-1), 1) := by decide +kernel
theorem dX8_isAsked_21 : decode cX8_isAsked 21 = .ok (.if_icmp .eq 19, 3) := by decide +kernel
theorem dX8_isAsked_24 : decode cX8_isAsked 24 = .ok (.iload_n 2, 1) := by decide +kernel
theorem dX8_isAsked_25 : decode cX8_isAsked 25 = .ok (.i2l, 1) := by decide +kernel
theorem dX8_isAsked_26 : decode cX8_isAsked 26 = .ok (.lconst 0, 1) := by decide +kernel
theorem dX8_isAsked_27 : decode cX8_isAsked 27 = .ok (.aload_n 0, 1) := by decide +kernel
theorem dX8_isAsked_28 : decode cX8_isAsked 28 = .ok (.invokevirtual 431, 3) := by decide +kernel
theorem dX8_isAsked_31 : decode cX8_isAsked 31 = .ok (.iconst 1, 1) := by decide +kernel
theorem dX8_isAsked_32 : decode cX8_isAsked 32 = .ok (.isub, 1) := by decide +kernel
theorem dX8_isAsked_33 : decode cX8_isAsked 33 = .ok (.i2l, 1) := by decide +kernel
theorem dX8_isAsked_34 : decode cX8_isAsked 34 = .ok (.invokestatic 333, 3) := by decide +kernel
theorem dX8_isAsked_37 : decode cX8_isAsked 37 = .ok (.ifCond .eq 7, 3) := by decide +kernel
theorem dX8_isAsked_40 : decode cX8_isAsked 40 = .ok (.iconst 1, 1) := by decide +kernel
theorem dX8_isAsked_41 : decode cX8_isAsked 41 = .ok (.goto 4, 3) := by decide +kernel
theorem dX8_isAsked_44 : decode cX8_isAsked 44 = .ok (.iconst 0, 1) := by decide +kernel
theorem dX8_isAsked_45 : decode cX8_isAsked 45 = .ok (.ireturn, 1) := by decide +kernel
theorem dX8_fewest_0 : decode cX8_fewest 0 = .ok (.aload_n 0, 1) := by decide +kernel
theorem dX8_fewest_1 : decode cX8_fewest 1 = .ok (.iload_n 1, 1) := by decide +kernel
theorem dX8_fewest_2 : decode cX8_fewest 2 = .ok (.iload_n 2, 1) := by decide +kernel
theorem dX8_fewest_3 : decode cX8_fewest 3 = .ok (.invokevirtual 554, 3) := by decide +kernel
theorem dX8_fewest_6 : decode cX8_fewest 6 = .ok (.ifCond .eq 11, 3) := by decide +kernel
theorem dX8_fewest_9 : decode cX8_fewest 9 = .ok (.aload_n 0, 1) := by decide +kernel
theorem dX8_fewest_10 : decode cX8_fewest 10 = .ok (.iload_n 1, 1) := by decide +kernel
theorem dX8_fewest_11 : decode cX8_fewest 11 = .ok (.invokevirtual 557, 3) := by decide +kernel
theorem dX8_fewest_14 : decode cX8_fewest 14 = .ok (.ifCond .ne 5, 3) := by decide +kernel
theorem dX8_fewest_17 : decode cX8_fewest 17 = .ok (.iconst (-1), 1) := by decide +kernel
theorem dX8_fewest_18 : decode cX8_fewest 18 = .ok (.ireturn, 1) := by decide +kernel
theorem dX8_fewest_19 : decode cX8_fewest 19 = .ok (.iload_n 2, 1) := by decide +kernel
theorem dX8_fewest_20 : decode cX8_fewest 20 = .ok (.iconst (-1), 1) := by decide +kernel
theorem dX8_fewest_21 : decode cX8_fewest 21 = .ok (.if_icmp .ne 10, 3) := by decide +kernel
theorem dX8_fewest_24 : decode cX8_fewest 24 = .ok (.aload_n 0, 1) := by decide +kernel
theorem dX8_fewest_25 : decode cX8_fewest 25 = .ok (.getfield 551, 3) := by decide +kernel
theorem dX8_fewest_28 : decode cX8_fewest 28 = .ok (.goto 9, 3) := by decide +kernel
theorem dX8_fewest_31 : decode cX8_fewest 31 = .ok (.aload_n 0, 1) := by decide +kernel
theorem dX8_fewest_32 : decode cX8_fewest 32 = .ok (.getfield 157, 3) := by decide +kernel
theorem dX8_fewest_35 : decode cX8_fewest 35 = .ok (.iload_n 2, 1) := by decide +kernel
theorem dX8_fewest_36 : decode cX8_fewest 36 = .ok (.iaload, 1) := by decide +kernel
theorem dX8_fewest_37 : decode cX8_fewest 37 = .ok (.ireturn, 1) := by decide +kernel
theorem dX8_binsAhead_0 : decode cX8_binsAhead 0 = .ok (.iconst 0, 1) := by decide +kernel
theorem dX8_binsAhead_1 : decode cX8_binsAhead 1 = .ok (.istore_n 2, 1) := by decide +kernel
theorem dX8_binsAhead_2 : decode cX8_binsAhead 2 = .ok (.iconst 0, 1) := by decide +kernel
theorem dX8_binsAhead_3 : decode cX8_binsAhead 3 = .ok (.istore_n 3, 1) := by decide +kernel
theorem dX8_binsAhead_4 : decode cX8_binsAhead 4 = .ok (.iload_n 3, 1) := by decide +kernel
theorem dX8_binsAhead_5 : decode cX8_binsAhead 5 = .ok (.iload_n 1, 1) := by decide +kernel
theorem dX8_binsAhead_6 : decode cX8_binsAhead 6 = .ok (.if_icmp .ge 28, 3) := by decide +kernel
theorem dX8_binsAhead_9 : decode cX8_binsAhead 9 = .ok (.aload_n 0, 1) := by decide +kernel
theorem dX8_binsAhead_10 : decode cX8_binsAhead 10 = .ok (.getfield 160, 3) := by decide +kernel
theorem dX8_binsAhead_13 : decode cX8_binsAhead 13 = .ok (.iload_n 3, 1) := by decide +kernel
theorem dX8_binsAhead_14 : decode cX8_binsAhead 14 = .ok (.iaload, 1) := by decide +kernel
theorem dX8_binsAhead_15 : decode cX8_binsAhead 15 = .ok (.iload_n 2, 1) := by decide +kernel
theorem dX8_binsAhead_16 : decode cX8_binsAhead 16 = .ok (.if_icmp .lt 12, 3) := by decide +kernel
theorem dX8_binsAhead_19 : decode cX8_binsAhead 19 = .ok (.aload_n 0, 1) := by decide +kernel
theorem dX8_binsAhead_20 : decode cX8_binsAhead 20 = .ok (.getfield 160, 3) := by decide +kernel
theorem dX8_binsAhead_23 : decode cX8_binsAhead 23 = .ok (.iload_n 3, 1) := by decide +kernel
theorem dX8_binsAhead_24 : decode cX8_binsAhead 24 = .ok (.iaload, 1) := by decide +kernel
theorem dX8_binsAhead_25 : decode cX8_binsAhead 25 = .ok (.iconst 1, 1) := by decide +kernel
theorem dX8_binsAhead_26 : decode cX8_binsAhead 26 = .ok (.iadd, 1) := by decide +kernel
theorem dX8_binsAhead_27 : decode cX8_binsAhead 27 = .ok (.istore_n 2, 1) := by decide +kernel
theorem dX8_binsAhead_28 : decode cX8_binsAhead 28 = .ok (.iinc 3 1, 3) := by decide +kernel
theorem dX8_binsAhead_31 : decode cX8_binsAhead 31 = .ok (.goto (-27), 3) := by decide +kernel
theorem dX8_binsAhead_34 : decode cX8_binsAhead 34 = .ok (.iload_n 2, 1) := by decide +kernel
theorem dX8_binsAhead_35 : decode cX8_binsAhead 35 = .ok (.ireturn, 1) := by decide +kernel
theorem dX8_fills_0 : decode cX8_fills 0 = .ok (.iconst 0, 1) := by decide +kernel
theorem dX8_fills_1 : decode cX8_fills 1 = .ok (.istore_n 3, 1) := by decide +kernel
theorem dX8_fills_2 : decode cX8_fills 2 = .ok (.iload_n 3, 1) := by decide +kernel
theorem dX8_fills_3 : decode cX8_fills 3 = .ok (.bipush 10, 2) := by decide +kernel
theorem dX8_fills_5 : decode cX8_fills 5 = .ok (.if_icmp .ge 16, 3) := by decide +kernel
theorem dX8_fills_8 : decode cX8_fills 8 = .ok (.aload_n 0, 1) := by decide +kernel
theorem dX8_fills_9 : decode cX8_fills 9 = .ok (.getfield 163, 3) := by decide +kernel
theorem dX8_fills_12 : decode cX8_fills 12 = .ok (.iload_n 3, 1) := by decide +kernel
theorem dX8_fills_13 : decode cX8_fills 13 = .ok (.iconst 0, 1) := by decide +kernel
theorem dX8_fills_14 : decode cX8_fills 14 = .ok (.iastore, 1) := by decide +kernel
theorem dX8_fills_15 : decode cX8_fills 15 = .ok (.iinc 3 1, 3) := by decide +kernel
theorem dX8_fills_18 : decode cX8_fills 18 = .ok (.goto (-16), 3) := by decide +kernel
theorem dX8_fills_21 : decode cX8_fills 21 = .ok (.iconst 0, 1) := by decide +kernel
theorem dX8_fills_22 : decode cX8_fills 22 = .ok (.istore_n 3, 1) := by decide +kernel
theorem dX8_fills_23 : decode cX8_fills 23 = .ok (.aload_n 0, 1) := by decide +kernel
theorem dX8_fills_24 : decode cX8_fills 24 = .ok (.getfield 160, 3) := by decide +kernel
theorem dX8_fills_27 : decode cX8_fills 27 = .ok (.iconst 0, 1) := by decide +kernel
theorem dX8_fills_28 : decode cX8_fills 28 = .ok (.iconst (-1), 1) := by decide +kernel
theorem dX8_fills_29 : decode cX8_fills 29 = .ok (.iastore, 1) := by decide +kernel
theorem dX8_fills_30 : decode cX8_fills 30 = .ok (.iload_n 3, 1) := by decide +kernel
theorem dX8_fills_31 : decode cX8_fills 31 = .ok (.ifCond .lt 164, 3) := by decide +kernel
theorem dX8_fills_34 : decode cX8_fills 34 = .ok (.iload_n 3, 1) := by decide +kernel
theorem dX8_fills_35 : decode cX8_fills 35 = .ok (.aload_n 0, 1) := by decide +kernel
theorem dX8_fills_36 : decode cX8_fills 36 = .ok (.invokevirtual 431, 3) := by decide +kernel
theorem dX8_fills_39 : decode cX8_fills 39 = .ok (.if_icmp .ge 156, 3) := by decide +kernel
theorem dX8_fills_42 : decode cX8_fills 42 = .ok (.aload_n 0, 1) := by decide +kernel
theorem dX8_fills_43 : decode cX8_fills 43 = .ok (.getfield 160, 3) := by decide +kernel
theorem dX8_fills_46 : decode cX8_fills 46 = .ok (.iload_n 3, 1) := by decide +kernel
theorem dX8_fills_47 : decode cX8_fills 47 = .ok (.iaload, 1) := by decide +kernel
theorem dX8_fills_48 : decode cX8_fills 48 = .ok (.iconst (-1), 1) := by decide +kernel
theorem dX8_fills_49 : decode cX8_fills 49 = .ok (.if_icmp .eq 22, 3) := by decide +kernel
theorem dX8_fills_52 : decode cX8_fills 52 = .ok (.aload_n 0, 1) := by decide +kernel
theorem dX8_fills_53 : decode cX8_fills 53 = .ok (.getfield 163, 3) := by decide +kernel
theorem dX8_fills_56 : decode cX8_fills 56 = .ok (.aload_n 0, 1) := by decide +kernel
theorem dX8_fills_57 : decode cX8_fills 57 = .ok (.getfield 160, 3) := by decide +kernel
theorem dX8_fills_60 : decode cX8_fills 60 = .ok (.iload_n 3, 1) := by decide +kernel
theorem dX8_fills_61 : decode cX8_fills 61 = .ok (.iaload, 1) := by decide +kernel
theorem dX8_fills_62 : decode cX8_fills 62 = .ok (.dup2, 1) := by decide +kernel
theorem dX8_fills_63 : decode cX8_fills 63 = .ok (.iaload, 1) := by decide +kernel
theorem dX8_fills_64 : decode cX8_fills 64 = .ok (.aload_n 0, 1) := by decide +kernel
theorem dX8_fills_65 : decode cX8_fills 65 = .ok (.iload_n 3, 1) := by decide +kernel
theorem dX8_fills_66 : decode cX8_fills 66 = .ok (.invokevirtual 434, 3) := by decide +kernel
theorem dX8_fills_69 : decode cX8_fills 69 = .ok (.isub, 1) := by decide +kernel
theorem dX8_fills_70 : decode cX8_fills 70 = .ok (.iastore, 1) := by decide +kernel
theorem dX8_fills_71 : decode cX8_fills 71 = .ok (.aload_n 0, 1) := by decide +kernel
theorem dX8_fills_72 : decode cX8_fills 72 = .ok (.iload_n 3, 1) := by decide +kernel
theorem dX8_fills_73 : decode cX8_fills 73 = .ok (.invokevirtual 560, 3) := by decide +kernel
theorem dX8_fills_76 : decode cX8_fills 76 = .ok (.iload_n 2, 1) := by decide +kernel
theorem dX8_fills_77 : decode cX8_fills 77 = .ok (.if_icmp .ge 11, 3) := by decide +kernel
theorem dX8_fills_80 : decode cX8_fills 80 = .ok (.aload_n 0, 1) := by decide +kernel
theorem dX8_fills_81 : decode cX8_fills 81 = .ok (.iload_n 3, 1) := by decide +kernel
theorem dX8_fills_82 : decode cX8_fills 82 = .ok (.invokevirtual 560, 3) := by decide +kernel
theorem dX8_fills_85 : decode cX8_fills 85 = .ok (.goto 6, 3) := by decide +kernel
theorem dX8_fills_88 : decode cX8_fills 88 = .ok (.iload_n 2, 1) := by decide +kernel
theorem dX8_fills_89 : decode cX8_fills 89 = .ok (.iconst 1, 1) := by decide +kernel
theorem dX8_fills_90 : decode cX8_fills 90 = .ok (.isub, 1) := by decide +kernel
theorem dX8_fills_91 : decode cX8_fills 91 = .ok (.istore 4, 2) := by decide +kernel
theorem dX8_fills_93 : decode cX8_fills 93 = .ok (.aload_n 0, 1) := by decide +kernel
theorem dX8_fills_94 : decode cX8_fills 94 = .ok (.getfield 160, 3) := by decide +kernel
theorem dX8_fills_97 : decode cX8_fills 97 = .ok (.iload_n 3, 1) := by decide +kernel
theorem dX8_fills_98 : decode cX8_fills 98 = .ok (.iaload, 1) := by decide +kernel
theorem dX8_fills_99 : decode cX8_fills 99 = .ok (.iconst 1, 1) := by decide +kernel
theorem dX8_fills_100 : decode cX8_fills 100 = .ok (.iadd, 1) := by decide +kernel
theorem dX8_fills_101 : decode cX8_fills 101 = .ok (.istore 5, 2) := by decide +kernel
theorem dX8_fills_103 : decode cX8_fills 103 = .ok (.iload 5, 2) := by decide +kernel
theorem dX8_fills_105 : decode cX8_fills 105 = .ok (.iload 4, 2) := by decide +kernel
theorem dX8_fills_107 : decode cX8_fills 107 = .ok (.if_icmp .gt 26, 3) := by decide +kernel
theorem dX8_fills_110 : decode cX8_fills 110 = .ok (.aload_n 0, 1) := by decide +kernel
theorem dX8_fills_111 : decode cX8_fills 111 = .ok (.getfield 163, 3) := by decide +kernel
theorem dX8_fills_114 : decode cX8_fills 114 = .ok (.iload 5, 2) := by decide +kernel
theorem dX8_fills_116 : decode cX8_fills 116 = .ok (.iaload, 1) := by decide +kernel
theorem dX8_fills_117 : decode cX8_fills 117 = .ok (.aload_n 0, 1) := by decide +kernel
theorem dX8_fills_118 : decode cX8_fills 118 = .ok (.iload_n 3, 1) := by decide +kernel
theorem dX8_fills_119 : decode cX8_fills 119 = .ok (.invokevirtual 434, 3) := by decide +kernel
theorem dX8_fills_122 : decode cX8_fills 122 = .ok (.iadd, 1) := by decide +kernel
theorem dX8_fills_123 : decode cX8_fills 123 = .ok (.iload_n 1, 1) := by decide +kernel
theorem dX8_fills_124 : decode cX8_fills 124 = .ok (.if_icmp .le 9, 3) := by decide +kernel
theorem dX8_fills_127 : decode cX8_fills 127 = .ok (.iinc 5 1, 3) := by decide +kernel
theorem dX8_fills_130 : decode cX8_fills 130 = .ok (.goto (-27), 3) := by decide +kernel
theorem dX8_fills_133 : decode cX8_fills 133 = .ok (.iload 5, 2) := by decide +kernel
theorem dX8_fills_135 : decode cX8_fills 135 = .ok (.iload 4, 2) := by decide +kernel
theorem dX8_fills_137 : decode cX8_fills 137 = .ok (.if_icmp .le 16, 3) := by decide +kernel
theorem dX8_fills_140 : decode cX8_fills 140 = .ok (.aload_n 0, 1) := by decide +kernel
theorem dX8_fills_141 : decode cX8_fills 141 = .ok (.getfield 160, 3) := by decide +kernel
theorem dX8_fills_144 : decode cX8_fills 144 = .ok (.iload_n 3, 1) := by decide +kernel
theorem dX8_fills_145 : decode cX8_fills 145 = .ok (.iconst (-1), 1) := by decide +kernel
theorem dX8_fills_146 : decode cX8_fills 146 = .ok (.iastore, 1) := by decide +kernel
theorem dX8_fills_147 : decode cX8_fills 147 = .ok (.iinc 3 (-1), 3) := by decide +kernel
theorem dX8_fills_150 : decode cX8_fills 150 = .ok (.goto (-120), 3) := by decide +kernel
theorem dX8_fills_153 : decode cX8_fills 153 = .ok (.aload_n 0, 1) := by decide +kernel
theorem dX8_fills_154 : decode cX8_fills 154 = .ok (.getfield 160, 3) := by decide +kernel
theorem dX8_fills_157 : decode cX8_fills 157 = .ok (.iload_n 3, 1) := by decide +kernel
theorem dX8_fills_158 : decode cX8_fills 158 = .ok (.iload 5, 2) := by decide +kernel
theorem dX8_fills_160 : decode cX8_fills 160 = .ok (.iastore, 1) := by decide +kernel
theorem dX8_fills_161 : decode cX8_fills 161 = .ok (.aload_n 0, 1) := by decide +kernel
theorem dX8_fills_162 : decode cX8_fills 162 = .ok (.getfield 163, 3) := by decide +kernel
theorem dX8_fills_165 : decode cX8_fills 165 = .ok (.iload 5, 2) := by decide +kernel
theorem dX8_fills_167 : decode cX8_fills 167 = .ok (.dup2, 1) := by decide +kernel
theorem dX8_fills_168 : decode cX8_fills 168 = .ok (.iaload, 1) := by decide +kernel
theorem dX8_fills_169 : decode cX8_fills 169 = .ok (.aload_n 0, 1) := by decide +kernel
theorem dX8_fills_170 : decode cX8_fills 170 = .ok (.iload_n 3, 1) := by decide +kernel
theorem dX8_fills_171 : decode cX8_fills 171 = .ok (.invokevirtual 434, 3) := by decide +kernel
theorem dX8_fills_174 : decode cX8_fills 174 = .ok (.iadd, 1) := by decide +kernel
theorem dX8_fills_175 : decode cX8_fills 175 = .ok (.iastore, 1) := by decide +kernel
theorem dX8_fills_176 : decode cX8_fills 176 = .ok (.iinc 3 1, 3) := by decide +kernel
theorem dX8_fills_179 : decode cX8_fills 179 = .ok (.iload_n 3, 1) := by decide +kernel
theorem dX8_fills_180 : decode cX8_fills 180 = .ok (.bipush 10, 2) := by decide +kernel
theorem dX8_fills_182 : decode cX8_fills 182 = .ok (.if_icmp .ge 10, 3) := by decide +kernel
theorem dX8_fills_185 : decode cX8_fills 185 = .ok (.aload_n 0, 1) := by decide +kernel
theorem dX8_fills_186 : decode cX8_fills 186 = .ok (.getfield 160, 3) := by decide +kernel
theorem dX8_fills_189 : decode cX8_fills 189 = .ok (.iload_n 3, 1) := by decide +kernel
theorem dX8_fills_190 : decode cX8_fills 190 = .ok (.iconst (-1), 1) := by decide +kernel
theorem dX8_fills_191 : decode cX8_fills 191 = .ok (.iastore, 1) := by decide +kernel
theorem dX8_fills_192 : decode cX8_fills 192 = .ok (.goto (-162), 3) := by decide +kernel
theorem dX8_fills_195 : decode cX8_fills 195 = .ok (.iload_n 3, 1) := by decide +kernel
theorem dX8_fills_196 : decode cX8_fills 196 = .ok (.ifCond .lt 7, 3) := by decide +kernel
theorem dX8_fills_199 : decode cX8_fills 199 = .ok (.iconst 1, 1) := by decide +kernel
theorem dX8_fills_200 : decode cX8_fills 200 = .ok (.goto 4, 3) := by decide +kernel
theorem dX8_fills_203 : decode cX8_fills 203 = .ok (.iconst 0, 1) := by decide +kernel
theorem dX8_fills_204 : decode cX8_fills 204 = .ok (.ireturn, 1) := by decide +kernel
theorem dX8_free_0 : decode cX8_free 0 = .ok (.aload_n 0, 1) := by decide +kernel
theorem dX8_free_1 : decode cX8_free 1 = .ok (.iload_n 1, 1) := by decide +kernel
theorem dX8_free_2 : decode cX8_free 2 = .ok (.iload_n 2, 1) := by decide +kernel
theorem dX8_free_3 : decode cX8_free 3 = .ok (.invokevirtual 554, 3) := by decide +kernel
theorem dX8_free_6 : decode cX8_free 6 = .ok (.ifCond .eq 11, 3) := by decide +kernel
theorem dX8_free_9 : decode cX8_free 9 = .ok (.aload_n 0, 1) := by decide +kernel
theorem dX8_free_10 : decode cX8_free 10 = .ok (.iload_n 1, 1) := by decide +kernel
theorem dX8_free_11 : decode cX8_free 11 = .ok (.invokevirtual 557, 3) := by decide +kernel
theorem dX8_free_14 : decode cX8_free 14 = .ok (.ifCond .ne 5, 3) := by decide +kernel
theorem dX8_free_17 : decode cX8_free 17 = .ok (.iconst (-1), 1) := by decide +kernel
theorem dX8_free_18 : decode cX8_free 18 = .ok (.ireturn, 1) := by decide +kernel
theorem dX8_free_19 : decode cX8_free 19 = .ok (.iconst 0, 1) := by decide +kernel
theorem dX8_free_20 : decode cX8_free 20 = .ok (.istore_n 3, 1) := by decide +kernel
theorem dX8_free_21 : decode cX8_free 21 = .ok (.iload_n 3, 1) := by decide +kernel
theorem dX8_free_22 : decode cX8_free 22 = .ok (.aload_n 0, 1) := by decide +kernel
theorem dX8_free_23 : decode cX8_free 23 = .ok (.invokevirtual 431, 3) := by decide +kernel
theorem dX8_free_26 : decode cX8_free 26 = .ok (.if_icmp .ge 18, 3) := by decide +kernel
theorem dX8_free_29 : decode cX8_free 29 = .ok (.aload_n 0, 1) := by decide +kernel
theorem dX8_free_30 : decode cX8_free 30 = .ok (.iload_n 1, 1) := by decide +kernel
theorem dX8_free_31 : decode cX8_free 31 = .ok (.iload_n 3, 1) := by decide +kernel
theorem dX8_free_32 : decode cX8_free 32 = .ok (.invokevirtual 563, 3) := by decide +kernel
theorem dX8_free_35 : decode cX8_free 35 = .ok (.ifCond .ne 9, 3) := by decide +kernel
theorem dX8_free_38 : decode cX8_free 38 = .ok (.iinc 3 1, 3) := by decide +kernel
theorem dX8_free_41 : decode cX8_free 41 = .ok (.goto (-20), 3) := by decide +kernel
theorem dX8_free_44 : decode cX8_free 44 = .ok (.iload_n 3, 1) := by decide +kernel
theorem dX8_free_45 : decode cX8_free 45 = .ok (.aload_n 0, 1) := by decide +kernel
theorem dX8_free_46 : decode cX8_free 46 = .ok (.invokevirtual 431, 3) := by decide +kernel
theorem dX8_free_49 : decode cX8_free 49 = .ok (.if_icmp .ne 14, 3) := by decide +kernel
theorem dX8_free_52 : decode cX8_free 52 = .ok (.iload_n 3, 1) := by decide +kernel
theorem dX8_free_53 : decode cX8_free 53 = .ok (.ifCond .le 10, 3) := by decide +kernel
theorem dX8_free_56 : decode cX8_free 56 = .ok (.aload_n 0, 1) := by decide +kernel
theorem dX8_free_57 : decode cX8_free 57 = .ok (.iload_n 1, 1) := by decide +kernel
theorem dX8_free_58 : decode cX8_free 58 = .ok (.iload_n 3, 1) := by decide +kernel
theorem dX8_free_59 : decode cX8_free 59 = .ok (.invokevirtual 563, 3) := by decide +kernel
theorem dX8_free_62 : decode cX8_free 62 = .ok (.pop, 1) := by decide +kernel
theorem dX8_free_63 : decode cX8_free 63 = .ok (.iload_n 2, 1) := by decide +kernel
theorem dX8_free_64 : decode cX8_free 64 = .ok (.iconst (-1), 1) := by decide +kernel
theorem dX8_free_65 : decode cX8_free 65 = .ok (.if_icmp .ne 7, 3) := by decide +kernel
theorem dX8_free_68 : decode cX8_free 68 = .ok (.iload_n 3, 1) := by decide +kernel
theorem dX8_free_69 : decode cX8_free 69 = .ok (.goto 9, 3) := by decide +kernel
theorem dX8_free_72 : decode cX8_free 72 = .ok (.aload_n 0, 1) := by decide +kernel
theorem dX8_free_73 : decode cX8_free 73 = .ok (.getfield 160, 3) := by decide +kernel
theorem dX8_free_76 : decode cX8_free 76 = .ok (.iload_n 2, 1) := by decide +kernel
theorem dX8_free_77 : decode cX8_free 77 = .ok (.iaload, 1) := by decide +kernel
theorem dX8_free_78 : decode cX8_free 78 = .ok (.ireturn, 1) := by decide +kernel
theorem dX8_mayStart_0 : decode cX8_mayStart 0 = .ok (.aload_n 0, 1) := by decide +kernel
theorem dX8_mayStart_1 : decode cX8_mayStart 1 = .ok (.getfield 166, 3) := by decide +kernel
theorem dX8_mayStart_4 : decode cX8_mayStart 4 = .ok (.aload_n 0, 1) := by decide +kernel
theorem dX8_mayStart_5 : decode cX8_mayStart 5 = .ok (.getfield 566, 3) := by decide +kernel
theorem dX8_mayStart_8 : decode cX8_mayStart 8 = .ok (.iload_n 1, 1) := by decide +kernel
theorem dX8_mayStart_9 : decode cX8_mayStart 9 = .ok (.iastore, 1) := by decide +kernel
theorem dX8_mayStart_10 : decode cX8_mayStart 10 = .ok (.aload_n 0, 1) := by decide +kernel
theorem dX8_mayStart_11 : decode cX8_mayStart 11 = .ok (.getfield 169, 3) := by decide +kernel
theorem dX8_mayStart_14 : decode cX8_mayStart 14 = .ok (.aload_n 0, 1) := by decide +kernel
theorem dX8_mayStart_15 : decode cX8_mayStart 15 = .ok (.getfield 566, 3) := by decide +kernel
theorem dX8_mayStart_18 : decode cX8_mayStart 18 = .ok (.iload_n 2, 1) := by decide +kernel
theorem dX8_mayStart_19 : decode cX8_mayStart 19 = .ok (.iastore, 1) := by decide +kernel
theorem dX8_mayStart_20 : decode cX8_mayStart 20 = .ok (.aload_n 0, 1) := by decide +kernel
theorem dX8_mayStart_21 : decode cX8_mayStart 21 = .ok (.getfield 172, 3) := by decide +kernel
theorem dX8_mayStart_24 : decode cX8_mayStart 24 = .ok (.aload_n 0, 1) := by decide +kernel
theorem dX8_mayStart_25 : decode cX8_mayStart 25 = .ok (.getfield 566, 3) := by decide +kernel
theorem dX8_mayStart_28 : decode cX8_mayStart 28 = .ok (.iload_n 3, 1) := by decide +kernel
theorem dX8_mayStart_29 : decode cX8_mayStart 29 = .ok (.ifCond .eq 7, 3) := by decide +kernel
theorem dX8_mayStart_32 : decode cX8_mayStart 32 = .ok (.iconst 1, 1) := by decide +kernel
theorem dX8_mayStart_33 : decode cX8_mayStart 33 = .ok (.goto 4, 3) := by decide +kernel
theorem dX8_mayStart_36 : decode cX8_mayStart 36 = .ok (.iconst 0, 1) := by decide +kernel
theorem dX8_mayStart_37 : decode cX8_mayStart 37 = .ok (.iastore, 1) := by decide +kernel
theorem dX8_mayStart_38 : decode cX8_mayStart 38 = .ok (.aload_n 0, 1) := by decide +kernel
theorem dX8_mayStart_39 : decode cX8_mayStart 39 = .ok (.dup, 1) := by decide +kernel
theorem dX8_mayStart_40 : decode cX8_mayStart 40 = .ok (.getfield 566, 3) := by decide +kernel
theorem dX8_mayStart_43 : decode cX8_mayStart 43 = .ok (.iconst 1, 1) := by decide +kernel
theorem dX8_mayStart_44 : decode cX8_mayStart 44 = .ok (.iadd, 1) := by decide +kernel
theorem dX8_mayStart_45 : decode cX8_mayStart 45 = .ok (.putfield 566, 3) := by decide +kernel
theorem dX8_mayStart_48 : decode cX8_mayStart 48 = .ok (.return_, 1) := by decide +kernel
theorem dX8_laysStarts_0 : decode cX8_laysStarts 0 = .ok (.aload_n 0, 1) := by decide +kernel
theorem dX8_laysStarts_1 : decode cX8_laysStarts 1 = .ok (.iconst 0, 1) := by decide +kernel
theorem dX8_laysStarts_2 : decode cX8_laysStarts 2 = .ok (.putfield 566, 3) := by decide +kernel
theorem dX8_laysStarts_5 : decode cX8_laysStarts 5 = .ok (.iconst 0, 1) := by decide +kernel
theorem dX8_laysStarts_6 : decode cX8_laysStarts 6 = .ok (.istore_n 1, 1) := by decide +kernel
theorem dX8_laysStarts_7 : decode cX8_laysStarts 7 = .ok (.iconst 0, 1) := by decide +kernel
theorem dX8_laysStarts_8 : decode cX8_laysStarts 8 = .ok (.istore_n 2, 1) := by decide +kernel
theorem dX8_laysStarts_9 : decode cX8_laysStarts 9 = .ok (.iload_n 2, 1) := by decide +kernel
theorem dX8_laysStarts_10 : decode cX8_laysStarts 10 = .ok (.aload_n 0, 1) := by decide +kernel
theorem dX8_laysStarts_11 : decode cX8_laysStarts 11 = .ok (.invokevirtual 431, 3) := by decide +kernel
theorem dX8_laysStarts_14 : decode cX8_laysStarts 14 = .ok (.if_icmp .ge 72, 3) := by decide +kernel
theorem dX8_laysStarts_17 : decode cX8_laysStarts 17 = .ok (.aload_n 0, 1) := by decide +kernel
theorem dX8_laysStarts_18 : decode cX8_laysStarts 18 = .ok (.iload_n 1, 1) := by decide +kernel
theorem dX8_laysStarts_19 : decode cX8_laysStarts 19 = .ok (.bipush 100, 2) := by decide +kernel
theorem dX8_laysStarts_21 : decode cX8_laysStarts 21 = .ok (.iload_n 2, 1) := by decide +kernel
theorem dX8_laysStarts_22 : decode cX8_laysStarts 22 = .ok (.imul, 1) := by decide +kernel
theorem dX8_laysStarts_23 : decode cX8_laysStarts 23 = .ok (.iconst 0, 1) := by decide +kernel
theorem dX8_laysStarts_24 : decode cX8_laysStarts 24 = .ok (.invokevirtual 569, 3) := by decide +kernel
theorem dX8_laysStarts_27 : decode cX8_laysStarts 27 = .ok (.iconst 0, 1) := by decide +kernel
theorem dX8_laysStarts_28 : decode cX8_laysStarts 28 = .ok (.istore_n 3, 1) := by decide +kernel
theorem dX8_laysStarts_29 : decode cX8_laysStarts 29 = .ok (.iload_n 3, 1) := by decide +kernel
theorem dX8_laysStarts_30 : decode cX8_laysStarts 30 = .ok (.aload_n 0, 1) := by decide +kernel
theorem dX8_laysStarts_31 : decode cX8_laysStarts 31 = .ok (.iload_n 2, 1) := by decide +kernel
theorem dX8_laysStarts_32 : decode cX8_laysStarts 32 = .ok (.invokevirtual 545, 3) := by decide +kernel
theorem dX8_laysStarts_35 : decode cX8_laysStarts 35 = .ok (.if_icmp .ge 37, 3) := by decide +kernel
theorem dX8_laysStarts_38 : decode cX8_laysStarts 38 = .ok (.aload_n 0, 1) := by decide +kernel
theorem dX8_laysStarts_39 : decode cX8_laysStarts 39 = .ok (.iload_n 1, 1) := by decide +kernel
theorem dX8_laysStarts_40 : decode cX8_laysStarts 40 = .ok (.aload_n 0, 1) := by decide +kernel
theorem dX8_laysStarts_41 : decode cX8_laysStarts 41 = .ok (.iload_n 2, 1) := by decide +kernel
theorem dX8_laysStarts_42 : decode cX8_laysStarts 42 = .ok (.iload_n 3, 1) := by decide +kernel
theorem dX8_laysStarts_43 : decode cX8_laysStarts 43 = .ok (.invokevirtual 548, 3) := by decide +kernel
theorem dX8_laysStarts_46 : decode cX8_laysStarts 46 = .ok (.iadd, 1) := by decide +kernel
theorem dX8_laysStarts_47 : decode cX8_laysStarts 47 = .ok (.bipush 100, 2) := by decide +kernel
theorem dX8_laysStarts_49 : decode cX8_laysStarts 49 = .ok (.iload_n 2, 1) := by decide +kernel
theorem dX8_laysStarts_50 : decode cX8_laysStarts 50 = .ok (.imul, 1) := by decide +kernel
theorem dX8_laysStarts_51 : decode cX8_laysStarts 51 = .ok (.aload_n 0, 1) := by decide +kernel
theorem dX8_laysStarts_52 : decode cX8_laysStarts 52 = .ok (.iload_n 2, 1) := by decide +kernel
theorem dX8_laysStarts_53 : decode cX8_laysStarts 53 = .ok (.iload_n 3, 1) := by decide +kernel
theorem dX8_laysStarts_54 : decode cX8_laysStarts 54 = .ok (.invokevirtual 548, 3) := by decide +kernel
theorem dX8_laysStarts_57 : decode cX8_laysStarts 57 = .ok (.iadd, 1) := by decide +kernel
theorem dX8_laysStarts_58 : decode cX8_laysStarts 58 = .ok (.aload_n 0, 1) := by decide +kernel
theorem dX8_laysStarts_59 : decode cX8_laysStarts 59 = .ok (.iload_n 2, 1) := by decide +kernel
theorem dX8_laysStarts_60 : decode cX8_laysStarts 60 = .ok (.invokevirtual 573, 3) := by decide +kernel
theorem dX8_laysStarts_63 : decode cX8_laysStarts 63 = .ok (.invokevirtual 569, 3) := by decide +kernel
theorem dX8_laysStarts_66 : decode cX8_laysStarts 66 = .ok (.iinc 3 1, 3) := by decide +kernel
theorem dX8_laysStarts_69 : decode cX8_laysStarts 69 = .ok (.goto (-40), 3) := by decide +kernel
theorem dX8_laysStarts_72 : decode cX8_laysStarts 72 = .ok (.iload_n 1, 1) := by decide +kernel
theorem dX8_laysStarts_73 : decode cX8_laysStarts 73 = .ok (.aload_n 0, 1) := by decide +kernel
theorem dX8_laysStarts_74 : decode cX8_laysStarts 74 = .ok (.iload_n 2, 1) := by decide +kernel
theorem dX8_laysStarts_75 : decode cX8_laysStarts 75 = .ok (.invokevirtual 434, 3) := by decide +kernel
theorem dX8_laysStarts_78 : decode cX8_laysStarts 78 = .ok (.iadd, 1) := by decide +kernel
theorem dX8_laysStarts_79 : decode cX8_laysStarts 79 = .ok (.istore_n 1, 1) := by decide +kernel
theorem dX8_laysStarts_80 : decode cX8_laysStarts 80 = .ok (.iinc 2 1, 3) := by decide +kernel
theorem dX8_laysStarts_83 : decode cX8_laysStarts 83 = .ok (.goto (-74), 3) := by decide +kernel
theorem dX8_laysStarts_86 : decode cX8_laysStarts 86 = .ok (.aload_n 0, 1) := by decide +kernel
theorem dX8_laysStarts_87 : decode cX8_laysStarts 87 = .ok (.getfield 166, 3) := by decide +kernel
theorem dX8_laysStarts_90 : decode cX8_laysStarts 90 = .ok (.aload_n 0, 1) := by decide +kernel
theorem dX8_laysStarts_91 : decode cX8_laysStarts 91 = .ok (.getfield 566, 3) := by decide +kernel
theorem dX8_laysStarts_94 : decode cX8_laysStarts 94 = .ok (.iload_n 1, 1) := by decide +kernel
theorem dX8_laysStarts_95 : decode cX8_laysStarts 95 = .ok (.iastore, 1) := by decide +kernel
theorem dX8_laysStarts_96 : decode cX8_laysStarts 96 = .ok (.return_, 1) := by decide +kernel
theorem dX8_startsFrom_0 : decode cX8_startsFrom 0 = .ok (.aload_n 0, 1) := by decide +kernel
theorem dX8_startsFrom_1 : decode cX8_startsFrom 1 = .ok (.getfield 175, 3) := by decide +kernel
theorem dX8_startsFrom_4 : decode cX8_startsFrom 4 = .ok (.iload_n 1, 1) := by decide +kernel
theorem dX8_startsFrom_5 : decode cX8_startsFrom 5 = .ok (.sipush 1000, 3) := by decide +kernel
theorem dX8_startsFrom_8 : decode cX8_startsFrom 8 = .ok (.iastore, 1) := by decide +kernel
theorem dX8_startsFrom_9 : decode cX8_startsFrom 9 = .ok (.aload_n 0, 1) := by decide +kernel
theorem dX8_startsFrom_10 : decode cX8_startsFrom 10 = .ok (.getfield 178, 3) := by decide +kernel
theorem dX8_startsFrom_13 : decode cX8_startsFrom 13 = .ok (.iload_n 1, 1) := by decide +kernel
theorem dX8_startsFrom_14 : decode cX8_startsFrom 14 = .ok (.iconst 0, 1) := by decide +kernel
theorem dX8_startsFrom_15 : decode cX8_startsFrom 15 = .ok (.iastore, 1) := by decide +kernel
theorem dX8_startsFrom_16 : decode cX8_startsFrom 16 = .ok (.aload_n 0, 1) := by decide +kernel
theorem dX8_startsFrom_17 : decode cX8_startsFrom 17 = .ok (.getfield 181, 3) := by decide +kernel
theorem dX8_startsFrom_20 : decode cX8_startsFrom 20 = .ok (.iload_n 1, 1) := by decide +kernel
theorem dX8_startsFrom_21 : decode cX8_startsFrom 21 = .ok (.iconst (-1), 1) := by decide +kernel
theorem dX8_startsFrom_22 : decode cX8_startsFrom 22 = .ok (.iastore, 1) := by decide +kernel
theorem dX8_startsFrom_23 : decode cX8_startsFrom 23 = .ok (.aload_n 0, 1) := by decide +kernel
theorem dX8_startsFrom_24 : decode cX8_startsFrom 24 = .ok (.getfield 566, 3) := by decide +kernel
theorem dX8_startsFrom_27 : decode cX8_startsFrom 27 = .ok (.istore_n 3, 1) := by decide +kernel
theorem dX8_startsFrom_28 : decode cX8_startsFrom 28 = .ok (.iload_n 3, 1) := by decide +kernel
theorem dX8_startsFrom_29 : decode cX8_startsFrom 29 = .ok (.iload_n 1, 1) := by decide +kernel
theorem dX8_startsFrom_30 : decode cX8_startsFrom 30 = .ok (.if_icmp .le 137, 3) := by decide +kernel
theorem dX8_startsFrom_33 : decode cX8_startsFrom 33 = .ok (.aload_n 0, 1) := by decide +kernel
theorem dX8_startsFrom_34 : decode cX8_startsFrom 34 = .ok (.getfield 166, 3) := by decide +kernel
theorem dX8_startsFrom_37 : decode cX8_startsFrom 37 = .ok (.iload_n 3, 1) := by decide +kernel
theorem dX8_startsFrom_38 : decode cX8_startsFrom 38 = .ok (.iaload, 1) := by decide +kernel
theorem dX8_startsFrom_39 : decode cX8_startsFrom 39 = .ok (.aload_n 0, 1) := by decide +kernel
theorem dX8_startsFrom_40 : decode cX8_startsFrom 40 = .ok (.getfield 166, 3) := by decide +kernel
theorem dX8_startsFrom_43 : decode cX8_startsFrom 43 = .ok (.iload_n 1, 1) := by decide +kernel
theorem dX8_startsFrom_44 : decode cX8_startsFrom 44 = .ok (.iaload, 1) := by decide +kernel
theorem dX8_startsFrom_45 : decode cX8_startsFrom 45 = .ok (.isub, 1) := by decide +kernel
theorem dX8_startsFrom_46 : decode cX8_startsFrom 46 = .ok (.iload_n 2, 1) := by decide +kernel
theorem dX8_startsFrom_47 : decode cX8_startsFrom 47 = .ok (.if_icmp .le 6, 3) := by decide +kernel
theorem dX8_startsFrom_50 : decode cX8_startsFrom 50 = .ok (.goto 111, 3) := by decide +kernel
theorem dX8_startsFrom_53 : decode cX8_startsFrom 53 = .ok (.iconst 1, 1) := by decide +kernel
theorem dX8_startsFrom_54 : decode cX8_startsFrom 54 = .ok (.iload_n 3, 1) := by decide +kernel
theorem dX8_startsFrom_55 : decode cX8_startsFrom 55 = .ok (.aload_n 0, 1) := by decide +kernel
theorem dX8_startsFrom_56 : decode cX8_startsFrom 56 = .ok (.getfield 566, 3) := by decide +kernel
theorem dX8_startsFrom_59 : decode cX8_startsFrom 59 = .ok (.if_icmp .ne 7, 3) := by decide +kernel
theorem dX8_startsFrom_62 : decode cX8_startsFrom 62 = .ok (.iconst 0, 1) := by decide +kernel
theorem dX8_startsFrom_63 : decode cX8_startsFrom 63 = .ok (.goto 9, 3) := by decide +kernel
theorem dX8_startsFrom_66 : decode cX8_startsFrom 66 = .ok (.aload_n 0, 1) := by decide +kernel
theorem dX8_startsFrom_67 : decode cX8_startsFrom 67 = .ok (.getfield 175, 3) := by decide +kernel
theorem dX8_startsFrom_70 : decode cX8_startsFrom 70 = .ok (.iload_n 3, 1) := by decide +kernel
theorem dX8_startsFrom_71 : decode cX8_startsFrom 71 = .ok (.iaload, 1) := by decide +kernel
theorem dX8_startsFrom_72 : decode cX8_startsFrom 72 = .ok (.iadd, 1) := by decide +kernel
theorem dX8_startsFrom_73 : decode cX8_startsFrom 73 = .ok (.istore 4, 2) := by decide +kernel
theorem dX8_startsFrom_75 : decode cX8_startsFrom 75 = .ok (.iload_n 3, 1) := by decide +kernel
theorem dX8_startsFrom_76 : decode cX8_startsFrom 76 = .ok (.aload_n 0, 1) := by decide +kernel
theorem dX8_startsFrom_77 : decode cX8_startsFrom 77 = .ok (.getfield 566, 3) := by decide +kernel
theorem dX8_startsFrom_80 : decode cX8_startsFrom 80 = .ok (.if_icmp .ne 7, 3) := by decide +kernel
theorem dX8_startsFrom_83 : decode cX8_startsFrom 83 = .ok (.iconst 0, 1) := by decide +kernel
theorem dX8_startsFrom_84 : decode cX8_startsFrom 84 = .ok (.goto 16, 3) := by decide +kernel
theorem dX8_startsFrom_87 : decode cX8_startsFrom 87 = .ok (.aload_n 0, 1) := by decide +kernel
theorem dX8_startsFrom_88 : decode cX8_startsFrom 88 = .ok (.getfield 178, 3) := by decide +kernel
theorem dX8_startsFrom_91 : decode cX8_startsFrom 91 = .ok (.iload_n 3, 1) := by decide +kernel
theorem dX8_startsFrom_92 : decode cX8_startsFrom 92 = .ok (.iaload, 1) := by decide +kernel
theorem dX8_startsFrom_93 : decode cX8_startsFrom 93 = .ok (.aload_n 0, 1) := by decide +kernel
theorem dX8_startsFrom_94 : decode cX8_startsFrom 94 = .ok (.getfield 172, 3) := by decide +kernel
theorem dX8_startsFrom_97 : decode cX8_startsFrom 97 = .ok (.iload_n 3, 1) := by decide +kernel
theorem dX8_startsFrom_98 : decode cX8_startsFrom 98 = .ok (.iaload, 1) := by decide +kernel
theorem dX8_startsFrom_99 : decode cX8_startsFrom 99 = .ok (.iadd, 1) := by decide +kernel
theorem dX8_startsFrom_100 : decode cX8_startsFrom 100 = .ok (.istore 5, 2) := by decide +kernel
theorem dX8_startsFrom_102 : decode cX8_startsFrom 102 = .ok (.iload 4, 2) := by decide +kernel
theorem dX8_startsFrom_104 : decode cX8_startsFrom 104 = .ok (.aload_n 0, 1) := by decide +kernel
theorem dX8_startsFrom_105 : decode cX8_startsFrom 105 = .ok (.getfield 175, 3) := by decide +kernel
theorem dX8_startsFrom_108 : decode cX8_startsFrom 108 = .ok (.iload_n 1, 1) := by decide +kernel
theorem dX8_startsFrom_109 : decode cX8_startsFrom 109 = .ok (.iaload, 1) := by decide +kernel
theorem dX8_startsFrom_110 : decode cX8_startsFrom 110 = .ok (.if_icmp .gt 51, 3) := by decide +kernel
theorem dX8_startsFrom_113 : decode cX8_startsFrom 113 = .ok (.iload 4, 2) := by decide +kernel
theorem dX8_startsFrom_115 : decode cX8_startsFrom 115 = .ok (.aload_n 0, 1) := by decide +kernel
theorem dX8_startsFrom_116 : decode cX8_startsFrom 116 = .ok (.getfield 175, 3) := by decide +kernel
theorem dX8_startsFrom_119 : decode cX8_startsFrom 119 = .ok (.iload_n 1, 1) := by decide +kernel
theorem dX8_startsFrom_120 : decode cX8_startsFrom 120 = .ok (.iaload, 1) := by decide +kernel
theorem dX8_startsFrom_121 : decode cX8_startsFrom 121 = .ok (.if_icmp .ne 17, 3) := by decide +kernel
theorem dX8_startsFrom_124 : decode cX8_startsFrom 124 = .ok (.iload 5, 2) := by decide +kernel
theorem dX8_startsFrom_126 : decode cX8_startsFrom 126 = .ok (.aload_n 0, 1) := by decide +kernel
theorem dX8_startsFrom_127 : decode cX8_startsFrom 127 = .ok (.getfield 178, 3) := by decide +kernel
theorem dX8_startsFrom_130 : decode cX8_startsFrom 130 = .ok (.iload_n 1, 1) := by decide +kernel
theorem dX8_startsFrom_131 : decode cX8_startsFrom 131 = .ok (.iaload, 1) := by decide +kernel
theorem dX8_startsFrom_132 : decode cX8_startsFrom 132 = .ok (.if_icmp .lt 6, 3) := by decide +kernel
theorem dX8_startsFrom_135 : decode cX8_startsFrom 135 = .ok (.goto 26, 3) := by decide +kernel
theorem dX8_startsFrom_138 : decode cX8_startsFrom 138 = .ok (.aload_n 0, 1) := by decide +kernel
theorem dX8_startsFrom_139 : decode cX8_startsFrom 139 = .ok (.getfield 175, 3) := by decide +kernel
theorem dX8_startsFrom_142 : decode cX8_startsFrom 142 = .ok (.iload_n 1, 1) := by decide +kernel
theorem dX8_startsFrom_143 : decode cX8_startsFrom 143 = .ok (.iload 4, 2) := by decide +kernel
theorem dX8_startsFrom_145 : decode cX8_startsFrom 145 = .ok (.iastore, 1) := by decide +kernel
theorem dX8_startsFrom_146 : decode cX8_startsFrom 146 = .ok (.aload_n 0, 1) := by decide +kernel
theorem dX8_startsFrom_147 : decode cX8_startsFrom 147 = .ok (.getfield 178, 3) := by decide +kernel
theorem dX8_startsFrom_150 : decode cX8_startsFrom 150 = .ok (.iload_n 1, 1) := by decide +kernel
theorem dX8_startsFrom_151 : decode cX8_startsFrom 151 = .ok (.iload 5, 2) := by decide +kernel
theorem dX8_startsFrom_153 : decode cX8_startsFrom 153 = .ok (.iastore, 1) := by decide +kernel
theorem dX8_startsFrom_154 : decode cX8_startsFrom 154 = .ok (.aload_n 0, 1) := by decide +kernel
theorem dX8_startsFrom_155 : decode cX8_startsFrom 155 = .ok (.getfield 181, 3) := by decide +kernel
theorem dX8_startsFrom_158 : decode cX8_startsFrom 158 = .ok (.iload_n 1, 1) := by decide +kernel
theorem dX8_startsFrom_159 : decode cX8_startsFrom 159 = .ok (.iload_n 3, 1) := by decide +kernel
theorem dX8_startsFrom_160 : decode cX8_startsFrom 160 = .ok (.iastore, 1) := by decide +kernel
theorem dX8_startsFrom_161 : decode cX8_startsFrom 161 = .ok (.iinc 3 (-1), 3) := by decide +kernel
theorem dX8_startsFrom_164 : decode cX8_startsFrom 164 = .ok (.goto (-136), 3) := by decide +kernel
theorem dX8_startsFrom_167 : decode cX8_startsFrom 167 = .ok (.return_, 1) := by decide +kernel
theorem dX8_hidden_0 : decode cX8_hidden 0 = .ok (.aload_n 0, 1) := by decide +kernel
theorem dX8_hidden_1 : decode cX8_hidden 1 = .ok (.getfield 422, 3) := by decide +kernel
theorem dX8_hidden_4 : decode cX8_hidden 4 = .ok (.ifCond .eq 15, 3) := by decide +kernel
theorem dX8_hidden_7 : decode cX8_hidden 7 = .ok (.iload_n 1, 1) := by decide +kernel
theorem dX8_hidden_8 : decode cX8_hidden 8 = .ok (.i2l, 1) := by decide +kernel
theorem dX8_hidden_9 : decode cX8_hidden 9 = .ok (.lconst 1, 1) := by decide +kernel
theorem dX8_hidden_10 : decode cX8_hidden 10 = .ok (.ldc2_w 513, 3) := by decide +kernel
theorem dX8_hidden_13 : decode cX8_hidden 13 = .ok (.invokestatic 333, 3) := by decide +kernel
theorem dX8_hidden_16 : decode cX8_hidden 16 = .ok (.ifCond .ne 5, 3) := by decide +kernel
theorem dX8_hidden_19 : decode cX8_hidden 19 = .ok (.iconst (-1), 1) := by decide +kernel
theorem dX8_hidden_20 : decode cX8_hidden 20 = .ok (.ireturn, 1) := by decide +kernel
theorem dX8_hidden_21 : decode cX8_hidden 21 = .ok (.aload_n 0, 1) := by decide +kernel
theorem dX8_hidden_22 : decode cX8_hidden 22 = .ok (.invokevirtual 576, 3) := by decide +kernel
theorem dX8_hidden_25 : decode cX8_hidden 25 = .ok (.aload_n 0, 1) := by decide +kernel
theorem dX8_hidden_26 : decode cX8_hidden 26 = .ok (.getfield 566, 3) := by decide +kernel
theorem dX8_hidden_29 : decode cX8_hidden 29 = .ok (.ifCond .ne 18, 3) := by decide +kernel
theorem dX8_hidden_32 : decode cX8_hidden 32 = .ok (.iload_n 2, 1) := by decide +kernel
theorem dX8_hidden_33 : decode cX8_hidden 33 = .ok (.ifCond .eq 8, 3) := by decide +kernel
theorem dX8_hidden_36 : decode cX8_hidden 36 = .ok (.iload_n 2, 1) := by decide +kernel
theorem dX8_hidden_37 : decode cX8_hidden 37 = .ok (.iconst 1, 1) := by decide +kernel
theorem dX8_hidden_38 : decode cX8_hidden 38 = .ok (.if_icmp .ne 7, 3) := by decide +kernel
theorem dX8_hidden_41 : decode cX8_hidden 41 = .ok (.iconst 0, 1) := by decide +kernel
theorem dX8_hidden_42 : decode cX8_hidden 42 = .ok (.goto 4, 3) := by decide +kernel
theorem dX8_hidden_45 : decode cX8_hidden 45 = .ok (.iconst (-1), 1) := by decide +kernel
theorem dX8_hidden_46 : decode cX8_hidden 46 = .ok (.ireturn, 1) := by decide +kernel
theorem dX8_hidden_47 : decode cX8_hidden 47 = .ok (.aload_n 0, 1) := by decide +kernel
theorem dX8_hidden_48 : decode cX8_hidden 48 = .ok (.getfield 566, 3) := by decide +kernel
theorem dX8_hidden_51 : decode cX8_hidden 51 = .ok (.iconst 1, 1) := by decide +kernel
theorem dX8_hidden_52 : decode cX8_hidden 52 = .ok (.isub, 1) := by decide +kernel
theorem dX8_hidden_53 : decode cX8_hidden 53 = .ok (.istore_n 3, 1) := by decide +kernel
theorem dX8_hidden_54 : decode cX8_hidden 54 = .ok (.iload_n 3, 1) := by decide +kernel
theorem dX8_hidden_55 : decode cX8_hidden 55 = .ok (.ifCond .lt 15, 3) := by decide +kernel
theorem dX8_hidden_58 : decode cX8_hidden 58 = .ok (.aload_n 0, 1) := by decide +kernel
theorem dX8_hidden_59 : decode cX8_hidden 59 = .ok (.iload_n 3, 1) := by decide +kernel
theorem dX8_hidden_60 : decode cX8_hidden 60 = .ok (.iload_n 1, 1) := by decide +kernel
theorem dX8_hidden_61 : decode cX8_hidden 61 = .ok (.invokevirtual 579, 3) := by decide +kernel
theorem dX8_hidden_64 : decode cX8_hidden 64 = .ok (.iinc 3 (-1), 3) := by decide +kernel
theorem dX8_hidden_67 : decode cX8_hidden 67 = .ok (.goto (-13), 3) := by decide +kernel
theorem dX8_hidden_70 : decode cX8_hidden 70 = .ok (.aload_n 0, 1) := by decide +kernel
theorem dX8_hidden_71 : decode cX8_hidden 71 = .ok (.getfield 175, 3) := by decide +kernel
theorem dX8_hidden_74 : decode cX8_hidden 74 = .ok (.iconst 0, 1) := by decide +kernel
theorem dX8_hidden_75 : decode cX8_hidden 75 = .ok (.iaload, 1) := by decide +kernel
theorem dX8_hidden_76 : decode cX8_hidden 76 = .ok (.sipush 1000, 3) := by decide +kernel
theorem dX8_hidden_79 : decode cX8_hidden 79 = .ok (.if_icmp .lt 5, 3) := by decide +kernel
theorem dX8_hidden_82 : decode cX8_hidden 82 = .ok (.iconst (-1), 1) := by decide +kernel
theorem dX8_hidden_83 : decode cX8_hidden 83 = .ok (.ireturn, 1) := by decide +kernel
theorem dX8_hidden_84 : decode cX8_hidden 84 = .ok (.iload_n 2, 1) := by decide +kernel
theorem dX8_hidden_85 : decode cX8_hidden 85 = .ok (.bipush 10, 2) := by decide +kernel
theorem dX8_hidden_87 : decode cX8_hidden 87 = .ok (.if_icmp .ge 32, 3) := by decide +kernel
theorem dX8_hidden_90 : decode cX8_hidden 90 = .ok (.iload_n 2, 1) := by decide +kernel
theorem dX8_hidden_91 : decode cX8_hidden 91 = .ok (.ifCond .ne 12, 3) := by decide +kernel
theorem dX8_hidden_94 : decode cX8_hidden 94 = .ok (.aload_n 0, 1) := by decide +kernel
theorem dX8_hidden_95 : decode cX8_hidden 95 = .ok (.getfield 175, 3) := by decide +kernel
theorem dX8_hidden_98 : decode cX8_hidden 98 = .ok (.iconst 0, 1) := by decide +kernel
theorem dX8_hidden_99 : decode cX8_hidden 99 = .ok (.iaload, 1) := by decide +kernel
theorem dX8_hidden_100 : decode cX8_hidden 100 = .ok (.goto 18, 3) := by decide +kernel
theorem dX8_hidden_103 : decode cX8_hidden 103 = .ok (.iload_n 2, 1) := by decide +kernel
theorem dX8_hidden_104 : decode cX8_hidden 104 = .ok (.iconst 1, 1) := by decide +kernel
theorem dX8_hidden_105 : decode cX8_hidden 105 = .ok (.if_icmp .ne 12, 3) := by decide +kernel
theorem dX8_hidden_108 : decode cX8_hidden 108 = .ok (.aload_n 0, 1) := by decide +kernel
theorem dX8_hidden_109 : decode cX8_hidden 109 = .ok (.getfield 178, 3) := by decide +kernel
theorem dX8_hidden_112 : decode cX8_hidden 112 = .ok (.iconst 0, 1) := by decide +kernel
theorem dX8_hidden_113 : decode cX8_hidden 113 = .ok (.iaload, 1) := by decide +kernel
theorem dX8_hidden_114 : decode cX8_hidden 114 = .ok (.goto 4, 3) := by decide +kernel
theorem dX8_hidden_117 : decode cX8_hidden 117 = .ok (.iconst (-1), 1) := by decide +kernel
theorem dX8_hidden_118 : decode cX8_hidden 118 = .ok (.ireturn, 1) := by decide +kernel
theorem dX8_hidden_119 : decode cX8_hidden 119 = .ok (.iconst 0, 1) := by decide +kernel
theorem dX8_hidden_120 : decode cX8_hidden 120 = .ok (.istore_n 3, 1) := by decide +kernel
theorem dX8_hidden_121 : decode cX8_hidden 121 = .ok (.bipush 10, 2) := by decide +kernel
theorem dX8_hidden_123 : decode cX8_hidden 123 = .ok (.istore 4, 2) := by decide +kernel
theorem dX8_hidden_125 : decode cX8_hidden 125 = .ok (.iload 4, 2) := by decide +kernel
theorem dX8_hidden_127 : decode cX8_hidden 127 = .ok (.iload_n 2, 1) := by decide +kernel
theorem dX8_hidden_128 : decode cX8_hidden 128 = .ok (.if_icmp .gt 24, 3) := by decide +kernel
theorem dX8_hidden_131 : decode cX8_hidden 131 = .ok (.iload_n 3, 1) := by decide +kernel
theorem dX8_hidden_132 : decode cX8_hidden 132 = .ok (.aload_n 0, 1) := by decide +kernel
theorem dX8_hidden_133 : decode cX8_hidden 133 = .ok (.getfield 566, 3) := by decide +kernel
theorem dX8_hidden_136 : decode cX8_hidden 136 = .ok (.if_icmp .eq 16, 3) := by decide +kernel
theorem dX8_hidden_139 : decode cX8_hidden 139 = .ok (.aload_n 0, 1) := by decide +kernel
theorem dX8_hidden_140 : decode cX8_hidden 140 = .ok (.getfield 181, 3) := by decide +kernel
theorem dX8_hidden_143 : decode cX8_hidden 143 = .ok (.iload_n 3, 1) := by decide +kernel
theorem dX8_hidden_144 : decode cX8_hidden 144 = .ok (.iaload, 1) := by decide +kernel
theorem dX8_hidden_145 : decode cX8_hidden 145 = .ok (.istore_n 3, 1) := by decide +kernel
theorem dX8_hidden_146 : decode cX8_hidden 146 = .ok (.iinc 4 1, 3) := by decide +kernel
theorem dX8_hidden_149 : decode cX8_hidden 149 = .ok (.goto (-24), 3) := by decide +kernel
theorem dX8_hidden_152 : decode cX8_hidden 152 = .ok (.iload_n 3, 1) := by decide +kernel
theorem dX8_hidden_153 : decode cX8_hidden 153 = .ok (.aload_n 0, 1) := by decide +kernel
theorem dX8_hidden_154 : decode cX8_hidden 154 = .ok (.getfield 566, 3) := by decide +kernel
theorem dX8_hidden_157 : decode cX8_hidden 157 = .ok (.if_icmp .ne 7, 3) := by decide +kernel
theorem dX8_hidden_160 : decode cX8_hidden 160 = .ok (.iconst (-1), 1) := by decide +kernel
theorem dX8_hidden_161 : decode cX8_hidden 161 = .ok (.goto 9, 3) := by decide +kernel
theorem dX8_hidden_164 : decode cX8_hidden 164 = .ok (.aload_n 0, 1) := by decide +kernel
theorem dX8_hidden_165 : decode cX8_hidden 165 = .ok (.getfield 169, 3) := by decide +kernel
theorem dX8_hidden_168 : decode cX8_hidden 168 = .ok (.iload_n 3, 1) := by decide +kernel
theorem dX8_hidden_169 : decode cX8_hidden 169 = .ok (.iaload, 1) := by decide +kernel
theorem dX8_hidden_170 : decode cX8_hidden 170 = .ok (.ireturn, 1) := by decide +kernel
theorem dX8_lastDone_0 : decode cX8_lastDone 0 = .ok (.iload_n 1, 1) := by decide +kernel
theorem dX8_lastDone_1 : decode cX8_lastDone 1 = .ok (.istore 4, 2) := by decide +kernel
theorem dX8_lastDone_3 : decode cX8_lastDone 3 = .ok (.aload_n 0, 1) := by decide +kernel
theorem dX8_lastDone_4 : decode cX8_lastDone 4 = .ok (.invokevirtual 431, 3) := by decide +kernel
theorem dX8_lastDone_7 : decode cX8_lastDone 7 = .ok (.iconst 1, 1) := by decide +kernel
theorem dX8_lastDone_8 : decode cX8_lastDone 8 = .ok (.isub, 1) := by decide +kernel
theorem dX8_lastDone_9 : decode cX8_lastDone 9 = .ok (.istore 5, 2) := by decide +kernel
theorem dX8_lastDone_11 : decode cX8_lastDone 11 = .ok (.iload 5, 2) := by decide +kernel
theorem dX8_lastDone_13 : decode cX8_lastDone 13 = .ok (.ifCond .lt 26, 3) := by decide +kernel
theorem dX8_lastDone_16 : decode cX8_lastDone 16 = .ok (.aload_n 0, 1) := by decide +kernel
theorem dX8_lastDone_17 : decode cX8_lastDone 17 = .ok (.getfield 184, 3) := by decide +kernel
theorem dX8_lastDone_20 : decode cX8_lastDone 20 = .ok (.iload 5, 2) := by decide +kernel
theorem dX8_lastDone_22 : decode cX8_lastDone 22 = .ok (.iload 4, 2) := by decide +kernel
theorem dX8_lastDone_24 : decode cX8_lastDone 24 = .ok (.iload_n 2, 1) := by decide +kernel
theorem dX8_lastDone_25 : decode cX8_lastDone 25 = .ok (.irem, 1) := by decide +kernel
theorem dX8_lastDone_26 : decode cX8_lastDone 26 = .ok (.iastore, 1) := by decide +kernel
theorem dX8_lastDone_27 : decode cX8_lastDone 27 = .ok (.iload 4, 2) := by decide +kernel
theorem dX8_lastDone_29 : decode cX8_lastDone 29 = .ok (.iload_n 2, 1) := by decide +kernel
theorem dX8_lastDone_30 : decode cX8_lastDone 30 = .ok (.idiv, 1) := by decide +kernel
theorem dX8_lastDone_31 : decode cX8_lastDone 31 = .ok (.istore 4, 2) := by decide +kernel
theorem dX8_lastDone_33 : decode cX8_lastDone 33 = .ok (.iinc 5 (-1), 3) := by decide +kernel
theorem dX8_lastDone_36 : decode cX8_lastDone 36 = .ok (.goto (-25), 3) := by decide +kernel
theorem dX8_lastDone_39 : decode cX8_lastDone 39 = .ok (.iconst 0, 1) := by decide +kernel
theorem dX8_lastDone_40 : decode cX8_lastDone 40 = .ok (.istore 5, 2) := by decide +kernel
theorem dX8_lastDone_42 : decode cX8_lastDone 42 = .ok (.iload 5, 2) := by decide +kernel
theorem dX8_lastDone_44 : decode cX8_lastDone 44 = .ok (.iload_n 2, 1) := by decide +kernel
theorem dX8_lastDone_45 : decode cX8_lastDone 45 = .ok (.if_icmp .ge 25, 3) := by decide +kernel
theorem dX8_lastDone_48 : decode cX8_lastDone 48 = .ok (.aload_n 0, 1) := by decide +kernel
theorem dX8_lastDone_49 : decode cX8_lastDone 49 = .ok (.getfield 190, 3) := by decide +kernel
theorem dX8_lastDone_52 : decode cX8_lastDone 52 = .ok (.iload 5, 2) := by decide +kernel
theorem dX8_lastDone_54 : decode cX8_lastDone 54 = .ok (.iconst 0, 1) := by decide +kernel
theorem dX8_lastDone_55 : decode cX8_lastDone 55 = .ok (.iastore, 1) := by decide +kernel
theorem dX8_lastDone_56 : decode cX8_lastDone 56 = .ok (.aload_n 0, 1) := by decide +kernel
theorem dX8_lastDone_57 : decode cX8_lastDone 57 = .ok (.getfield 193, 3) := by decide +kernel
theorem dX8_lastDone_60 : decode cX8_lastDone 60 = .ok (.iload 5, 2) := by decide +kernel
theorem dX8_lastDone_62 : decode cX8_lastDone 62 = .ok (.iconst 0, 1) := by decide +kernel
theorem dX8_lastDone_63 : decode cX8_lastDone 63 = .ok (.iastore, 1) := by decide +kernel
theorem dX8_lastDone_64 : decode cX8_lastDone 64 = .ok (.iinc 5 1, 3) := by decide +kernel
theorem dX8_lastDone_67 : decode cX8_lastDone 67 = .ok (.goto (-25), 3) := by decide +kernel
theorem dX8_lastDone_70 : decode cX8_lastDone 70 = .ok (.iconst 0, 1) := by decide +kernel
theorem dX8_lastDone_71 : decode cX8_lastDone 71 = .ok (.istore 5, 2) := by decide +kernel
theorem dX8_lastDone_73 : decode cX8_lastDone 73 = .ok (.iload 5, 2) := by decide +kernel
theorem dX8_lastDone_75 : decode cX8_lastDone 75 = .ok (.aload_n 0, 1) := by decide +kernel
theorem dX8_lastDone_76 : decode cX8_lastDone 76 = .ok (.invokevirtual 431, 3) := by decide +kernel
theorem dX8_lastDone_79 : decode cX8_lastDone 79 = .ok (.if_icmp .ge 109, 3) := by decide +kernel
theorem dX8_lastDone_82 : decode cX8_lastDone 82 = .ok (.aload_n 0, 1) := by decide +kernel
theorem dX8_lastDone_83 : decode cX8_lastDone 83 = .ok (.getfield 184, 3) := by decide +kernel
theorem dX8_lastDone_86 : decode cX8_lastDone 86 = .ok (.iload 5, 2) := by decide +kernel
theorem dX8_lastDone_88 : decode cX8_lastDone 88 = .ok (.iaload, 1) := by decide +kernel
theorem dX8_lastDone_89 : decode cX8_lastDone 89 = .ok (.istore 6, 2) := by decide +kernel
theorem dX8_lastDone_91 : decode cX8_lastDone 91 = .ok (.aload_n 0, 1) := by decide +kernel
theorem dX8_lastDone_92 : decode cX8_lastDone 92 = .ok (.getfield 190, 3) := by decide +kernel
theorem dX8_lastDone_95 : decode cX8_lastDone 95 = .ok (.iload 6, 2) := by decide +kernel
theorem dX8_lastDone_97 : decode cX8_lastDone 97 = .ok (.iaload, 1) := by decide +kernel
theorem dX8_lastDone_98 : decode cX8_lastDone 98 = .ok (.aload_n 0, 1) := by decide +kernel
theorem dX8_lastDone_99 : decode cX8_lastDone 99 = .ok (.iload 5, 2) := by decide +kernel
theorem dX8_lastDone_101 : decode cX8_lastDone 101 = .ok (.invokevirtual 434, 3) := by decide +kernel
theorem dX8_lastDone_104 : decode cX8_lastDone 104 = .ok (.iadd, 1) := by decide +kernel
theorem dX8_lastDone_105 : decode cX8_lastDone 105 = .ok (.iload_n 3, 1) := by decide +kernel
theorem dX8_lastDone_106 : decode cX8_lastDone 106 = .ok (.if_icmp .le 7, 3) := by decide +kernel
theorem dX8_lastDone_109 : decode cX8_lastDone 109 = .ok (.iconst 1, 1) := by decide +kernel
theorem dX8_lastDone_110 : decode cX8_lastDone 110 = .ok (.goto 4, 3) := by decide +kernel
theorem dX8_lastDone_113 : decode cX8_lastDone 113 = .ok (.iconst 0, 1) := by decide +kernel
theorem dX8_lastDone_114 : decode cX8_lastDone 114 = .ok (.istore 7, 2) := by decide +kernel
theorem dX8_lastDone_116 : decode cX8_lastDone 116 = .ok (.iload 7, 2) := by decide +kernel
theorem dX8_lastDone_118 : decode cX8_lastDone 118 = .ok (.ifCond .eq 18, 3) := by decide +kernel
theorem dX8_lastDone_121 : decode cX8_lastDone 121 = .ok (.aload_n 0, 1) := by decide +kernel
theorem dX8_lastDone_122 : decode cX8_lastDone 122 = .ok (.getfield 193, 3) := by decide +kernel
theorem dX8_lastDone_125 : decode cX8_lastDone 125 = .ok (.iload 6, 2) := by decide +kernel
theorem dX8_lastDone_127 : decode cX8_lastDone 127 = .ok (.dup2, 1) := by decide +kernel
theorem dX8_lastDone_128 : decode cX8_lastDone 128 = .ok (.iaload, 1) := by decide +kernel
theorem dX8_lastDone_129 : decode cX8_lastDone 129 = .ok (.aload_n 0, 1) := by decide +kernel
theorem dX8_lastDone_130 : decode cX8_lastDone 130 = .ok (.iconst 0, 1) := by decide +kernel
theorem dX8_lastDone_131 : decode cX8_lastDone 131 = .ok (.invokevirtual 461, 3) := by decide +kernel
theorem dX8_lastDone_134 : decode cX8_lastDone 134 = .ok (.iadd, 1) := by decide +kernel
theorem dX8_lastDone_135 : decode cX8_lastDone 135 = .ok (.iastore, 1) := by decide +kernel
theorem dX8_lastDone_136 : decode cX8_lastDone 136 = .ok (.aload_n 0, 1) := by decide +kernel
theorem dX8_lastDone_137 : decode cX8_lastDone 137 = .ok (.getfield 190, 3) := by decide +kernel
theorem dX8_lastDone_140 : decode cX8_lastDone 140 = .ok (.iload 6, 2) := by decide +kernel
theorem dX8_lastDone_142 : decode cX8_lastDone 142 = .ok (.iload 7, 2) := by decide +kernel
theorem dX8_lastDone_144 : decode cX8_lastDone 144 = .ok (.ifCond .eq 7, 3) := by decide +kernel
theorem dX8_lastDone_147 : decode cX8_lastDone 147 = .ok (.iconst 0, 1) := by decide +kernel
theorem dX8_lastDone_148 : decode cX8_lastDone 148 = .ok (.goto 10, 3) := by decide +kernel
theorem dX8_lastDone_151 : decode cX8_lastDone 151 = .ok (.aload_n 0, 1) := by decide +kernel
theorem dX8_lastDone_152 : decode cX8_lastDone 152 = .ok (.getfield 190, 3) := by decide +kernel
theorem dX8_lastDone_155 : decode cX8_lastDone 155 = .ok (.iload 6, 2) := by decide +kernel
theorem dX8_lastDone_157 : decode cX8_lastDone 157 = .ok (.iaload, 1) := by decide +kernel
theorem dX8_lastDone_158 : decode cX8_lastDone 158 = .ok (.aload_n 0, 1) := by decide +kernel
theorem dX8_lastDone_159 : decode cX8_lastDone 159 = .ok (.iload 5, 2) := by decide +kernel
theorem dX8_lastDone_161 : decode cX8_lastDone 161 = .ok (.invokevirtual 434, 3) := by decide +kernel
theorem dX8_lastDone_164 : decode cX8_lastDone 164 = .ok (.iadd, 1) := by decide +kernel
theorem dX8_lastDone_165 : decode cX8_lastDone 165 = .ok (.iastore, 1) := by decide +kernel
theorem dX8_lastDone_166 : decode cX8_lastDone 166 = .ok (.aload_n 0, 1) := by decide +kernel
theorem dX8_lastDone_167 : decode cX8_lastDone 167 = .ok (.getfield 193, 3) := by decide +kernel
theorem dX8_lastDone_170 : decode cX8_lastDone 170 = .ok (.iload 6, 2) := by decide +kernel
theorem dX8_lastDone_172 : decode cX8_lastDone 172 = .ok (.dup2, 1) := by decide +kernel
theorem dX8_lastDone_173 : decode cX8_lastDone 173 = .ok (.iaload, 1) := by decide +kernel
theorem dX8_lastDone_174 : decode cX8_lastDone 174 = .ok (.aload_n 0, 1) := by decide +kernel
theorem dX8_lastDone_175 : decode cX8_lastDone 175 = .ok (.iload 5, 2) := by decide +kernel
theorem dX8_lastDone_177 : decode cX8_lastDone 177 = .ok (.invokevirtual 434, 3) := by decide +kernel
theorem dX8_lastDone_180 : decode cX8_lastDone 180 = .ok (.iadd, 1) := by decide +kernel
theorem dX8_lastDone_181 : decode cX8_lastDone 181 = .ok (.iastore, 1) := by decide +kernel
theorem dX8_lastDone_182 : decode cX8_lastDone 182 = .ok (.iinc 5 1, 3) := by decide +kernel
theorem dX8_lastDone_185 : decode cX8_lastDone 185 = .ok (.goto (-112), 3) := by decide +kernel
theorem dX8_lastDone_188 : decode cX8_lastDone 188 = .ok (.iconst 0, 1) := by decide +kernel
theorem dX8_lastDone_189 : decode cX8_lastDone 189 = .ok (.istore 5, 2) := by decide +kernel
theorem dX8_lastDone_191 : decode cX8_lastDone 191 = .ok (.iconst 0, 1) := by decide +kernel
theorem dX8_lastDone_192 : decode cX8_lastDone 192 = .ok (.istore 6, 2) := by decide +kernel
theorem dX8_lastDone_194 : decode cX8_lastDone 194 = .ok (.iload 6, 2) := by decide +kernel
theorem dX8_lastDone_196 : decode cX8_lastDone 196 = .ok (.iload_n 2, 1) := by decide +kernel
theorem dX8_lastDone_197 : decode cX8_lastDone 197 = .ok (.if_icmp .ge 30, 3) := by decide +kernel
theorem dX8_lastDone_200 : decode cX8_lastDone 200 = .ok (.aload_n 0, 1) := by decide +kernel
theorem dX8_lastDone_201 : decode cX8_lastDone 201 = .ok (.getfield 193, 3) := by decide +kernel
theorem dX8_lastDone_204 : decode cX8_lastDone 204 = .ok (.iload 6, 2) := by decide +kernel
theorem dX8_lastDone_206 : decode cX8_lastDone 206 = .ok (.iaload, 1) := by decide +kernel
theorem dX8_lastDone_207 : decode cX8_lastDone 207 = .ok (.iload 5, 2) := by decide +kernel
theorem dX8_lastDone_209 : decode cX8_lastDone 209 = .ok (.if_icmp .le 12, 3) := by decide +kernel
theorem dX8_lastDone_212 : decode cX8_lastDone 212 = .ok (.aload_n 0, 1) := by decide +kernel
theorem dX8_lastDone_213 : decode cX8_lastDone 213 = .ok (.getfield 193, 3) := by decide +kernel
theorem dX8_lastDone_216 : decode cX8_lastDone 216 = .ok (.iload 6, 2) := by decide +kernel
theorem dX8_lastDone_218 : decode cX8_lastDone 218 = .ok (.iaload, 1) := by decide +kernel
theorem dX8_lastDone_219 : decode cX8_lastDone 219 = .ok (.istore 5, 2) := by decide +kernel
theorem dX8_lastDone_221 : decode cX8_lastDone 221 = .ok (.iinc 6 1, 3) := by decide +kernel
theorem dX8_lastDone_224 : decode cX8_lastDone 224 = .ok (.goto (-30), 3) := by decide +kernel
theorem dX8_lastDone_227 : decode cX8_lastDone 227 = .ok (.iload 5, 2) := by decide +kernel
theorem dX8_lastDone_229 : decode cX8_lastDone 229 = .ok (.ireturn, 1) := by decide +kernel
theorem dX8_several_0 : decode cX8_several 0 = .ok (.aload_n 0, 1) := by decide +kernel
theorem dX8_several_1 : decode cX8_several 1 = .ok (.iload_n 1, 1) := by decide +kernel
theorem dX8_several_2 : decode cX8_several 2 = .ok (.iload_n 2, 1) := by decide +kernel
theorem dX8_several_3 : decode cX8_several 3 = .ok (.invokevirtual 554, 3) := by decide +kernel
theorem dX8_several_6 : decode cX8_several 6 = .ok (.ifCond .eq 11, 3) := by decide +kernel
theorem dX8_several_9 : decode cX8_several 9 = .ok (.aload_n 0, 1) := by decide +kernel
theorem dX8_several_10 : decode cX8_several 10 = .ok (.iload_n 1, 1) := by decide +kernel
theorem dX8_several_11 : decode cX8_several 11 = .ok (.invokevirtual 557, 3) := by decide +kernel
theorem dX8_several_14 : decode cX8_several 14 = .ok (.ifCond .ne 5, 3) := by decide +kernel
theorem dX8_several_17 : decode cX8_several 17 = .ok (.iconst (-1), 1) := by decide +kernel
theorem dX8_several_18 : decode cX8_several 18 = .ok (.ireturn, 1) := by decide +kernel
theorem dX8_several_19 : decode cX8_several 19 = .ok (.aload_n 0, 1) := by decide +kernel
theorem dX8_several_20 : decode cX8_several 20 = .ok (.iconst 5, 1) := by decide +kernel
theorem dX8_several_21 : decode cX8_several 21 = .ok (.invokevirtual 461, 3) := by decide +kernel
theorem dX8_several_24 : decode cX8_several 24 = .ok (.istore_n 3, 1) := by decide +kernel
theorem dX8_several_25 : decode cX8_several 25 = .ok (.iconst 1, 1) := by decide +kernel
theorem dX8_several_26 : decode cX8_several 26 = .ok (.istore 4, 2) := by decide +kernel
theorem dX8_several_28 : decode cX8_several 28 = .ok (.iconst 0, 1) := by decide +kernel
theorem dX8_several_29 : decode cX8_several 29 = .ok (.istore 5, 2) := by decide +kernel
theorem dX8_several_31 : decode cX8_several 31 = .ok (.iload 5, 2) := by decide +kernel
theorem dX8_several_33 : decode cX8_several 33 = .ok (.aload_n 0, 1) := by decide +kernel
theorem dX8_several_34 : decode cX8_several 34 = .ok (.invokevirtual 431, 3) := by decide +kernel
theorem dX8_several_37 : decode cX8_several 37 = .ok (.if_icmp .ge 15, 3) := by decide +kernel
theorem dX8_several_40 : decode cX8_several 40 = .ok (.iload 4, 2) := by decide +kernel
theorem dX8_several_42 : decode cX8_several 42 = .ok (.iload_n 3, 1) := by decide +kernel
theorem dX8_several_43 : decode cX8_several 43 = .ok (.imul, 1) := by decide +kernel
theorem dX8_several_44 : decode cX8_several 44 = .ok (.istore 4, 2) := by decide +kernel
theorem dX8_several_46 : decode cX8_several 46 = .ok (.iinc 5 1, 3) := by decide +kernel
theorem dX8_several_49 : decode cX8_several 49 = .ok (.goto (-18), 3) := by decide +kernel
theorem dX8_several_52 : decode cX8_several 52 = .ok (.iconst (-1), 1) := by decide +kernel
theorem dX8_several_53 : decode cX8_several 53 = .ok (.istore 5, 2) := by decide +kernel
theorem dX8_several_55 : decode cX8_several 55 = .ok (.iconst 0, 1) := by decide +kernel
theorem dX8_several_56 : decode cX8_several 56 = .ok (.istore 6, 2) := by decide +kernel
theorem dX8_several_58 : decode cX8_several 58 = .ok (.iload 6, 2) := by decide +kernel
theorem dX8_several_60 : decode cX8_several 60 = .ok (.iload 4, 2) := by decide +kernel
theorem dX8_several_62 : decode cX8_several 62 = .ok (.if_icmp .ge 71, 3) := by decide +kernel
theorem dX8_several_65 : decode cX8_several 65 = .ok (.aload_n 0, 1) := by decide +kernel
theorem dX8_several_66 : decode cX8_several 66 = .ok (.iload 6, 2) := by decide +kernel
theorem dX8_several_68 : decode cX8_several 68 = .ok (.iload_n 3, 1) := by decide +kernel
theorem dX8_several_69 : decode cX8_several 69 = .ok (.iload_n 1, 1) := by decide +kernel
theorem dX8_several_70 : decode cX8_several 70 = .ok (.invokevirtual 582, 3) := by decide +kernel
theorem dX8_several_73 : decode cX8_several 73 = .ok (.istore 7, 2) := by decide +kernel
theorem dX8_several_75 : decode cX8_several 75 = .ok (.iload 5, 2) := by decide +kernel
theorem dX8_several_77 : decode cX8_several 77 = .ok (.iconst (-1), 1) := by decide +kernel
theorem dX8_several_78 : decode cX8_several 78 = .ok (.if_icmp .eq 13, 3) := by decide +kernel
theorem dX8_several_81 : decode cX8_several 81 = .ok (.iload 7, 2) := by decide +kernel
theorem dX8_several_83 : decode cX8_several 83 = .ok (.iload 5, 2) := by decide +kernel
theorem dX8_several_85 : decode cX8_several 85 = .ok (.if_icmp .lt 6, 3) := by decide +kernel
theorem dX8_several_88 : decode cX8_several 88 = .ok (.goto 39, 3) := by decide +kernel
theorem dX8_several_91 : decode cX8_several 91 = .ok (.iload 7, 2) := by decide +kernel
theorem dX8_several_93 : decode cX8_several 93 = .ok (.istore 5, 2) := by decide +kernel
theorem dX8_several_95 : decode cX8_several 95 = .ok (.iconst 0, 1) := by decide +kernel
theorem dX8_several_96 : decode cX8_several 96 = .ok (.istore 8, 2) := by decide +kernel
theorem dX8_several_98 : decode cX8_several 98 = .ok (.iload 8, 2) := by decide +kernel
theorem dX8_several_100 : decode cX8_several 100 = .ok (.aload_n 0, 1) := by decide +kernel
theorem dX8_several_101 : decode cX8_several 101 = .ok (.invokevirtual 431, 3) := by decide +kernel
theorem dX8_several_104 : decode cX8_several 104 = .ok (.if_icmp .ge 23, 3) := by decide +kernel
theorem dX8_several_107 : decode cX8_several 107 = .ok (.aload_n 0, 1) := by decide +kernel
theorem dX8_several_108 : decode cX8_several 108 = .ok (.getfield 187, 3) := by decide +kernel
theorem dX8_several_111 : decode cX8_several 111 = .ok (.iload 8, 2) := by decide +kernel
theorem dX8_several_113 : decode cX8_several 113 = .ok (.aload_n 0, 1) := by decide +kernel
theorem dX8_several_114 : decode cX8_several 114 = .ok (.getfield 184, 3) := by decide +kernel
theorem dX8_several_117 : decode cX8_several 117 = .ok (.iload 8, 2) := by decide +kernel
theorem dX8_several_119 : decode cX8_several 119 = .ok (.iaload, 1) := by decide +kernel
theorem dX8_several_120 : decode cX8_several 120 = .ok (.iastore, 1) := by decide +kernel
theorem dX8_several_121 : decode cX8_several 121 = .ok (.iinc 8 1, 3) := by decide +kernel
theorem dX8_several_124 : decode cX8_several 124 = .ok (.goto (-26), 3) := by decide +kernel
theorem dX8_several_127 : decode cX8_several 127 = .ok (.iinc 6 1, 3) := by decide +kernel
theorem dX8_several_130 : decode cX8_several 130 = .ok (.goto (-72), 3) := by decide +kernel
theorem dX8_several_133 : decode cX8_several 133 = .ok (.iload_n 2, 1) := by decide +kernel
theorem dX8_several_134 : decode cX8_several 134 = .ok (.iconst (-1), 1) := by decide +kernel
theorem dX8_several_135 : decode cX8_several 135 = .ok (.if_icmp .ne 8, 3) := by decide +kernel
theorem dX8_several_138 : decode cX8_several 138 = .ok (.iload 5, 2) := by decide +kernel
theorem dX8_several_140 : decode cX8_several 140 = .ok (.goto 9, 3) := by decide +kernel
theorem dX8_several_143 : decode cX8_several 143 = .ok (.aload_n 0, 1) := by decide +kernel
theorem dX8_several_144 : decode cX8_several 144 = .ok (.getfield 187, 3) := by decide +kernel
theorem dX8_several_147 : decode cX8_several 147 = .ok (.iload_n 2, 1) := by decide +kernel
theorem dX8_several_148 : decode cX8_several 148 = .ok (.iaload, 1) := by decide +kernel
theorem dX8_several_149 : decode cX8_several 149 = .ok (.ireturn, 1) := by decide +kernel
theorem dX8_wound_0 : decode cX8_wound 0 = .ok (.iload_n 1, 1) := by decide +kernel
theorem dX8_wound_1 : decode cX8_wound 1 = .ok (.i2l, 1) := by decide +kernel
theorem dX8_wound_2 : decode cX8_wound 2 = .ok (.lconst 0, 1) := by decide +kernel
theorem dX8_wound_3 : decode cX8_wound 3 = .ok (.ldc2_w 513, 3) := by decide +kernel
theorem dX8_wound_6 : decode cX8_wound 6 = .ok (.invokestatic 333, 3) := by decide +kernel
theorem dX8_wound_9 : decode cX8_wound 9 = .ok (.ifCond .ne 5, 3) := by decide +kernel
theorem dX8_wound_12 : decode cX8_wound 12 = .ok (.iconst (-1), 1) := by decide +kernel
theorem dX8_wound_13 : decode cX8_wound 13 = .ok (.ireturn, 1) := by decide +kernel
theorem dX8_wound_14 : decode cX8_wound 14 = .ok (.aload_n 0, 1) := by decide +kernel
theorem dX8_wound_15 : decode cX8_wound 15 = .ok (.getfield 196, 3) := by decide +kernel
theorem dX8_wound_18 : decode cX8_wound 18 = .ok (.iconst 0, 1) := by decide +kernel
theorem dX8_wound_19 : decode cX8_wound 19 = .ok (.iconst 0, 1) := by decide +kernel
theorem dX8_wound_20 : decode cX8_wound 20 = .ok (.iastore, 1) := by decide +kernel
theorem dX8_wound_21 : decode cX8_wound 21 = .ok (.iconst 1, 1) := by decide +kernel
theorem dX8_wound_22 : decode cX8_wound 22 = .ok (.istore_n 2, 1) := by decide +kernel
theorem dX8_wound_23 : decode cX8_wound 23 = .ok (.iload_n 2, 1) := by decide +kernel
theorem dX8_wound_24 : decode cX8_wound 24 = .ok (.iload_n 1, 1) := by decide +kernel
theorem dX8_wound_25 : decode cX8_wound 25 = .ok (.if_icmp .gt 75, 3) := by decide +kernel
theorem dX8_wound_28 : decode cX8_wound 28 = .ok (.aload_n 0, 1) := by decide +kernel
theorem dX8_wound_29 : decode cX8_wound 29 = .ok (.getfield 196, 3) := by decide +kernel
theorem dX8_wound_32 : decode cX8_wound 32 = .ok (.iload_n 2, 1) := by decide +kernel
theorem dX8_wound_33 : decode cX8_wound 33 = .ok (.iconst 1, 1) := by decide +kernel
theorem dX8_wound_34 : decode cX8_wound 34 = .ok (.isub, 1) := by decide +kernel
theorem dX8_wound_35 : decode cX8_wound 35 = .ok (.iaload, 1) := by decide +kernel
theorem dX8_wound_36 : decode cX8_wound 36 = .ok (.aload_n 0, 1) := by decide +kernel
theorem dX8_wound_37 : decode cX8_wound 37 = .ok (.iconst 0, 1) := by decide +kernel
theorem dX8_wound_38 : decode cX8_wound 38 = .ok (.invokevirtual 461, 3) := by decide +kernel
theorem dX8_wound_41 : decode cX8_wound 41 = .ok (.iadd, 1) := by decide +kernel
theorem dX8_wound_42 : decode cX8_wound 42 = .ok (.istore_n 3, 1) := by decide +kernel
theorem dX8_wound_43 : decode cX8_wound 43 = .ok (.aload_n 0, 1) := by decide +kernel
theorem dX8_wound_44 : decode cX8_wound 44 = .ok (.getfield 196, 3) := by decide +kernel
theorem dX8_wound_47 : decode cX8_wound 47 = .ok (.iload_n 2, 1) := by decide +kernel
theorem dX8_wound_48 : decode cX8_wound 48 = .ok (.aload_n 0, 1) := by decide +kernel
theorem dX8_wound_49 : decode cX8_wound 49 = .ok (.iconst 4, 1) := by decide +kernel
theorem dX8_wound_50 : decode cX8_wound 50 = .ok (.invokevirtual 461, 3) := by decide +kernel
theorem dX8_wound_53 : decode cX8_wound 53 = .ok (.if_icmp .le 13, 3) := by decide +kernel
theorem dX8_wound_56 : decode cX8_wound 56 = .ok (.iload_n 2, 1) := by decide +kernel
theorem dX8_wound_57 : decode cX8_wound 57 = .ok (.aload_n 0, 1) := by decide +kernel
theorem dX8_wound_58 : decode cX8_wound 58 = .ok (.iconst 4, 1) := by decide +kernel
theorem dX8_wound_59 : decode cX8_wound 59 = .ok (.invokevirtual 461, 3) := by decide +kernel
theorem dX8_wound_62 : decode cX8_wound 62 = .ok (.isub, 1) := by decide +kernel
theorem dX8_wound_63 : decode cX8_wound 63 = .ok (.goto 4, 3) := by decide +kernel
theorem dX8_wound_66 : decode cX8_wound 66 = .ok (.iconst 0, 1) := by decide +kernel
theorem dX8_wound_67 : decode cX8_wound 67 = .ok (.iaload, 1) := by decide +kernel
theorem dX8_wound_68 : decode cX8_wound 68 = .ok (.aload_n 0, 1) := by decide +kernel
theorem dX8_wound_69 : decode cX8_wound 69 = .ok (.iconst 3, 1) := by decide +kernel
theorem dX8_wound_70 : decode cX8_wound 70 = .ok (.invokevirtual 461, 3) := by decide +kernel
theorem dX8_wound_73 : decode cX8_wound 73 = .ok (.iadd, 1) := by decide +kernel
theorem dX8_wound_74 : decode cX8_wound 74 = .ok (.istore 4, 2) := by decide +kernel
theorem dX8_wound_76 : decode cX8_wound 76 = .ok (.aload_n 0, 1) := by decide +kernel
theorem dX8_wound_77 : decode cX8_wound 77 = .ok (.getfield 196, 3) := by decide +kernel
theorem dX8_wound_80 : decode cX8_wound 80 = .ok (.iload_n 2, 1) := by decide +kernel
theorem dX8_wound_81 : decode cX8_wound 81 = .ok (.iload_n 3, 1) := by decide +kernel
theorem dX8_wound_82 : decode cX8_wound 82 = .ok (.iload 4, 2) := by decide +kernel
theorem dX8_wound_84 : decode cX8_wound 84 = .ok (.if_icmp .ge 7, 3) := by decide +kernel
theorem dX8_wound_87 : decode cX8_wound 87 = .ok (.iload_n 3, 1) := by decide +kernel
theorem dX8_wound_88 : decode cX8_wound 88 = .ok (.goto 5, 3) := by decide +kernel
theorem dX8_wound_91 : decode cX8_wound 91 = .ok (.iload 4, 2) := by decide +kernel
theorem dX8_wound_93 : decode cX8_wound 93 = .ok (.iastore, 1) := by decide +kernel
theorem dX8_wound_94 : decode cX8_wound 94 = .ok (.iinc 2 1, 3) := by decide +kernel
theorem dX8_wound_97 : decode cX8_wound 97 = .ok (.goto (-74), 3) := by decide +kernel
theorem dX8_wound_100 : decode cX8_wound 100 = .ok (.aload_n 0, 1) := by decide +kernel
theorem dX8_wound_101 : decode cX8_wound 101 = .ok (.getfield 196, 3) := by decide +kernel
theorem dX8_wound_104 : decode cX8_wound 104 = .ok (.iload_n 1, 1) := by decide +kernel
theorem dX8_wound_105 : decode cX8_wound 105 = .ok (.iaload, 1) := by decide +kernel
theorem dX8_wound_106 : decode cX8_wound 106 = .ok (.ireturn, 1) := by decide +kernel
theorem dX8_keeps_0 : decode cX8_keeps 0 = .ok (.aload_n 0, 1) := by decide +kernel
theorem dX8_keeps_1 : decode cX8_keeps 1 = .ok (.aload_n 0, 1) := by decide +kernel
theorem dX8_keeps_2 : decode cX8_keeps 2 = .ok (.getfield 586, 3) := by decide +kernel
theorem dX8_keeps_5 : decode cX8_keeps 5 = .ok (.iconst 1, 1) := by decide +kernel
theorem dX8_keeps_6 : decode cX8_keeps 6 = .ok (.iadd, 1) := by decide +kernel
theorem dX8_keeps_7 : decode cX8_keeps 7 = .ok (.bipush 20, 2) := by decide +kernel
theorem dX8_keeps_9 : decode cX8_keeps 9 = .ok (.irem, 1) := by decide +kernel
theorem dX8_keeps_10 : decode cX8_keeps 10 = .ok (.putfield 586, 3) := by decide +kernel
theorem dX8_keeps_13 : decode cX8_keeps 13 = .ok (.iconst 0, 1) := by decide +kernel
theorem dX8_keeps_14 : decode cX8_keeps 14 = .ok (.istore_n 1, 1) := by decide +kernel
theorem dX8_keeps_15 : decode cX8_keeps 15 = .ok (.iload_n 1, 1) := by decide +kernel
theorem dX8_keeps_16 : decode cX8_keeps 16 = .ok (.bipush 6, 2) := by decide +kernel
theorem dX8_keeps_18 : decode cX8_keeps 18 = .ok (.if_icmp .ge 29, 3) := by decide +kernel
theorem dX8_keeps_21 : decode cX8_keeps 21 = .ok (.aload_n 0, 1) := by decide +kernel
theorem dX8_keeps_22 : decode cX8_keeps 22 = .ok (.getfield 202, 3) := by decide +kernel
theorem dX8_keeps_25 : decode cX8_keeps 25 = .ok (.bipush 6, 2) := by decide +kernel
theorem dX8_keeps_27 : decode cX8_keeps 27 = .ok (.aload_n 0, 1) := by decide +kernel
theorem dX8_keeps_28 : decode cX8_keeps 28 = .ok (.getfield 586, 3) := by decide +kernel
theorem dX8_keeps_31 : decode cX8_keeps 31 = .ok (.imul, 1) := by decide +kernel
theorem dX8_keeps_32 : decode cX8_keeps 32 = .ok (.iload_n 1, 1) := by decide +kernel
theorem dX8_keeps_33 : decode cX8_keeps 33 = .ok (.iadd, 1) := by decide +kernel
theorem dX8_keeps_34 : decode cX8_keeps 34 = .ok (.aload_n 0, 1) := by decide +kernel
theorem dX8_keeps_35 : decode cX8_keeps 35 = .ok (.getfield 199, 3) := by decide +kernel
theorem dX8_keeps_38 : decode cX8_keeps 38 = .ok (.iload_n 1, 1) := by decide +kernel
theorem dX8_keeps_39 : decode cX8_keeps 39 = .ok (.iaload, 1) := by decide +kernel
theorem dX8_keeps_40 : decode cX8_keeps 40 = .ok (.iastore, 1) := by decide +kernel
theorem dX8_keeps_41 : decode cX8_keeps 41 = .ok (.iinc 1 1, 3) := by decide +kernel
theorem dX8_keeps_44 : decode cX8_keeps 44 = .ok (.goto (-29), 3) := by decide +kernel
theorem dX8_keeps_47 : decode cX8_keeps 47 = .ok (.aload_n 0, 1) := by decide +kernel
theorem dX8_keeps_48 : decode cX8_keeps 48 = .ok (.getfield 425, 3) := by decide +kernel
theorem dX8_keeps_51 : decode cX8_keeps 51 = .ok (.bipush 20, 2) := by decide +kernel
theorem dX8_keeps_53 : decode cX8_keeps 53 = .ok (.if_icmp .ge 13, 3) := by decide +kernel
theorem dX8_keeps_56 : decode cX8_keeps 56 = .ok (.aload_n 0, 1) := by decide +kernel
theorem dX8_keeps_57 : decode cX8_keeps 57 = .ok (.dup, 1) := by decide +kernel
theorem dX8_keeps_58 : decode cX8_keeps 58 = .ok (.getfield 425, 3) := by decide +kernel
theorem dX8_keeps_61 : decode cX8_keeps 61 = .ok (.iconst 1, 1) := by decide +kernel
theorem dX8_keeps_62 : decode cX8_keeps 62 = .ok (.iadd, 1) := by decide +kernel
theorem dX8_keeps_63 : decode cX8_keeps 63 = .ok (.putfield 425, 3) := by decide +kernel
theorem dX8_keeps_66 : decode cX8_keeps 66 = .ok (.return_, 1) := by decide +kernel
theorem dX8_undo_0 : decode cX8_undo 0 = .ok (.aload_n 0, 1) := by decide +kernel
theorem dX8_undo_1 : decode cX8_undo 1 = .ok (.getfield 425, 3) := by decide +kernel
theorem dX8_undo_4 : decode cX8_undo 4 = .ok (.ifCond .ne 15, 3) := by decide +kernel
theorem dX8_undo_7 : decode cX8_undo 7 = .ok (.aload_n 0, 1) := by decide +kernel
theorem dX8_undo_8 : decode cX8_undo 8 = .ok (.getfield 17, 3) := by decide +kernel
theorem dX8_undo_11 : decode cX8_undo 11 = .ok (.iconst 3, 1) := by decide +kernel
theorem dX8_undo_12 : decode cX8_undo 12 = .ok (.dup2, 1) := by decide +kernel
theorem dX8_undo_13 : decode cX8_undo 13 = .ok (.iaload, 1) := by decide +kernel
theorem dX8_undo_14 : decode cX8_undo 14 = .ok (.iconst 1, 1) := by decide +kernel
theorem dX8_undo_15 : decode cX8_undo 15 = .ok (.iadd, 1) := by decide +kernel
theorem dX8_undo_16 : decode cX8_undo 16 = .ok (.iastore, 1) := by decide +kernel
theorem dX8_undo_17 : decode cX8_undo 17 = .ok (.iconst 0, 1) := by decide +kernel
theorem dX8_undo_18 : decode cX8_undo 18 = .ok (.ireturn, 1) := by decide +kernel
theorem dX8_undo_19 : decode cX8_undo 19 = .ok (.iconst 0, 1) := by decide +kernel
theorem dX8_undo_20 : decode cX8_undo 20 = .ok (.istore_n 1, 1) := by decide +kernel
theorem dX8_undo_21 : decode cX8_undo 21 = .ok (.iload_n 1, 1) := by decide +kernel
theorem dX8_undo_22 : decode cX8_undo 22 = .ok (.bipush 6, 2) := by decide +kernel
theorem dX8_undo_24 : decode cX8_undo 24 = .ok (.if_icmp .ge 29, 3) := by decide +kernel
theorem dX8_undo_27 : decode cX8_undo 27 = .ok (.aload_n 0, 1) := by decide +kernel
theorem dX8_undo_28 : decode cX8_undo 28 = .ok (.getfield 199, 3) := by decide +kernel
theorem dX8_undo_31 : decode cX8_undo 31 = .ok (.iload_n 1, 1) := by decide +kernel
theorem dX8_undo_32 : decode cX8_undo 32 = .ok (.aload_n 0, 1) := by decide +kernel
theorem dX8_undo_33 : decode cX8_undo 33 = .ok (.getfield 202, 3) := by decide +kernel
theorem dX8_undo_36 : decode cX8_undo 36 = .ok (.bipush 6, 2) := by decide +kernel
theorem dX8_undo_38 : decode cX8_undo 38 = .ok (.aload_n 0, 1) := by decide +kernel
theorem dX8_undo_39 : decode cX8_undo 39 = .ok (.getfield 586, 3) := by decide +kernel
theorem dX8_undo_42 : decode cX8_undo 42 = .ok (.imul, 1) := by decide +kernel
theorem dX8_undo_43 : decode cX8_undo 43 = .ok (.iload_n 1, 1) := by decide +kernel
theorem dX8_undo_44 : decode cX8_undo 44 = .ok (.iadd, 1) := by decide +kernel
theorem dX8_undo_45 : decode cX8_undo 45 = .ok (.iaload, 1) := by decide +kernel
theorem dX8_undo_46 : decode cX8_undo 46 = .ok (.iastore, 1) := by decide +kernel
theorem dX8_undo_47 : decode cX8_undo 47 = .ok (.iinc 1 1, 3) := by decide +kernel
theorem dX8_undo_50 : decode cX8_undo 50 = .ok (.goto (-29), 3) := by decide +kernel
theorem dX8_undo_53 : decode cX8_undo 53 = .ok (.aload_n 0, 1) := by decide +kernel
theorem dX8_undo_54 : decode cX8_undo 54 = .ok (.aload_n 0, 1) := by decide +kernel
theorem dX8_undo_55 : decode cX8_undo 55 = .ok (.getfield 586, 3) := by decide +kernel
theorem dX8_undo_58 : decode cX8_undo 58 = .ok (.bipush 20, 2) := by decide +kernel
theorem dX8_undo_60 : decode cX8_undo 60 = .ok (.iadd, 1) := by decide +kernel
theorem dX8_undo_61 : decode cX8_undo 61 = .ok (.iconst 1, 1) := by decide +kernel
theorem dX8_undo_62 : decode cX8_undo 62 = .ok (.isub, 1) := by decide +kernel
theorem dX8_undo_63 : decode cX8_undo 63 = .ok (.bipush 20, 2) := by decide +kernel
theorem dX8_undo_65 : decode cX8_undo 65 = .ok (.irem, 1) := by decide +kernel
theorem dX8_undo_66 : decode cX8_undo 66 = .ok (.putfield 586, 3) := by decide +kernel
theorem dX8_undo_69 : decode cX8_undo 69 = .ok (.aload_n 0, 1) := by decide +kernel
theorem dX8_undo_70 : decode cX8_undo 70 = .ok (.dup, 1) := by decide +kernel
theorem dX8_undo_71 : decode cX8_undo 71 = .ok (.getfield 425, 3) := by decide +kernel
theorem dX8_undo_74 : decode cX8_undo 74 = .ok (.iconst 1, 1) := by decide +kernel
theorem dX8_undo_75 : decode cX8_undo 75 = .ok (.isub, 1) := by decide +kernel
theorem dX8_undo_76 : decode cX8_undo 76 = .ok (.putfield 425, 3) := by decide +kernel
theorem dX8_undo_79 : decode cX8_undo 79 = .ok (.iconst 1, 1) := by decide +kernel
theorem dX8_undo_80 : decode cX8_undo 80 = .ok (.ireturn, 1) := by decide +kernel
theorem dX8_seed_0 : decode cX8_seed 0 = .ok (.iload_n 1, 1) := by decide +kernel
theorem dX8_seed_1 : decode cX8_seed 1 = .ok (.ifCond .ge 15, 3) := by decide +kernel
theorem dX8_seed_4 : decode cX8_seed 4 = .ok (.aload_n 0, 1) := by decide +kernel
theorem dX8_seed_5 : decode cX8_seed 5 = .ok (.getfield 17, 3) := by decide +kernel
theorem dX8_seed_8 : decode cX8_seed 8 = .ok (.iconst 4, 1) := by decide +kernel
theorem dX8_seed_9 : decode cX8_seed 9 = .ok (.dup2, 1) := by decide +kernel
theorem dX8_seed_10 : decode cX8_seed 10 = .ok (.iaload, 1) := by decide +kernel
theorem dX8_seed_11 : decode cX8_seed 11 = .ok (.iconst 1, 1) := by decide +kernel
theorem dX8_seed_12 : decode cX8_seed 12 = .ok (.iadd, 1) := by decide +kernel
theorem dX8_seed_13 : decode cX8_seed 13 = .ok (.iastore, 1) := by decide +kernel
theorem dX8_seed_14 : decode cX8_seed 14 = .ok (.iconst 0, 1) := by decide +kernel
theorem dX8_seed_15 : decode cX8_seed 15 = .ok (.ireturn, 1) := by decide +kernel
theorem dX8_seed_16 : decode cX8_seed 16 = .ok (.aload_n 0, 1) := by decide +kernel
theorem dX8_seed_17 : decode cX8_seed 17 = .ok (.iload_n 1, 1) := by decide +kernel
theorem dX8_seed_18 : decode cX8_seed 18 = .ok (.i2l, 1) := by decide +kernel
theorem dX8_seed_19 : decode cX8_seed 19 = .ok (.putfield 205, 3) := by decide +kernel
theorem dX8_seed_22 : decode cX8_seed 22 = .ok (.iconst 1, 1) := by decide +kernel
theorem dX8_seed_23 : decode cX8_seed 23 = .ok (.ireturn, 1) := by decide +kernel
theorem dX8_drawOf_0 : decode cX8_drawOf 0 = .ok (.aload_n 0, 1) := by decide +kernel
theorem dX8_drawOf_1 : decode cX8_drawOf 1 = .ok (.ldc2_w 589, 3) := by decide +kernel
theorem dX8_drawOf_4 : decode cX8_drawOf 4 = .ok (.aload_n 0, 1) := by decide +kernel
theorem dX8_drawOf_5 : decode cX8_drawOf 5 = .ok (.getfield 205, 3) := by decide +kernel
theorem dX8_drawOf_8 : decode cX8_drawOf 8 = .ok (.lmul, 1) := by decide +kernel
theorem dX8_drawOf_9 : decode cX8_drawOf 9 = .ok (.ldc2_w 591, 3) := by decide +kernel
theorem dX8_drawOf_12 : decode cX8_drawOf 12 = .ok (.ladd, 1) := by decide +kernel
theorem dX8_drawOf_13 : decode cX8_drawOf 13 = .ok (.ldc2_w 593, 3) := by decide +kernel
theorem dX8_drawOf_16 : decode cX8_drawOf 16 = .ok (.lrem, 1) := by decide +kernel
theorem dX8_drawOf_17 : decode cX8_drawOf 17 = .ok (.putfield 205, 3) := by decide +kernel
theorem dX8_drawOf_20 : decode cX8_drawOf 20 = .ok (.aload_n 0, 1) := by decide +kernel
theorem dX8_drawOf_21 : decode cX8_drawOf 21 = .ok (.getfield 205, 3) := by decide +kernel
theorem dX8_drawOf_24 : decode cX8_drawOf 24 = .ok (.ldc2_w 595, 3) := by decide +kernel
theorem dX8_drawOf_27 : decode cX8_drawOf 27 = .ok (.ldiv, 1) := by decide +kernel
theorem dX8_drawOf_28 : decode cX8_drawOf 28 = .ok (.iload_n 1, 1) := by decide +kernel
theorem dX8_drawOf_29 : decode cX8_drawOf 29 = .ok (.i2l, 1) := by decide +kernel
theorem dX8_drawOf_30 : decode cX8_drawOf 30 = .ok (.lrem, 1) := by decide +kernel
theorem dX8_drawOf_31 : decode cX8_drawOf 31 = .ok (.l2i, 1) := by decide +kernel
theorem dX8_drawOf_32 : decode cX8_drawOf 32 = .ok (.ireturn, 1) := by decide +kernel
theorem dX8_isFresh_0 : decode cX8_isFresh 0 = .ok (.aload_n 0, 1) := by decide +kernel
theorem dX8_isFresh_1 : decode cX8_isFresh 1 = .ok (.bipush 100, 2) := by decide +kernel
theorem dX8_isFresh_3 : decode cX8_isFresh 3 = .ok (.invokevirtual 597, 3) := by decide +kernel
theorem dX8_isFresh_6 : decode cX8_isFresh 6 = .ok (.istore_n 1, 1) := by decide +kernel
theorem dX8_isFresh_7 : decode cX8_isFresh 7 = .ok (.iconst 0, 1) := by decide +kernel
theorem dX8_isFresh_8 : decode cX8_isFresh 8 = .ok (.istore_n 2, 1) := by decide +kernel
theorem dX8_isFresh_9 : decode cX8_isFresh 9 = .ok (.aload_n 0, 1) := by decide +kernel
theorem dX8_isFresh_10 : decode cX8_isFresh 10 = .ok (.getfield 121, 3) := by decide +kernel
theorem dX8_isFresh_13 : decode cX8_isFresh 13 = .ok (.bipush 6, 2) := by decide +kernel
theorem dX8_isFresh_15 : decode cX8_isFresh 15 = .ok (.iaload, 1) := by decide +kernel
theorem dX8_isFresh_16 : decode cX8_isFresh 16 = .ok (.istore_n 3, 1) := by decide +kernel
theorem dX8_isFresh_17 : decode cX8_isFresh 17 = .ok (.iload_n 3, 1) := by decide +kernel
theorem dX8_isFresh_18 : decode cX8_isFresh 18 = .ok (.iload_n 1, 1) := by decide +kernel
theorem dX8_isFresh_19 : decode cX8_isFresh 19 = .ok (.if_icmp .gt 21, 3) := by decide +kernel
theorem dX8_isFresh_22 : decode cX8_isFresh 22 = .ok (.iinc 2 1, 3) := by decide +kernel
theorem dX8_isFresh_25 : decode cX8_isFresh 25 = .ok (.iload_n 3, 1) := by decide +kernel
theorem dX8_isFresh_26 : decode cX8_isFresh 26 = .ok (.aload_n 0, 1) := by decide +kernel
theorem dX8_isFresh_27 : decode cX8_isFresh 27 = .ok (.getfield 121, 3) := by decide +kernel
theorem dX8_isFresh_30 : decode cX8_isFresh 30 = .ok (.bipush 6, 2) := by decide +kernel
theorem dX8_isFresh_32 : decode cX8_isFresh 32 = .ok (.iload_n 2, 1) := by decide +kernel
theorem dX8_isFresh_33 : decode cX8_isFresh 33 = .ok (.iadd, 1) := by decide +kernel
theorem dX8_isFresh_34 : decode cX8_isFresh 34 = .ok (.iaload, 1) := by decide +kernel
theorem dX8_isFresh_35 : decode cX8_isFresh 35 = .ok (.iadd, 1) := by decide +kernel
theorem dX8_isFresh_36 : decode cX8_isFresh 36 = .ok (.istore_n 3, 1) := by decide +kernel
theorem dX8_isFresh_37 : decode cX8_isFresh 37 = .ok (.goto (-20), 3) := by decide +kernel
theorem dX8_isFresh_40 : decode cX8_isFresh 40 = .ok (.aload_n 0, 1) := by decide +kernel
theorem dX8_isFresh_41 : decode cX8_isFresh 41 = .ok (.getfield 199, 3) := by decide +kernel
theorem dX8_isFresh_44 : decode cX8_isFresh 44 = .ok (.iconst 1, 1) := by decide +kernel
theorem dX8_isFresh_45 : decode cX8_isFresh 45 = .ok (.iconst 0, 1) := by decide +kernel
theorem dX8_isFresh_46 : decode cX8_isFresh 46 = .ok (.iastore, 1) := by decide +kernel
theorem dX8_isFresh_47 : decode cX8_isFresh 47 = .ok (.aload_n 0, 1) := by decide +kernel
theorem dX8_isFresh_48 : decode cX8_isFresh 48 = .ok (.getfield 199, 3) := by decide +kernel
theorem dX8_isFresh_51 : decode cX8_isFresh 51 = .ok (.iconst 2, 1) := by decide +kernel
theorem dX8_isFresh_52 : decode cX8_isFresh 52 = .ok (.aload_n 0, 1) := by decide +kernel
theorem dX8_isFresh_53 : decode cX8_isFresh 53 = .ok (.getfield 118, 3) := by decide +kernel
theorem dX8_isFresh_56 : decode cX8_isFresh 56 = .ok (.bipush 6, 2) := by decide +kernel
theorem dX8_isFresh_58 : decode cX8_isFresh 58 = .ok (.iload_n 2, 1) := by decide +kernel
theorem dX8_isFresh_59 : decode cX8_isFresh 59 = .ok (.iadd, 1) := by decide +kernel
theorem dX8_isFresh_60 : decode cX8_isFresh 60 = .ok (.iaload, 1) := by decide +kernel
theorem dX8_isFresh_61 : decode cX8_isFresh 61 = .ok (.iastore, 1) := by decide +kernel
theorem dX8_isFresh_62 : decode cX8_isFresh 62 = .ok (.return_, 1) := by decide +kernel
theorem dX8_costs_0 : decode cX8_costs 0 = .ok (.aload_n 0, 1) := by decide +kernel
theorem dX8_costs_1 : decode cX8_costs 1 = .ok (.dup, 1) := by decide +kernel
theorem dX8_costs_2 : decode cX8_costs 2 = .ok (.getfield 600, 3) := by decide +kernel
theorem dX8_costs_5 : decode cX8_costs 5 = .ok (.iload_n 1, 1) := by decide +kernel
theorem dX8_costs_6 : decode cX8_costs 6 = .ok (.iadd, 1) := by decide +kernel
theorem dX8_costs_7 : decode cX8_costs 7 = .ok (.putfield 600, 3) := by decide +kernel
theorem dX8_costs_10 : decode cX8_costs 10 = .ok (.aload_n 0, 1) := by decide +kernel
theorem dX8_costs_11 : decode cX8_costs 11 = .ok (.getfield 199, 3) := by decide +kernel
theorem dX8_costs_14 : decode cX8_costs 14 = .ok (.iconst 5, 1) := by decide +kernel
theorem dX8_costs_15 : decode cX8_costs 15 = .ok (.aload_n 0, 1) := by decide +kernel
theorem dX8_costs_16 : decode cX8_costs 16 = .ok (.getfield 199, 3) := by decide +kernel
theorem dX8_costs_19 : decode cX8_costs 19 = .ok (.iconst 5, 1) := by decide +kernel
theorem dX8_costs_20 : decode cX8_costs 20 = .ok (.iaload, 1) := by decide +kernel
theorem dX8_costs_21 : decode cX8_costs 21 = .ok (.iload_n 1, 1) := by decide +kernel
theorem dX8_costs_22 : decode cX8_costs 22 = .ok (.iadd, 1) := by decide +kernel
theorem dX8_costs_23 : decode cX8_costs 23 = .ok (.sipush 9999, 3) := by decide +kernel
theorem dX8_costs_26 : decode cX8_costs 26 = .ok (.if_icmp .le 9, 3) := by decide +kernel
theorem dX8_costs_29 : decode cX8_costs 29 = .ok (.sipush 9999, 3) := by decide +kernel
theorem dX8_costs_32 : decode cX8_costs 32 = .ok (.goto 11, 3) := by decide +kernel
theorem dX8_costs_35 : decode cX8_costs 35 = .ok (.aload_n 0, 1) := by decide +kernel
theorem dX8_costs_36 : decode cX8_costs 36 = .ok (.getfield 199, 3) := by decide +kernel
theorem dX8_costs_39 : decode cX8_costs 39 = .ok (.iconst 5, 1) := by decide +kernel
theorem dX8_costs_40 : decode cX8_costs 40 = .ok (.iaload, 1) := by decide +kernel
theorem dX8_costs_41 : decode cX8_costs 41 = .ok (.iload_n 1, 1) := by decide +kernel
theorem dX8_costs_42 : decode cX8_costs 42 = .ok (.iadd, 1) := by decide +kernel
theorem dX8_costs_43 : decode cX8_costs 43 = .ok (.iastore, 1) := by decide +kernel
theorem dX8_costs_44 : decode cX8_costs 44 = .ok (.return_, 1) := by decide +kernel
theorem dX8_isLeft_0 : decode cX8_isLeft 0 = .ok (.aload_n 0, 1) := by decide +kernel
theorem dX8_isLeft_1 : decode cX8_isLeft 1 = .ok (.getfield 199, 3) := by decide +kernel
theorem dX8_isLeft_4 : decode cX8_isLeft 4 = .ok (.iconst 0, 1) := by decide +kernel
theorem dX8_isLeft_5 : decode cX8_isLeft 5 = .ok (.iaload, 1) := by decide +kernel
theorem dX8_isLeft_6 : decode cX8_isLeft 6 = .ok (.aload_n 0, 1) := by decide +kernel
theorem dX8_isLeft_7 : decode cX8_isLeft 7 = .ok (.invokevirtual 431, 3) := by decide +kernel
theorem dX8_isLeft_10 : decode cX8_isLeft 10 = .ok (.if_icmp .ge 7, 3) := by decide +kernel
theorem dX8_isLeft_13 : decode cX8_isLeft 13 = .ok (.iconst 1, 1) := by decide +kernel
theorem dX8_isLeft_14 : decode cX8_isLeft 14 = .ok (.goto 4, 3) := by decide +kernel
theorem dX8_isLeft_17 : decode cX8_isLeft 17 = .ok (.iconst 0, 1) := by decide +kernel
theorem dX8_isLeft_18 : decode cX8_isLeft 18 = .ok (.ireturn, 1) := by decide +kernel
theorem dX8_wouldLast_0 : decode cX8_wouldLast 0 = .ok (.aload_n 0, 1) := by decide +kernel
theorem dX8_wouldLast_1 : decode cX8_wouldLast 1 = .ok (.getfield 199, 3) := by decide +kernel
theorem dX8_wouldLast_4 : decode cX8_wouldLast 4 = .ok (.iconst 1, 1) := by decide +kernel
theorem dX8_wouldLast_5 : decode cX8_wouldLast 5 = .ok (.iaload, 1) := by decide +kernel
theorem dX8_wouldLast_6 : decode cX8_wouldLast 6 = .ok (.aload_n 0, 1) := by decide +kernel
theorem dX8_wouldLast_7 : decode cX8_wouldLast 7 = .ok (.aload_n 0, 1) := by decide +kernel
theorem dX8_wouldLast_8 : decode cX8_wouldLast 8 = .ok (.getfield 199, 3) := by decide +kernel
theorem dX8_wouldLast_11 : decode cX8_wouldLast 11 = .ok (.iconst 0, 1) := by decide +kernel
theorem dX8_wouldLast_12 : decode cX8_wouldLast 12 = .ok (.iaload, 1) := by decide +kernel
theorem dX8_wouldLast_13 : decode cX8_wouldLast 13 = .ok (.invokevirtual 434, 3) := by decide +kernel
theorem dX8_wouldLast_16 : decode cX8_wouldLast 16 = .ok (.iadd, 1) := by decide +kernel
theorem dX8_wouldLast_17 : decode cX8_wouldLast 17 = .ok (.aload_n 0, 1) := by decide +kernel
theorem dX8_wouldLast_18 : decode cX8_wouldLast 18 = .ok (.getfield 199, 3) := by decide +kernel
theorem dX8_wouldLast_21 : decode cX8_wouldLast 21 = .ok (.iconst 2, 1) := by decide +kernel
theorem dX8_wouldLast_22 : decode cX8_wouldLast 22 = .ok (.iaload, 1) := by decide +kernel
theorem dX8_wouldLast_23 : decode cX8_wouldLast 23 = .ok (.if_icmp .gt 7, 3) := by decide +kernel
theorem dX8_wouldLast_26 : decode cX8_wouldLast 26 = .ok (.iconst 1, 1) := by decide +kernel
theorem dX8_wouldLast_27 : decode cX8_wouldLast 27 = .ok (.goto 4, 3) := by decide +kernel
theorem dX8_wouldLast_30 : decode cX8_wouldLast 30 = .ok (.iconst 0, 1) := by decide +kernel
theorem dX8_wouldLast_31 : decode cX8_wouldLast 31 = .ok (.ireturn, 1) := by decide +kernel
theorem dX8_isSewn_0 : decode cX8_isSewn 0 = .ok (.iload_n 1, 1) := by decide +kernel
theorem dX8_isSewn_1 : decode cX8_isSewn 1 = .ok (.ifCond .eq 26, 3) := by decide +kernel
theorem dX8_isSewn_4 : decode cX8_isSewn 4 = .ok (.aload_n 0, 1) := by decide +kernel
theorem dX8_isSewn_5 : decode cX8_isSewn 5 = .ok (.aload_n 0, 1) := by decide +kernel
theorem dX8_isSewn_6 : decode cX8_isSewn 6 = .ok (.iconst 0, 1) := by decide +kernel
theorem dX8_isSewn_7 : decode cX8_isSewn 7 = .ok (.invokevirtual 461, 3) := by decide +kernel
theorem dX8_isSewn_10 : decode cX8_isSewn 10 = .ok (.invokevirtual 603, 3) := by decide +kernel
theorem dX8_isSewn_13 : decode cX8_isSewn 13 = .ok (.aload_n 0, 1) := by decide +kernel
theorem dX8_isSewn_14 : decode cX8_isSewn 14 = .ok (.getfield 199, 3) := by decide +kernel
theorem dX8_isSewn_17 : decode cX8_isSewn 17 = .ok (.iconst 3, 1) := by decide +kernel
theorem dX8_isSewn_18 : decode cX8_isSewn 18 = .ok (.dup2, 1) := by decide +kernel
theorem dX8_isSewn_19 : decode cX8_isSewn 19 = .ok (.iaload, 1) := by decide +kernel
theorem dX8_isSewn_20 : decode cX8_isSewn 20 = .ok (.iconst 1, 1) := by decide +kernel
theorem dX8_isSewn_21 : decode cX8_isSewn 21 = .ok (.iadd, 1) := by decide +kernel
theorem dX8_isSewn_22 : decode cX8_isSewn 22 = .ok (.iastore, 1) := by decide +kernel
theorem dX8_isSewn_23 : decode cX8_isSewn 23 = .ok (.aload_n 0, 1) := by decide +kernel
theorem dX8_isSewn_24 : decode cX8_isSewn 24 = .ok (.invokevirtual 606, 3) := by decide +kernel
theorem dX8_isSewn_27 : decode cX8_isSewn 27 = .ok (.aload_n 0, 1) := by decide +kernel
theorem dX8_isSewn_28 : decode cX8_isSewn 28 = .ok (.invokevirtual 609, 3) := by decide +kernel
theorem dX8_isSewn_31 : decode cX8_isSewn 31 = .ok (.istore_n 2, 1) := by decide +kernel
theorem dX8_isSewn_32 : decode cX8_isSewn 32 = .ok (.iload_n 2, 1) := by decide +kernel
theorem dX8_isSewn_33 : decode cX8_isSewn 33 = .ok (.ifCond .eq 25, 3) := by decide +kernel
theorem dX8_isSewn_36 : decode cX8_isSewn 36 = .ok (.aload_n 0, 1) := by decide +kernel
theorem dX8_isSewn_37 : decode cX8_isSewn 37 = .ok (.getfield 199, 3) := by decide +kernel
theorem dX8_isSewn_40 : decode cX8_isSewn 40 = .ok (.iconst 1, 1) := by decide +kernel
theorem dX8_isSewn_41 : decode cX8_isSewn 41 = .ok (.dup2, 1) := by decide +kernel
theorem dX8_isSewn_42 : decode cX8_isSewn 42 = .ok (.iaload, 1) := by decide +kernel
theorem dX8_isSewn_43 : decode cX8_isSewn 43 = .ok (.aload_n 0, 1) := by decide +kernel
theorem dX8_isSewn_44 : decode cX8_isSewn 44 = .ok (.aload_n 0, 1) := by decide +kernel
theorem dX8_isSewn_45 : decode cX8_isSewn 45 = .ok (.getfield 199, 3) := by decide +kernel
theorem dX8_isSewn_48 : decode cX8_isSewn 48 = .ok (.iconst 0, 1) := by decide +kernel
theorem dX8_isSewn_49 : decode cX8_isSewn 49 = .ok (.iaload, 1) := by decide +kernel
theorem dX8_isSewn_50 : decode cX8_isSewn 50 = .ok (.invokevirtual 434, 3) := by decide +kernel
theorem dX8_isSewn_53 : decode cX8_isSewn 53 = .ok (.iadd, 1) := by decide +kernel
theorem dX8_isSewn_54 : decode cX8_isSewn 54 = .ok (.iastore, 1) := by decide +kernel
theorem dX8_isSewn_55 : decode cX8_isSewn 55 = .ok (.goto 32, 3) := by decide +kernel
theorem dX8_isSewn_58 : decode cX8_isSewn 58 = .ok (.aload_n 0, 1) := by decide +kernel
theorem dX8_isSewn_59 : decode cX8_isSewn 59 = .ok (.aload_n 0, 1) := by decide +kernel
theorem dX8_isSewn_60 : decode cX8_isSewn 60 = .ok (.iconst 1, 1) := by decide +kernel
theorem dX8_isSewn_61 : decode cX8_isSewn 61 = .ok (.invokevirtual 461, 3) := by decide +kernel
theorem dX8_isSewn_64 : decode cX8_isSewn 64 = .ok (.aload_n 0, 1) := by decide +kernel
theorem dX8_isSewn_65 : decode cX8_isSewn 65 = .ok (.iconst 0, 1) := by decide +kernel
theorem dX8_isSewn_66 : decode cX8_isSewn 66 = .ok (.invokevirtual 461, 3) := by decide +kernel
theorem dX8_isSewn_69 : decode cX8_isSewn 69 = .ok (.iadd, 1) := by decide +kernel
theorem dX8_isSewn_70 : decode cX8_isSewn 70 = .ok (.invokevirtual 603, 3) := by decide +kernel
theorem dX8_isSewn_73 : decode cX8_isSewn 73 = .ok (.aload_n 0, 1) := by decide +kernel
theorem dX8_isSewn_74 : decode cX8_isSewn 74 = .ok (.getfield 199, 3) := by decide +kernel
theorem dX8_isSewn_77 : decode cX8_isSewn 77 = .ok (.iconst 4, 1) := by decide +kernel
theorem dX8_isSewn_78 : decode cX8_isSewn 78 = .ok (.dup2, 1) := by decide +kernel
theorem dX8_isSewn_79 : decode cX8_isSewn 79 = .ok (.iaload, 1) := by decide +kernel
theorem dX8_isSewn_80 : decode cX8_isSewn 80 = .ok (.iconst 1, 1) := by decide +kernel
theorem dX8_isSewn_81 : decode cX8_isSewn 81 = .ok (.iadd, 1) := by decide +kernel
theorem dX8_isSewn_82 : decode cX8_isSewn 82 = .ok (.iastore, 1) := by decide +kernel
theorem dX8_isSewn_83 : decode cX8_isSewn 83 = .ok (.aload_n 0, 1) := by decide +kernel
theorem dX8_isSewn_84 : decode cX8_isSewn 84 = .ok (.invokevirtual 606, 3) := by decide +kernel
theorem dX8_isSewn_87 : decode cX8_isSewn 87 = .ok (.aload_n 0, 1) := by decide +kernel
theorem dX8_isSewn_88 : decode cX8_isSewn 88 = .ok (.getfield 199, 3) := by decide +kernel
theorem dX8_isSewn_91 : decode cX8_isSewn 91 = .ok (.iconst 0, 1) := by decide +kernel
theorem dX8_isSewn_92 : decode cX8_isSewn 92 = .ok (.dup2, 1) := by decide +kernel
theorem dX8_isSewn_93 : decode cX8_isSewn 93 = .ok (.iaload, 1) := by decide +kernel
theorem dX8_isSewn_94 : decode cX8_isSewn 94 = .ok (.iconst 1, 1) := by decide +kernel
theorem dX8_isSewn_95 : decode cX8_isSewn 95 = .ok (.iadd, 1) := by decide +kernel
theorem dX8_isSewn_96 : decode cX8_isSewn 96 = .ok (.iastore, 1) := by decide +kernel
theorem dX8_isSewn_97 : decode cX8_isSewn 97 = .ok (.iload_n 2, 1) := by decide +kernel
theorem dX8_isSewn_98 : decode cX8_isSewn 98 = .ok (.ifCond .ne 7, 3) := by decide +kernel
theorem dX8_isSewn_101 : decode cX8_isSewn 101 = .ok (.iconst 1, 1) := by decide +kernel
theorem dX8_isSewn_102 : decode cX8_isSewn 102 = .ok (.goto 4, 3) := by decide +kernel
theorem dX8_isSewn_105 : decode cX8_isSewn 105 = .ok (.iconst 0, 1) := by decide +kernel
theorem dX8_isSewn_106 : decode cX8_isSewn 106 = .ok (.ireturn, 1) := by decide +kernel
theorem dX8_refuses_0 : decode cX8_refuses 0 = .ok (.aload_n 0, 1) := by decide +kernel
theorem dX8_refuses_1 : decode cX8_refuses 1 = .ok (.getfield 17, 3) := by decide +kernel
theorem dX8_refuses_4 : decode cX8_refuses 4 = .ok (.iconst 2, 1) := by decide +kernel
theorem dX8_refuses_5 : decode cX8_refuses 5 = .ok (.dup2, 1) := by decide +kernel
theorem dX8_refuses_6 : decode cX8_refuses 6 = .ok (.iaload, 1) := by decide +kernel
theorem dX8_refuses_7 : decode cX8_refuses 7 = .ok (.iconst 1, 1) := by decide +kernel
theorem dX8_refuses_8 : decode cX8_refuses 8 = .ok (.iadd, 1) := by decide +kernel
theorem dX8_refuses_9 : decode cX8_refuses 9 = .ok (.iastore, 1) := by decide +kernel
theorem dX8_refuses_10 : decode cX8_refuses 10 = .ok (.iconst (-1), 1) := by decide +kernel
theorem dX8_refuses_11 : decode cX8_refuses 11 = .ok (.ireturn, 1) := by decide +kernel
theorem dX8_day_0 : decode cX8_day 0 = .ok (.iload_n 1, 1) := by decide +kernel
theorem dX8_day_1 : decode cX8_day 1 = .ok (.tableswitch 87 0 5 #[39, 46, 53, 60, 67, 74], 39) := by decide +kernel
theorem dX8_day_40 : decode cX8_day 40 = .ok (.aload_n 0, 1) := by decide +kernel
theorem dX8_day_41 : decode cX8_day 41 = .ok (.getfield 199, 3) := by decide +kernel
theorem dX8_day_44 : decode cX8_day 44 = .ok (.iconst 0, 1) := by decide +kernel
theorem dX8_day_45 : decode cX8_day 45 = .ok (.iaload, 1) := by decide +kernel
theorem dX8_day_46 : decode cX8_day 46 = .ok (.ireturn, 1) := by decide +kernel
theorem dX8_day_47 : decode cX8_day 47 = .ok (.aload_n 0, 1) := by decide +kernel
theorem dX8_day_48 : decode cX8_day 48 = .ok (.getfield 199, 3) := by decide +kernel
theorem dX8_day_51 : decode cX8_day 51 = .ok (.iconst 1, 1) := by decide +kernel
theorem dX8_day_52 : decode cX8_day 52 = .ok (.iaload, 1) := by decide +kernel
theorem dX8_day_53 : decode cX8_day 53 = .ok (.ireturn, 1) := by decide +kernel
theorem dX8_day_54 : decode cX8_day 54 = .ok (.aload_n 0, 1) := by decide +kernel
theorem dX8_day_55 : decode cX8_day 55 = .ok (.getfield 199, 3) := by decide +kernel
theorem dX8_day_58 : decode cX8_day 58 = .ok (.iconst 3, 1) := by decide +kernel
theorem dX8_day_59 : decode cX8_day 59 = .ok (.iaload, 1) := by decide +kernel
theorem dX8_day_60 : decode cX8_day 60 = .ok (.ireturn, 1) := by decide +kernel
theorem dX8_day_61 : decode cX8_day 61 = .ok (.aload_n 0, 1) := by decide +kernel
theorem dX8_day_62 : decode cX8_day 62 = .ok (.getfield 199, 3) := by decide +kernel
theorem dX8_day_65 : decode cX8_day 65 = .ok (.iconst 4, 1) := by decide +kernel
theorem dX8_day_66 : decode cX8_day 66 = .ok (.iaload, 1) := by decide +kernel
theorem dX8_day_67 : decode cX8_day 67 = .ok (.ireturn, 1) := by decide +kernel
theorem dX8_day_68 : decode cX8_day 68 = .ok (.aload_n 0, 1) := by decide +kernel
theorem dX8_day_69 : decode cX8_day 69 = .ok (.getfield 199, 3) := by decide +kernel
theorem dX8_day_72 : decode cX8_day 72 = .ok (.iconst 5, 1) := by decide +kernel
theorem dX8_day_73 : decode cX8_day 73 = .ok (.iaload, 1) := by decide +kernel
theorem dX8_day_74 : decode cX8_day 74 = .ok (.ireturn, 1) := by decide +kernel
theorem dX8_day_75 : decode cX8_day 75 = .ok (.aload_n 0, 1) := by decide +kernel
theorem dX8_day_76 : decode cX8_day 76 = .ok (.invokevirtual 612, 3) := by decide +kernel
theorem dX8_day_79 : decode cX8_day 79 = .ok (.ifCond .eq 7, 3) := by decide +kernel
theorem dX8_day_82 : decode cX8_day 82 = .ok (.iconst 1, 1) := by decide +kernel
theorem dX8_day_83 : decode cX8_day 83 = .ok (.goto 4, 3) := by decide +kernel
theorem dX8_day_86 : decode cX8_day 86 = .ok (.iconst 0, 1) := by decide +kernel
theorem dX8_day_87 : decode cX8_day 87 = .ok (.ireturn, 1) := by decide +kernel
theorem dX8_day_88 : decode cX8_day 88 = .ok (.iconst (-1), 1) := by decide +kernel
theorem dX8_day_89 : decode cX8_day 89 = .ok (.ireturn, 1) := by decide +kernel
theorem dX8_sew_0 : decode cX8_sew 0 = .ok (.aload_n 0, 1) := by decide +kernel
theorem dX8_sew_1 : decode cX8_sew 1 = .ok (.invokevirtual 612, 3) := by decide +kernel
theorem dX8_sew_4 : decode cX8_sew 4 = .ok (.ifCond .eq 16, 3) := by decide +kernel
theorem dX8_sew_7 : decode cX8_sew 7 = .ok (.iload_n 1, 1) := by decide +kernel
theorem dX8_sew_8 : decode cX8_sew 8 = .ok (.ifCond .eq 17, 3) := by decide +kernel
theorem dX8_sew_11 : decode cX8_sew 11 = .ok (.aload_n 0, 1) := by decide +kernel
theorem dX8_sew_12 : decode cX8_sew 12 = .ok (.getfield 199, 3) := by decide +kernel
theorem dX8_sew_15 : decode cX8_sew 15 = .ok (.iconst 1, 1) := by decide +kernel
theorem dX8_sew_16 : decode cX8_sew 16 = .ok (.iaload, 1) := by decide +kernel
theorem dX8_sew_17 : decode cX8_sew 17 = .ok (.ifCond .ne 8, 3) := by decide +kernel
theorem dX8_sew_20 : decode cX8_sew 20 = .ok (.aload_n 0, 1) := by decide +kernel
theorem dX8_sew_21 : decode cX8_sew 21 = .ok (.invokevirtual 615, 3) := by decide +kernel
theorem dX8_sew_24 : decode cX8_sew 24 = .ok (.ireturn, 1) := by decide +kernel
theorem dX8_sew_25 : decode cX8_sew 25 = .ok (.aload_n 0, 1) := by decide +kernel
theorem dX8_sew_26 : decode cX8_sew 26 = .ok (.invokevirtual 618, 3) := by decide +kernel
theorem dX8_sew_29 : decode cX8_sew 29 = .ok (.aload_n 0, 1) := by decide +kernel
theorem dX8_sew_30 : decode cX8_sew 30 = .ok (.iload_n 1, 1) := by decide +kernel
theorem dX8_sew_31 : decode cX8_sew 31 = .ok (.invokevirtual 621, 3) := by decide +kernel
theorem dX8_sew_34 : decode cX8_sew 34 = .ok (.ifCond .eq 7, 3) := by decide +kernel
theorem dX8_sew_37 : decode cX8_sew 37 = .ok (.iconst 1, 1) := by decide +kernel
theorem dX8_sew_38 : decode cX8_sew 38 = .ok (.goto 4, 3) := by decide +kernel
theorem dX8_sew_41 : decode cX8_sew 41 = .ok (.iconst 0, 1) := by decide +kernel
theorem dX8_sew_42 : decode cX8_sew 42 = .ok (.ireturn, 1) := by decide +kernel
theorem dX8_glance_0 : decode cX8_glance 0 = .ok (.aload_n 0, 1) := by decide +kernel
theorem dX8_glance_1 : decode cX8_glance 1 = .ok (.invokevirtual 612, 3) := by decide +kernel
theorem dX8_glance_4 : decode cX8_glance 4 = .ok (.ifCond .ne 8, 3) := by decide +kernel
theorem dX8_glance_7 : decode cX8_glance 7 = .ok (.aload_n 0, 1) := by decide +kernel
theorem dX8_glance_8 : decode cX8_glance 8 = .ok (.invokevirtual 615, 3) := by decide +kernel
theorem dX8_glance_11 : decode cX8_glance 11 = .ok (.ireturn, 1) := by decide +kernel
theorem dX8_glance_12 : decode cX8_glance 12 = .ok (.aload_n 0, 1) := by decide +kernel
theorem dX8_glance_13 : decode cX8_glance 13 = .ok (.invokevirtual 618, 3) := by decide +kernel
theorem dX8_glance_16 : decode cX8_glance 16 = .ok (.aload_n 0, 1) := by decide +kernel
theorem dX8_glance_17 : decode cX8_glance 17 = .ok (.aload_n 0, 1) := by decide +kernel
theorem dX8_glance_18 : decode cX8_glance 18 = .ok (.iconst 2, 1) := by decide +kernel
theorem dX8_glance_19 : decode cX8_glance 19 = .ok (.invokevirtual 461, 3) := by decide +kernel
theorem dX8_glance_22 : decode cX8_glance 22 = .ok (.invokevirtual 603, 3) := by decide +kernel
theorem dX8_glance_25 : decode cX8_glance 25 = .ok (.aload_n 0, 1) := by decide +kernel
theorem dX8_glance_26 : decode cX8_glance 26 = .ok (.invokevirtual 609, 3) := by decide +kernel
theorem dX8_glance_29 : decode cX8_glance 29 = .ok (.ifCond .eq 7, 3) := by decide +kernel
theorem dX8_glance_32 : decode cX8_glance 32 = .ok (.iconst 1, 1) := by decide +kernel
theorem dX8_glance_33 : decode cX8_glance 33 = .ok (.goto 4, 3) := by decide +kernel
theorem dX8_glance_36 : decode cX8_glance 36 = .ok (.iconst 0, 1) := by decide +kernel
theorem dX8_glance_37 : decode cX8_glance 37 = .ok (.ireturn, 1) := by decide +kernel
theorem dX8_sews_0 : decode cX8_sews 0 = .ok (.aload_n 0, 1) := by decide +kernel
theorem dX8_sews_1 : decode cX8_sews 1 = .ok (.iload_n 1, 1) := by decide +kernel
theorem dX8_sews_2 : decode cX8_sews 2 = .ok (.invokevirtual 505, 3) := by decide +kernel
theorem dX8_sews_5 : decode cX8_sews 5 = .ok (.ifCond .eq 10, 3) := by decide +kernel
theorem dX8_sews_8 : decode cX8_sews 8 = .ok (.aload_n 0, 1) := by decide +kernel
theorem dX8_sews_9 : decode cX8_sews 9 = .ok (.invokevirtual 612, 3) := by decide +kernel
theorem dX8_sews_12 : decode cX8_sews 12 = .ok (.ifCond .ne 8, 3) := by decide +kernel
theorem dX8_sews_15 : decode cX8_sews 15 = .ok (.aload_n 0, 1) := by decide +kernel
theorem dX8_sews_16 : decode cX8_sews 16 = .ok (.invokevirtual 615, 3) := by decide +kernel
theorem dX8_sews_19 : decode cX8_sews 19 = .ok (.ireturn, 1) := by decide +kernel
theorem dX8_sews_20 : decode cX8_sews 20 = .ok (.aload_n 0, 1) := by decide +kernel
theorem dX8_sews_21 : decode cX8_sews 21 = .ok (.invokevirtual 618, 3) := by decide +kernel
theorem dX8_sews_24 : decode cX8_sews 24 = .ok (.iload_n 1, 1) := by decide +kernel
theorem dX8_sews_25 : decode cX8_sews 25 = .ok (.iconst 3, 1) := by decide +kernel
theorem dX8_sews_26 : decode cX8_sews 26 = .ok (.if_icmp .ne 8, 3) := by decide +kernel
theorem dX8_sews_29 : decode cX8_sews 29 = .ok (.aload_n 0, 1) := by decide +kernel
theorem dX8_sews_30 : decode cX8_sews 30 = .ok (.iconst 3, 1) := by decide +kernel
theorem dX8_sews_31 : decode cX8_sews 31 = .ok (.invokevirtual 508, 3) := by decide +kernel
theorem dX8_sews_34 : decode cX8_sews 34 = .ok (.aload_n 0, 1) := by decide +kernel
theorem dX8_sews_35 : decode cX8_sews 35 = .ok (.iconst 0, 1) := by decide +kernel
theorem dX8_sews_36 : decode cX8_sews 36 = .ok (.putfield 600, 3) := by decide +kernel
theorem dX8_sews_39 : decode cX8_sews 39 = .ok (.aload_n 0, 1) := by decide +kernel
theorem dX8_sews_40 : decode cX8_sews 40 = .ok (.invokevirtual 612, 3) := by decide +kernel
theorem dX8_sews_43 : decode cX8_sews 43 = .ok (.ifCond .eq 62, 3) := by decide +kernel
theorem dX8_sews_46 : decode cX8_sews 46 = .ok (.iload_n 1, 1) := by decide +kernel
theorem dX8_sews_47 : decode cX8_sews 47 = .ok (.iconst 2, 1) := by decide +kernel
theorem dX8_sews_48 : decode cX8_sews 48 = .ok (.if_icmp .ne 21, 3) := by decide +kernel
theorem dX8_sews_51 : decode cX8_sews 51 = .ok (.aload_n 0, 1) := by decide +kernel
theorem dX8_sews_52 : decode cX8_sews 52 = .ok (.getfield 199, 3) := by decide +kernel
theorem dX8_sews_55 : decode cX8_sews 55 = .ok (.iconst 1, 1) := by decide +kernel
theorem dX8_sews_56 : decode cX8_sews 56 = .ok (.iaload, 1) := by decide +kernel
theorem dX8_sews_57 : decode cX8_sews 57 = .ok (.ifCond .le 12, 3) := by decide +kernel
theorem dX8_sews_60 : decode cX8_sews 60 = .ok (.aload_n 0, 1) := by decide +kernel
theorem dX8_sews_61 : decode cX8_sews 61 = .ok (.aload_n 0, 1) := by decide +kernel
theorem dX8_sews_62 : decode cX8_sews 62 = .ok (.iconst 2, 1) := by decide +kernel
theorem dX8_sews_63 : decode cX8_sews 63 = .ok (.invokevirtual 461, 3) := by decide +kernel
theorem dX8_sews_66 : decode cX8_sews 66 = .ok (.invokevirtual 603, 3) := by decide +kernel
theorem dX8_sews_69 : decode cX8_sews 69 = .ok (.aload_n 0, 1) := by decide +kernel
theorem dX8_sews_70 : decode cX8_sews 70 = .ok (.iload_n 1, 1) := by decide +kernel
theorem dX8_sews_71 : decode cX8_sews 71 = .ok (.aload_n 0, 1) := by decide +kernel
theorem dX8_sews_72 : decode cX8_sews 72 = .ok (.getfield 199, 3) := by decide +kernel
theorem dX8_sews_75 : decode cX8_sews 75 = .ok (.iconst 0, 1) := by decide +kernel
theorem dX8_sews_76 : decode cX8_sews 76 = .ok (.iaload, 1) := by decide +kernel
theorem dX8_sews_77 : decode cX8_sews 77 = .ok (.aload_n 0, 1) := by decide +kernel
theorem dX8_sews_78 : decode cX8_sews 78 = .ok (.getfield 199, 3) := by decide +kernel
theorem dX8_sews_81 : decode cX8_sews 81 = .ok (.iconst 1, 1) := by decide +kernel
theorem dX8_sews_82 : decode cX8_sews 82 = .ok (.iaload, 1) := by decide +kernel
theorem dX8_sews_83 : decode cX8_sews 83 = .ok (.aload_n 0, 1) := by decide +kernel
theorem dX8_sews_84 : decode cX8_sews 84 = .ok (.getfield 199, 3) := by decide +kernel
theorem dX8_sews_87 : decode cX8_sews 87 = .ok (.iconst 2, 1) := by decide +kernel
theorem dX8_sews_88 : decode cX8_sews 88 = .ok (.iaload, 1) := by decide +kernel
theorem dX8_sews_89 : decode cX8_sews 89 = .ok (.invokevirtual 522, 3) := by decide +kernel
theorem dX8_sews_92 : decode cX8_sews 92 = .ok (.istore_n 2, 1) := by decide +kernel
theorem dX8_sews_93 : decode cX8_sews 93 = .ok (.aload_n 0, 1) := by decide +kernel
theorem dX8_sews_94 : decode cX8_sews 94 = .ok (.aload_n 0, 1) := by decide +kernel
theorem dX8_sews_95 : decode cX8_sews 95 = .ok (.iload_n 2, 1) := by decide +kernel
theorem dX8_sews_96 : decode cX8_sews 96 = .ok (.invokevirtual 621, 3) := by decide +kernel
theorem dX8_sews_99 : decode cX8_sews 99 = .ok (.putfield 625, 3) := by decide +kernel
theorem dX8_sews_102 : decode cX8_sews 102 = .ok (.goto (-63), 3) := by decide +kernel
theorem dX8_sews_105 : decode cX8_sews 105 = .ok (.aload_n 0, 1) := by decide +kernel
theorem dX8_sews_106 : decode cX8_sews 106 = .ok (.getfield 600, 3) := by decide +kernel
theorem dX8_sews_109 : decode cX8_sews 109 = .ok (.ireturn, 1) := by decide +kernel
