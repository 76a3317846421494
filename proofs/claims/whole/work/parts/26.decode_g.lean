theorem dX8_anew_0 : decode cX8_anew 0 = .ok (.aload_n 0, 1) := by decide +kernel
theorem dX8_anew_1 : decode cX8_anew 1 = .ok (.getfield 422, 3) := by decide +kernel
theorem dX8_anew_4 : decode cX8_anew 4 = .ok (.ifCond .ne 8, 3) := by decide +kernel
theorem dX8_anew_7 : decode cX8_anew 7 = .ok (.aload_n 0, 1) := by decide +kernel
theorem dX8_anew_8 : decode cX8_anew 8 = .ok (.invokevirtual 615, 3) := by decide +kernel
theorem dX8_anew_11 : decode cX8_anew 11 = .ok (.ireturn, 1) := by decide +kernel
theorem dX8_anew_12 : decode cX8_anew 12 = .ok (.aload_n 0, 1) := by decide +kernel
theorem dX8_anew_13 : decode cX8_anew 13 = .ok (.invokevirtual 618, 3) := by decide +kernel
theorem dX8_anew_16 : decode cX8_anew 16 = .ok (.iconst 0, 1) := by decide +kernel
theorem dX8_anew_17 : decode cX8_anew 17 = .ok (.istore_n 1, 1) := by decide +kernel
theorem dX8_anew_18 : decode cX8_anew 18 = .ok (.iload_n 1, 1) := by decide +kernel
theorem dX8_anew_19 : decode cX8_anew 19 = .ok (.bipush 6, 2) := by decide +kernel
theorem dX8_anew_21 : decode cX8_anew 21 = .ok (.if_icmp .ge 16, 3) := by decide +kernel
theorem dX8_anew_24 : decode cX8_anew 24 = .ok (.aload_n 0, 1) := by decide +kernel
theorem dX8_anew_25 : decode cX8_anew 25 = .ok (.getfield 199, 3) := by decide +kernel
theorem dX8_anew_28 : decode cX8_anew 28 = .ok (.iload_n 1, 1) := by decide +kernel
theorem dX8_anew_29 : decode cX8_anew 29 = .ok (.iconst 0, 1) := by decide +kernel
theorem dX8_anew_30 : decode cX8_anew 30 = .ok (.iastore, 1) := by decide +kernel
theorem dX8_anew_31 : decode cX8_anew 31 = .ok (.iinc 1 1, 3) := by decide +kernel
theorem dX8_anew_34 : decode cX8_anew 34 = .ok (.goto (-16), 3) := by decide +kernel
theorem dX8_anew_37 : decode cX8_anew 37 = .ok (.aload_n 0, 1) := by decide +kernel
theorem dX8_anew_38 : decode cX8_anew 38 = .ok (.invokevirtual 606, 3) := by decide +kernel
theorem dX8_anew_41 : decode cX8_anew 41 = .ok (.aload_n 0, 1) := by decide +kernel
theorem dX8_anew_42 : decode cX8_anew 42 = .ok (.getfield 199, 3) := by decide +kernel
theorem dX8_anew_45 : decode cX8_anew 45 = .ok (.iconst 2, 1) := by decide +kernel
theorem dX8_anew_46 : decode cX8_anew 46 = .ok (.iaload, 1) := by decide +kernel
theorem dX8_anew_47 : decode cX8_anew 47 = .ok (.ireturn, 1) := by decide +kernel
theorem dX8_see_0 : decode cX8_see 0 = .ok (.aload_n 0, 1) := by decide +kernel
theorem dX8_see_1 : decode cX8_see 1 = .ok (.getfield 287, 3) := by decide +kernel
theorem dX8_see_4 : decode cX8_see 4 = .ok (.istore_n 1, 1) := by decide +kernel
theorem dX8_see_5 : decode cX8_see 5 = .ok (.aload_n 0, 1) := by decide +kernel
theorem dX8_see_6 : decode cX8_see 6 = .ok (.iconst 0, 1) := by decide +kernel
theorem dX8_see_7 : decode cX8_see 7 = .ok (.putfield 287, 3) := by decide +kernel
theorem dX8_see_10 : decode cX8_see 10 = .ok (.iload_n 1, 1) := by decide +kernel
theorem dX8_see_11 : decode cX8_see 11 = .ok (.ifCond .le 21, 3) := by decide +kernel
theorem dX8_see_14 : decode cX8_see 14 = .ok (.iload_n 1, 1) := by decide +kernel
theorem dX8_see_15 : decode cX8_see 15 = .ok (.iconst 2, 1) := by decide +kernel
theorem dX8_see_16 : decode cX8_see 16 = .ok (.irem, 1) := by decide +kernel
theorem dX8_see_17 : decode cX8_see 17 = .ok (.ifCond .ne 15, 3) := by decide +kernel
theorem dX8_see_20 : decode cX8_see 20 = .ok (.iload_n 1, 1) := by decide +kernel
theorem dX8_see_21 : decode cX8_see 21 = .ok (.iconst 2, 1) := by decide +kernel
theorem dX8_see_22 : decode cX8_see 22 = .ok (.idiv, 1) := by decide +kernel
theorem dX8_see_23 : decode cX8_see 23 = .ok (.bipush 20, 2) := by decide +kernel
theorem dX8_see_25 : decode cX8_see 25 = .ok (.if_icmp .gt 7, 3) := by decide +kernel
theorem dX8_see_28 : decode cX8_see 28 = .ok (.iconst 1, 1) := by decide +kernel
theorem dX8_see_29 : decode cX8_see 29 = .ok (.goto 4, 3) := by decide +kernel
theorem dX8_see_32 : decode cX8_see 32 = .ok (.iconst 0, 1) := by decide +kernel
theorem dX8_see_33 : decode cX8_see 33 = .ok (.istore_n 2, 1) := by decide +kernel
theorem dX8_see_34 : decode cX8_see 34 = .ok (.iconst 0, 1) := by decide +kernel
theorem dX8_see_35 : decode cX8_see 35 = .ok (.istore_n 3, 1) := by decide +kernel
theorem dX8_see_36 : decode cX8_see 36 = .ok (.iload_n 3, 1) := by decide +kernel
theorem dX8_see_37 : decode cX8_see 37 = .ok (.iload_n 1, 1) := by decide +kernel
theorem dX8_see_38 : decode cX8_see 38 = .ok (.if_icmp .ge 44, 3) := by decide +kernel
theorem dX8_see_41 : decode cX8_see 41 = .ok (.iload_n 2, 1) := by decide +kernel
theorem dX8_see_42 : decode cX8_see 42 = .ok (.ifCond .eq 40, 3) := by decide +kernel
theorem dX8_see_45 : decode cX8_see 45 = .ok (.aload_n 0, 1) := by decide +kernel
theorem dX8_see_46 : decode cX8_see 46 = .ok (.getfield 7, 3) := by decide +kernel
theorem dX8_see_49 : decode cX8_see 49 = .ok (.iload_n 3, 1) := by decide +kernel
theorem dX8_see_50 : decode cX8_see 50 = .ok (.iaload, 1) := by decide +kernel
theorem dX8_see_51 : decode cX8_see 51 = .ok (.aload_n 0, 1) := by decide +kernel
theorem dX8_see_52 : decode cX8_see 52 = .ok (.invokevirtual 431, 3) := by decide +kernel
theorem dX8_see_55 : decode cX8_see 55 = .ok (.if_icmp .ge 19, 3) := by decide +kernel
theorem dX8_see_58 : decode cX8_see 58 = .ok (.aload_n 0, 1) := by decide +kernel
theorem dX8_see_59 : decode cX8_see 59 = .ok (.getfield 7, 3) := by decide +kernel
theorem dX8_see_62 : decode cX8_see 62 = .ok (.iload_n 3, 1) := by decide +kernel
theorem dX8_see_63 : decode cX8_see 63 = .ok (.iconst 1, 1) := by decide +kernel
theorem dX8_see_64 : decode cX8_see 64 = .ok (.iadd, 1) := by decide +kernel
theorem dX8_see_65 : decode cX8_see 65 = .ok (.iaload, 1) := by decide +kernel
theorem dX8_see_66 : decode cX8_see 66 = .ok (.iconst 2, 1) := by decide +kernel
theorem dX8_see_67 : decode cX8_see 67 = .ok (.if_icmp .ge 7, 3) := by decide +kernel
theorem dX8_see_70 : decode cX8_see 70 = .ok (.iconst 1, 1) := by decide +kernel
theorem dX8_see_71 : decode cX8_see 71 = .ok (.goto 4, 3) := by decide +kernel
theorem dX8_see_74 : decode cX8_see 74 = .ok (.iconst 0, 1) := by decide +kernel
theorem dX8_see_75 : decode cX8_see 75 = .ok (.istore_n 2, 1) := by decide +kernel
theorem dX8_see_76 : decode cX8_see 76 = .ok (.iinc 3 2, 3) := by decide +kernel
theorem dX8_see_79 : decode cX8_see 79 = .ok (.goto (-43), 3) := by decide +kernel
theorem dX8_see_82 : decode cX8_see 82 = .ok (.iload_n 2, 1) := by decide +kernel
theorem dX8_see_83 : decode cX8_see 83 = .ok (.ifCond .ne 15, 3) := by decide +kernel
theorem dX8_see_86 : decode cX8_see 86 = .ok (.aload_n 0, 1) := by decide +kernel
theorem dX8_see_87 : decode cX8_see 87 = .ok (.getfield 17, 3) := by decide +kernel
theorem dX8_see_90 : decode cX8_see 90 = .ok (.iconst 1, 1) := by decide +kernel
theorem dX8_see_91 : decode cX8_see 91 = .ok (.dup2, 1) := by decide +kernel
theorem dX8_see_92 : decode cX8_see 92 = .ok (.iaload, 1) := by decide +kernel
theorem dX8_see_93 : decode cX8_see 93 = .ok (.iconst 1, 1) := by decide +kernel
theorem dX8_see_94 : decode cX8_see 94 = .ok (.iadd, 1) := by decide +kernel
theorem dX8_see_95 : decode cX8_see 95 = .ok (.iastore, 1) := by decide +kernel
theorem dX8_see_96 : decode cX8_see 96 = .ok (.iconst (-1), 1) := by decide +kernel
theorem dX8_see_97 : decode cX8_see 97 = .ok (.ireturn, 1) := by decide +kernel
theorem dX8_see_98 : decode cX8_see 98 = .ok (.iconst 0, 1) := by decide +kernel
theorem dX8_see_99 : decode cX8_see 99 = .ok (.istore_n 3, 1) := by decide +kernel
theorem dX8_see_100 : decode cX8_see 100 = .ok (.iload_n 3, 1) := by decide +kernel
theorem dX8_see_101 : decode cX8_see 101 = .ok (.iload_n 1, 1) := by decide +kernel
theorem dX8_see_102 : decode cX8_see 102 = .ok (.if_icmp .ge 21, 3) := by decide +kernel
theorem dX8_see_105 : decode cX8_see 105 = .ok (.aload_n 0, 1) := by decide +kernel
theorem dX8_see_106 : decode cX8_see 106 = .ok (.getfield 209, 3) := by decide +kernel
theorem dX8_see_109 : decode cX8_see 109 = .ok (.iload_n 3, 1) := by decide +kernel
theorem dX8_see_110 : decode cX8_see 110 = .ok (.aload_n 0, 1) := by decide +kernel
theorem dX8_see_111 : decode cX8_see 111 = .ok (.getfield 7, 3) := by decide +kernel
theorem dX8_see_114 : decode cX8_see 114 = .ok (.iload_n 3, 1) := by decide +kernel
theorem dX8_see_115 : decode cX8_see 115 = .ok (.iaload, 1) := by decide +kernel
theorem dX8_see_116 : decode cX8_see 116 = .ok (.iastore, 1) := by decide +kernel
theorem dX8_see_117 : decode cX8_see 117 = .ok (.iinc 3 1, 3) := by decide +kernel
theorem dX8_see_120 : decode cX8_see 120 = .ok (.goto (-20), 3) := by decide +kernel
theorem dX8_see_123 : decode cX8_see 123 = .ok (.aload_n 0, 1) := by decide +kernel
theorem dX8_see_124 : decode cX8_see 124 = .ok (.iload_n 1, 1) := by decide +kernel
theorem dX8_see_125 : decode cX8_see 125 = .ok (.iconst 2, 1) := by decide +kernel
theorem dX8_see_126 : decode cX8_see 126 = .ok (.idiv, 1) := by decide +kernel
theorem dX8_see_127 : decode cX8_see 127 = .ok (.putfield 428, 3) := by decide +kernel
theorem dX8_see_130 : decode cX8_see 130 = .ok (.aload_n 0, 1) := by decide +kernel
theorem dX8_see_131 : decode cX8_see 131 = .ok (.getfield 428, 3) := by decide +kernel
theorem dX8_see_134 : decode cX8_see 134 = .ok (.ireturn, 1) := by decide +kernel
theorem dX8_isFitting_0 : decode cX8_isFitting 0 = .ok (.aload_n 0, 1) := by decide +kernel
theorem dX8_isFitting_1 : decode cX8_isFitting 1 = .ok (.iload_n 1, 1) := by decide +kernel
theorem dX8_isFitting_2 : decode cX8_isFitting 2 = .ok (.invokevirtual 557, 3) := by decide +kernel
theorem dX8_isFitting_5 : decode cX8_isFitting 5 = .ok (.ifCond .ne 5, 3) := by decide +kernel
theorem dX8_isFitting_8 : decode cX8_isFitting 8 = .ok (.iconst 0, 1) := by decide +kernel
theorem dX8_isFitting_9 : decode cX8_isFitting 9 = .ok (.ireturn, 1) := by decide +kernel
theorem dX8_isFitting_10 : decode cX8_isFitting 10 = .ok (.iconst 0, 1) := by decide +kernel
theorem dX8_isFitting_11 : decode cX8_isFitting 11 = .ok (.istore_n 2, 1) := by decide +kernel
theorem dX8_isFitting_12 : decode cX8_isFitting 12 = .ok (.iload_n 2, 1) := by decide +kernel
theorem dX8_isFitting_13 : decode cX8_isFitting 13 = .ok (.aload_n 0, 1) := by decide +kernel
theorem dX8_isFitting_14 : decode cX8_isFitting 14 = .ok (.getfield 428, 3) := by decide +kernel
theorem dX8_isFitting_17 : decode cX8_isFitting 17 = .ok (.if_icmp .ge 37, 3) := by decide +kernel
theorem dX8_isFitting_20 : decode cX8_isFitting 20 = .ok (.aload_n 0, 1) := by decide +kernel
theorem dX8_isFitting_21 : decode cX8_isFitting 21 = .ok (.getfield 157, 3) := by decide +kernel
theorem dX8_isFitting_24 : decode cX8_isFitting 24 = .ok (.aload_n 0, 1) := by decide +kernel
theorem dX8_isFitting_25 : decode cX8_isFitting 25 = .ok (.getfield 209, 3) := by decide +kernel
theorem dX8_isFitting_28 : decode cX8_isFitting 28 = .ok (.iconst 2, 1) := by decide +kernel
theorem dX8_isFitting_29 : decode cX8_isFitting 29 = .ok (.iload_n 2, 1) := by decide +kernel
theorem dX8_isFitting_30 : decode cX8_isFitting 30 = .ok (.imul, 1) := by decide +kernel
theorem dX8_isFitting_31 : decode cX8_isFitting 31 = .ok (.iaload, 1) := by decide +kernel
theorem dX8_isFitting_32 : decode cX8_isFitting 32 = .ok (.iaload, 1) := by decide +kernel
theorem dX8_isFitting_33 : decode cX8_isFitting 33 = .ok (.aload_n 0, 1) := by decide +kernel
theorem dX8_isFitting_34 : decode cX8_isFitting 34 = .ok (.getfield 209, 3) := by decide +kernel
theorem dX8_isFitting_37 : decode cX8_isFitting 37 = .ok (.iconst 2, 1) := by decide +kernel
theorem dX8_isFitting_38 : decode cX8_isFitting 38 = .ok (.iload_n 2, 1) := by decide +kernel
theorem dX8_isFitting_39 : decode cX8_isFitting 39 = .ok (.imul, 1) := by decide +kernel
theorem dX8_isFitting_40 : decode cX8_isFitting 40 = .ok (.iconst 1, 1) := by decide +kernel
theorem dX8_isFitting_41 : decode cX8_isFitting 41 = .ok (.iadd, 1) := by decide +kernel
theorem dX8_isFitting_42 : decode cX8_isFitting 42 = .ok (.iaload, 1) := by decide +kernel
theorem dX8_isFitting_43 : decode cX8_isFitting 43 = .ok (.if_icmp .eq 5, 3) := by decide +kernel
theorem dX8_isFitting_46 : decode cX8_isFitting 46 = .ok (.iconst 0, 1) := by decide +kernel
theorem dX8_isFitting_47 : decode cX8_isFitting 47 = .ok (.ireturn, 1) := by decide +kernel
theorem dX8_isFitting_48 : decode cX8_isFitting 48 = .ok (.iinc 2 1, 3) := by decide +kernel
theorem dX8_isFitting_51 : decode cX8_isFitting 51 = .ok (.goto (-39), 3) := by decide +kernel
theorem dX8_isFitting_54 : decode cX8_isFitting 54 = .ok (.iconst 1, 1) := by decide +kernel
theorem dX8_isFitting_55 : decode cX8_isFitting 55 = .ok (.ireturn, 1) := by decide +kernel
theorem dX8_fits_0 : decode cX8_fits 0 = .ok (.aload_n 0, 1) := by decide +kernel
theorem dX8_fits_1 : decode cX8_fits 1 = .ok (.getfield 428, 3) := by decide +kernel
theorem dX8_fits_4 : decode cX8_fits 4 = .ok (.ifCond .eq 15, 3) := by decide +kernel
theorem dX8_fits_7 : decode cX8_fits 7 = .ok (.iload_n 1, 1) := by decide +kernel
theorem dX8_fits_8 : decode cX8_fits 8 = .ok (.i2l, 1) := by decide +kernel
theorem dX8_fits_9 : decode cX8_fits 9 = .ok (.lconst 0, 1) := by decide +kernel
theorem dX8_fits_10 : decode cX8_fits 10 = .ok (.ldc2_w 526, 3) := by decide +kernel
theorem dX8_fits_13 : decode cX8_fits 13 = .ok (.invokestatic 333, 3) := by decide +kernel
theorem dX8_fits_16 : decode cX8_fits 16 = .ok (.ifCond .ne 5, 3) := by decide +kernel
theorem dX8_fits_19 : decode cX8_fits 19 = .ok (.iconst (-1), 1) := by decide +kernel
theorem dX8_fits_20 : decode cX8_fits 20 = .ok (.ireturn, 1) := by decide +kernel
theorem dX8_fits_21 : decode cX8_fits 21 = .ok (.iconst 0, 1) := by decide +kernel
theorem dX8_fits_22 : decode cX8_fits 22 = .ok (.istore_n 2, 1) := by decide +kernel
theorem dX8_fits_23 : decode cX8_fits 23 = .ok (.iconst (-1), 1) := by decide +kernel
theorem dX8_fits_24 : decode cX8_fits 24 = .ok (.istore_n 3, 1) := by decide +kernel
theorem dX8_fits_25 : decode cX8_fits 25 = .ok (.iconst (-1), 1) := by decide +kernel
theorem dX8_fits_26 : decode cX8_fits 26 = .ok (.istore 4, 2) := by decide +kernel
theorem dX8_fits_28 : decode cX8_fits 28 = .ok (.iconst 1, 1) := by decide +kernel
theorem dX8_fits_29 : decode cX8_fits 29 = .ok (.istore 5, 2) := by decide +kernel
theorem dX8_fits_31 : decode cX8_fits 31 = .ok (.iload 5, 2) := by decide +kernel
theorem dX8_fits_33 : decode cX8_fits 33 = .ok (.bipush 99, 2) := by decide +kernel
theorem dX8_fits_35 : decode cX8_fits 35 = .ok (.if_icmp .gt 36, 3) := by decide +kernel
theorem dX8_fits_38 : decode cX8_fits 38 = .ok (.aload_n 0, 1) := by decide +kernel
theorem dX8_fits_39 : decode cX8_fits 39 = .ok (.iload 5, 2) := by decide +kernel
theorem dX8_fits_41 : decode cX8_fits 41 = .ok (.invokevirtual 628, 3) := by decide +kernel
theorem dX8_fits_44 : decode cX8_fits 44 = .ok (.ifCond .ne 6, 3) := by decide +kernel
theorem dX8_fits_47 : decode cX8_fits 47 = .ok (.goto 18, 3) := by decide +kernel
theorem dX8_fits_50 : decode cX8_fits 50 = .ok (.iinc 2 1, 3) := by decide +kernel
theorem dX8_fits_53 : decode cX8_fits 53 = .ok (.iload_n 3, 1) := by decide +kernel
theorem dX8_fits_54 : decode cX8_fits 54 = .ok (.iconst (-1), 1) := by decide +kernel
theorem dX8_fits_55 : decode cX8_fits 55 = .ok (.if_icmp .ne 6, 3) := by decide +kernel
theorem dX8_fits_58 : decode cX8_fits 58 = .ok (.iload 5, 2) := by decide +kernel
theorem dX8_fits_60 : decode cX8_fits 60 = .ok (.istore_n 3, 1) := by decide +kernel
theorem dX8_fits_61 : decode cX8_fits 61 = .ok (.iload 5, 2) := by decide +kernel
theorem dX8_fits_63 : decode cX8_fits 63 = .ok (.istore 4, 2) := by decide +kernel
theorem dX8_fits_65 : decode cX8_fits 65 = .ok (.iinc 5 1, 3) := by decide +kernel
theorem dX8_fits_68 : decode cX8_fits 68 = .ok (.goto (-37), 3) := by decide +kernel
theorem dX8_fits_71 : decode cX8_fits 71 = .ok (.iload_n 1, 1) := by decide +kernel
theorem dX8_fits_72 : decode cX8_fits 72 = .ok (.ifCond .ne 7, 3) := by decide +kernel
theorem dX8_fits_75 : decode cX8_fits 75 = .ok (.iload_n 2, 1) := by decide +kernel
theorem dX8_fits_76 : decode cX8_fits 76 = .ok (.goto 14, 3) := by decide +kernel
theorem dX8_fits_79 : decode cX8_fits 79 = .ok (.iload_n 1, 1) := by decide +kernel
theorem dX8_fits_80 : decode cX8_fits 80 = .ok (.iconst 1, 1) := by decide +kernel
theorem dX8_fits_81 : decode cX8_fits 81 = .ok (.if_icmp .ne 7, 3) := by decide +kernel
theorem dX8_fits_84 : decode cX8_fits 84 = .ok (.iload_n 3, 1) := by decide +kernel
theorem dX8_fits_85 : decode cX8_fits 85 = .ok (.goto 5, 3) := by decide +kernel
theorem dX8_fits_88 : decode cX8_fits 88 = .ok (.iload 4, 2) := by decide +kernel
theorem dX8_fits_90 : decode cX8_fits 90 = .ok (.ireturn, 1) := by decide +kernel
theorem dX8_qCode_0 : decode cX8_qCode 0 = .ok (.aload_n 0, 1) := by decide +kernel
theorem dX8_qCode_1 : decode cX8_qCode 1 = .ok (.getfield 275, 3) := by decide +kernel
theorem dX8_qCode_4 : decode cX8_qCode 4 = .ok (.aload_n 0, 1) := by decide +kernel
theorem dX8_qCode_5 : decode cX8_qCode 5 = .ok (.getfield 383, 3) := by decide +kernel
theorem dX8_qCode_8 : decode cX8_qCode 8 = .ok (.iload_n 1, 1) := by decide +kernel
theorem dX8_qCode_9 : decode cX8_qCode 9 = .ok (.iastore, 1) := by decide +kernel
theorem dX8_qCode_10 : decode cX8_qCode 10 = .ok (.aload_n 0, 1) := by decide +kernel
theorem dX8_qCode_11 : decode cX8_qCode 11 = .ok (.dup, 1) := by decide +kernel
theorem dX8_qCode_12 : decode cX8_qCode 12 = .ok (.getfield 383, 3) := by decide +kernel
theorem dX8_qCode_15 : decode cX8_qCode 15 = .ok (.iconst 1, 1) := by decide +kernel
theorem dX8_qCode_16 : decode cX8_qCode 16 = .ok (.iadd, 1) := by decide +kernel
theorem dX8_qCode_17 : decode cX8_qCode 17 = .ok (.putfield 383, 3) := by decide +kernel
theorem dX8_qCode_20 : decode cX8_qCode 20 = .ok (.return_, 1) := by decide +kernel
theorem dX8_qOpens_0 : decode cX8_qOpens 0 = .ok (.aload_n 0, 1) := by decide +kernel
theorem dX8_qOpens_1 : decode cX8_qOpens 1 = .ok (.getfield 290, 3) := by decide +kernel
theorem dX8_qOpens_4 : decode cX8_qOpens 4 = .ok (.ifCond .eq 4, 3) := by decide +kernel
theorem dX8_qOpens_7 : decode cX8_qOpens 7 = .ok (.return_, 1) := by decide +kernel
theorem dX8_qOpens_8 : decode cX8_qOpens 8 = .ok (.aload_n 0, 1) := by decide +kernel
theorem dX8_qOpens_9 : decode cX8_qOpens 9 = .ok (.getfield 389, 3) := by decide +kernel
theorem dX8_qOpens_12 : decode cX8_qOpens 12 = .ok (.bipush 6, 2) := by decide +kernel
theorem dX8_qOpens_14 : decode cX8_qOpens 14 = .ok (.if_icmp .ne 10, 3) := by decide +kernel
theorem dX8_qOpens_17 : decode cX8_qOpens 17 = .ok (.aload_n 0, 1) := by decide +kernel
theorem dX8_qOpens_18 : decode cX8_qOpens 18 = .ok (.iconst 4, 1) := by decide +kernel
theorem dX8_qOpens_19 : decode cX8_qOpens 19 = .ok (.iload_n 2, 1) := by decide +kernel
theorem dX8_qOpens_20 : decode cX8_qOpens 20 = .ok (.invokevirtual 320, 3) := by decide +kernel
theorem dX8_qOpens_23 : decode cX8_qOpens 23 = .ok (.return_, 1) := by decide +kernel
theorem dX8_qOpens_24 : decode cX8_qOpens 24 = .ok (.aload_n 0, 1) := by decide +kernel
theorem dX8_qOpens_25 : decode cX8_qOpens 25 = .ok (.dup, 1) := by decide +kernel
theorem dX8_qOpens_26 : decode cX8_qOpens 26 = .ok (.getfield 389, 3) := by decide +kernel
theorem dX8_qOpens_29 : decode cX8_qOpens 29 = .ok (.iconst 1, 1) := by decide +kernel
theorem dX8_qOpens_30 : decode cX8_qOpens 30 = .ok (.iadd, 1) := by decide +kernel
theorem dX8_qOpens_31 : decode cX8_qOpens 31 = .ok (.putfield 389, 3) := by decide +kernel
theorem dX8_qOpens_34 : decode cX8_qOpens 34 = .ok (.aload_n 0, 1) := by decide +kernel
theorem dX8_qOpens_35 : decode cX8_qOpens 35 = .ok (.getfield 278, 3) := by decide +kernel
theorem dX8_qOpens_38 : decode cX8_qOpens 38 = .ok (.aload_n 0, 1) := by decide +kernel
theorem dX8_qOpens_39 : decode cX8_qOpens 39 = .ok (.getfield 386, 3) := by decide +kernel
theorem dX8_qOpens_42 : decode cX8_qOpens 42 = .ok (.iload_n 1, 1) := by decide +kernel
theorem dX8_qOpens_43 : decode cX8_qOpens 43 = .ok (.iastore, 1) := by decide +kernel
theorem dX8_qOpens_44 : decode cX8_qOpens 44 = .ok (.aload_n 0, 1) := by decide +kernel
theorem dX8_qOpens_45 : decode cX8_qOpens 45 = .ok (.dup, 1) := by decide +kernel
theorem dX8_qOpens_46 : decode cX8_qOpens 46 = .ok (.getfield 386, 3) := by decide +kernel
theorem dX8_qOpens_49 : decode cX8_qOpens 49 = .ok (.iconst 1, 1) := by decide +kernel
theorem dX8_qOpens_50 : decode cX8_qOpens 50 = .ok (.iadd, 1) := by decide +kernel
theorem dX8_qOpens_51 : decode cX8_qOpens 51 = .ok (.putfield 386, 3) := by decide +kernel
theorem dX8_qOpens_54 : decode cX8_qOpens 54 = .ok (.return_, 1) := by decide +kernel
theorem dX8_qIsOn_0 : decode cX8_qIsOn 0 = .ok (.aload_n 0, 1) := by decide +kernel
theorem dX8_qIsOn_1 : decode cX8_qIsOn 1 = .ok (.getfield 386, 3) := by decide +kernel
theorem dX8_qIsOn_4 : decode cX8_qIsOn 4 = .ok (.ifCond .le 22, 3) := by decide +kernel
theorem dX8_qIsOn_7 : decode cX8_qIsOn 7 = .ok (.aload_n 0, 1) := by decide +kernel
theorem dX8_qIsOn_8 : decode cX8_qIsOn 8 = .ok (.getfield 278, 3) := by decide +kernel
theorem dX8_qIsOn_11 : decode cX8_qIsOn 11 = .ok (.aload_n 0, 1) := by decide +kernel
theorem dX8_qIsOn_12 : decode cX8_qIsOn 12 = .ok (.getfield 386, 3) := by decide +kernel
theorem dX8_qIsOn_15 : decode cX8_qIsOn 15 = .ok (.iconst 1, 1) := by decide +kernel
theorem dX8_qIsOn_16 : decode cX8_qIsOn 16 = .ok (.isub, 1) := by decide +kernel
theorem dX8_qIsOn_17 : decode cX8_qIsOn 17 = .ok (.iaload, 1) := by decide +kernel
theorem dX8_qIsOn_18 : decode cX8_qIsOn 18 = .ok (.iload_n 1, 1) := by decide +kernel
theorem dX8_qIsOn_19 : decode cX8_qIsOn 19 = .ok (.if_icmp .ne 7, 3) := by decide +kernel
theorem dX8_qIsOn_22 : decode cX8_qIsOn 22 = .ok (.iconst 1, 1) := by decide +kernel
theorem dX8_qIsOn_23 : decode cX8_qIsOn 23 = .ok (.goto 4, 3) := by decide +kernel
theorem dX8_qIsOn_26 : decode cX8_qIsOn 26 = .ok (.iconst 0, 1) := by decide +kernel
theorem dX8_qIsOn_27 : decode cX8_qIsOn 27 = .ok (.ireturn, 1) := by decide +kernel
theorem dX8_qDrops_0 : decode cX8_qDrops 0 = .ok (.aload_n 0, 1) := by decide +kernel
theorem dX8_qDrops_1 : decode cX8_qDrops 1 = .ok (.dup, 1) := by decide +kernel
theorem dX8_qDrops_2 : decode cX8_qDrops 2 = .ok (.getfield 386, 3) := by decide +kernel
theorem dX8_qDrops_5 : decode cX8_qDrops 5 = .ok (.iconst 1, 1) := by decide +kernel
theorem dX8_qDrops_6 : decode cX8_qDrops 6 = .ok (.isub, 1) := by decide +kernel
theorem dX8_qDrops_7 : decode cX8_qDrops 7 = .ok (.putfield 386, 3) := by decide +kernel
theorem dX8_qDrops_10 : decode cX8_qDrops 10 = .ok (.aload_n 0, 1) := by decide +kernel
theorem dX8_qDrops_11 : decode cX8_qDrops 11 = .ok (.aload_n 0, 1) := by decide +kernel
theorem dX8_qDrops_12 : decode cX8_qDrops 12 = .ok (.getfield 278, 3) := by decide +kernel
theorem dX8_qDrops_15 : decode cX8_qDrops 15 = .ok (.aload_n 0, 1) := by decide +kernel
theorem dX8_qDrops_16 : decode cX8_qDrops 16 = .ok (.getfield 386, 3) := by decide +kernel
theorem dX8_qDrops_19 : decode cX8_qDrops 19 = .ok (.iaload, 1) := by decide +kernel
theorem dX8_qDrops_20 : decode cX8_qDrops 20 = .ok (.invokevirtual 631, 3) := by decide +kernel
theorem dX8_qDrops_23 : decode cX8_qDrops 23 = .ok (.return_, 1) := by decide +kernel
theorem dX8_qIsBracket_0 : decode cX8_qIsBracket 0 = .ok (.iload_n 0, 1) := by decide +kernel
theorem dX8_qIsBracket_1 : decode cX8_qIsBracket 1 = .ok (.bipush 20, 2) := by decide +kernel
theorem dX8_qIsBracket_3 : decode cX8_qIsBracket 3 = .ok (.if_icmp .lt 13, 3) := by decide +kernel
theorem dX8_qIsBracket_6 : decode cX8_qIsBracket 6 = .ok (.iload_n 0, 1) := by decide +kernel
theorem dX8_qIsBracket_7 : decode cX8_qIsBracket 7 = .ok (.bipush 24, 2) := by decide +kernel
theorem dX8_qIsBracket_9 : decode cX8_qIsBracket 9 = .ok (.if_icmp .gt 7, 3) := by decide +kernel
theorem dX8_qIsBracket_12 : decode cX8_qIsBracket 12 = .ok (.iconst 1, 1) := by decide +kernel
theorem dX8_qIsBracket_13 : decode cX8_qIsBracket 13 = .ok (.goto 4, 3) := by decide +kernel
theorem dX8_qIsBracket_16 : decode cX8_qIsBracket 16 = .ok (.iconst 0, 1) := by decide +kernel
theorem dX8_qIsBracket_17 : decode cX8_qIsBracket 17 = .ok (.ireturn, 1) := by decide +kernel
theorem dX8_qBracket_0 : decode cX8_qBracket 0 = .ok (.aload_n 0, 1) := by decide +kernel
theorem dX8_qBracket_1 : decode cX8_qBracket 1 = .ok (.getfield 386, 3) := by decide +kernel
theorem dX8_qBracket_4 : decode cX8_qBracket 4 = .ok (.iconst 1, 1) := by decide +kernel
theorem dX8_qBracket_5 : decode cX8_qBracket 5 = .ok (.isub, 1) := by decide +kernel
theorem dX8_qBracket_6 : decode cX8_qBracket 6 = .ok (.istore_n 1, 1) := by decide +kernel
theorem dX8_qBracket_7 : decode cX8_qBracket 7 = .ok (.iload_n 1, 1) := by decide +kernel
theorem dX8_qBracket_8 : decode cX8_qBracket 8 = .ok (.aload_n 0, 1) := by decide +kernel
theorem dX8_qBracket_9 : decode cX8_qBracket 9 = .ok (.getfield 392, 3) := by decide +kernel
theorem dX8_qBracket_12 : decode cX8_qBracket 12 = .ok (.if_icmp .lt 21, 3) := by decide +kernel
theorem dX8_qBracket_15 : decode cX8_qBracket 15 = .ok (.aload_n 0, 1) := by decide +kernel
theorem dX8_qBracket_16 : decode cX8_qBracket 16 = .ok (.getfield 278, 3) := by decide +kernel
theorem dX8_qBracket_19 : decode cX8_qBracket 19 = .ok (.iload_n 1, 1) := by decide +kernel
theorem dX8_qBracket_20 : decode cX8_qBracket 20 = .ok (.iaload, 1) := by decide +kernel
theorem dX8_qBracket_21 : decode cX8_qBracket 21 = .ok (.invokestatic 634, 3) := by decide +kernel
theorem dX8_qBracket_24 : decode cX8_qBracket 24 = .ok (.ifCond .ne 9, 3) := by decide +kernel
theorem dX8_qBracket_27 : decode cX8_qBracket 27 = .ok (.iinc 1 (-1), 3) := by decide +kernel
theorem dX8_qBracket_30 : decode cX8_qBracket 30 = .ok (.goto (-23), 3) := by decide +kernel
theorem dX8_qBracket_33 : decode cX8_qBracket 33 = .ok (.iload_n 1, 1) := by decide +kernel
theorem dX8_qBracket_34 : decode cX8_qBracket 34 = .ok (.aload_n 0, 1) := by decide +kernel
theorem dX8_qBracket_35 : decode cX8_qBracket 35 = .ok (.getfield 392, 3) := by decide +kernel
theorem dX8_qBracket_38 : decode cX8_qBracket 38 = .ok (.if_icmp .lt 12, 3) := by decide +kernel
theorem dX8_qBracket_41 : decode cX8_qBracket 41 = .ok (.aload_n 0, 1) := by decide +kernel
theorem dX8_qBracket_42 : decode cX8_qBracket 42 = .ok (.getfield 278, 3) := by decide +kernel
theorem dX8_qBracket_45 : decode cX8_qBracket 45 = .ok (.iload_n 1, 1) := by decide +kernel
theorem dX8_qBracket_46 : decode cX8_qBracket 46 = .ok (.iaload, 1) := by decide +kernel
theorem dX8_qBracket_47 : decode cX8_qBracket 47 = .ok (.goto 4, 3) := by decide +kernel
theorem dX8_qBracket_50 : decode cX8_qBracket 50 = .ok (.iconst (-1), 1) := by decide +kernel
theorem dX8_qBracket_51 : decode cX8_qBracket 51 = .ok (.ireturn, 1) := by decide +kernel
theorem dX8_qDropsToBracket_0 : decode cX8_qDropsToBracket 0 = .ok (.aload_n 0, 1) := by decide +kernel
theorem dX8_qDropsToBracket_1 : decode cX8_qDropsToBracket 1 = .ok (.getfield 386, 3) := by decide +kernel
theorem dX8_qDropsToBracket_4 : decode cX8_qDropsToBracket 4 = .ok (.aload_n 0, 1) := by decide +kernel
theorem dX8_qDropsToBracket_5 : decode cX8_qDropsToBracket 5 = .ok (.getfield 392, 3) := by decide +kernel
theorem dX8_qDropsToBracket_8 : decode cX8_qDropsToBracket 8 = .ok (.if_icmp .le 27, 3) := by decide +kernel
theorem dX8_qDropsToBracket_11 : decode cX8_qDropsToBracket 11 = .ok (.aload_n 0, 1) := by decide +kernel
theorem dX8_qDropsToBracket_12 : decode cX8_qDropsToBracket 12 = .ok (.getfield 278, 3) := by decide +kernel
theorem dX8_qDropsToBracket_15 : decode cX8_qDropsToBracket 15 = .ok (.aload_n 0, 1) := by decide +kernel
theorem dX8_qDropsToBracket_16 : decode cX8_qDropsToBracket 16 = .ok (.getfield 386, 3) := by decide +kernel
theorem dX8_qDropsToBracket_19 : decode cX8_qDropsToBracket 19 = .ok (.iconst 1, 1) := by decide +kernel
theorem dX8_qDropsToBracket_20 : decode cX8_qDropsToBracket 20 = .ok (.isub, 1) := by decide +kernel
theorem dX8_qDropsToBracket_21 : decode cX8_qDropsToBracket 21 = .ok (.iaload, 1) := by decide +kernel
theorem dX8_qDropsToBracket_22 : decode cX8_qDropsToBracket 22 = .ok (.invokestatic 634, 3) := by decide +kernel
theorem dX8_qDropsToBracket_25 : decode cX8_qDropsToBracket 25 = .ok (.ifCond .ne 10, 3) := by decide +kernel
theorem dX8_qDropsToBracket_28 : decode cX8_qDropsToBracket 28 = .ok (.aload_n 0, 1) := by decide +kernel
theorem dX8_qDropsToBracket_29 : decode cX8_qDropsToBracket 29 = .ok (.invokevirtual 637, 3) := by decide +kernel
theorem dX8_qDropsToBracket_32 : decode cX8_qDropsToBracket 32 = .ok (.goto (-32), 3) := by decide +kernel
theorem dX8_qDropsToBracket_35 : decode cX8_qDropsToBracket 35 = .ok (.return_, 1) := by decide +kernel
theorem dX8_qWordHere_0 : decode cX8_qWordHere 0 = .ok (.aload_n 0, 1) := by decide +kernel
theorem dX8_qWordHere_1 : decode cX8_qWordHere 1 = .ok (.aload_n 0, 1) := by decide +kernel
theorem dX8_qWordHere_2 : decode cX8_qWordHere 2 = .ok (.getfield 248, 3) := by decide +kernel
theorem dX8_qWordHere_5 : decode cX8_qWordHere 5 = .ok (.invokevirtual 313, 3) := by decide +kernel
theorem dX8_qWordHere_8 : decode cX8_qWordHere 8 = .ok (.ifCond .eq 5, 3) := by decide +kernel
theorem dX8_qWordHere_11 : decode cX8_qWordHere 11 = .ok (.iconst 0, 1) := by decide +kernel
theorem dX8_qWordHere_12 : decode cX8_qWordHere 12 = .ok (.ireturn, 1) := by decide +kernel
theorem dX8_qWordHere_13 : decode cX8_qWordHere 13 = .ok (.aload_n 0, 1) := by decide +kernel
theorem dX8_qWordHere_14 : decode cX8_qWordHere 14 = .ok (.aload_n 0, 1) := by decide +kernel
theorem dX8_qWordHere_15 : decode cX8_qWordHere 15 = .ok (.getfield 251, 3) := by decide +kernel
theorem dX8_qWordHere_18 : decode cX8_qWordHere 18 = .ok (.invokevirtual 313, 3) := by decide +kernel
theorem dX8_qWordHere_21 : decode cX8_qWordHere 21 = .ok (.ifCond .eq 5, 3) := by decide +kernel
theorem dX8_qWordHere_24 : decode cX8_qWordHere 24 = .ok (.iconst 1, 1) := by decide +kernel
theorem dX8_qWordHere_25 : decode cX8_qWordHere 25 = .ok (.ireturn, 1) := by decide +kernel
theorem dX8_qWordHere_26 : decode cX8_qWordHere 26 = .ok (.aload_n 0, 1) := by decide +kernel
theorem dX8_qWordHere_27 : decode cX8_qWordHere 27 = .ok (.aload_n 0, 1) := by decide +kernel
theorem dX8_qWordHere_28 : decode cX8_qWordHere 28 = .ok (.getfield 254, 3) := by decide +kernel
theorem dX8_qWordHere_31 : decode cX8_qWordHere 31 = .ok (.invokevirtual 313, 3) := by decide +kernel
theorem dX8_qWordHere_34 : decode cX8_qWordHere 34 = .ok (.ifCond .eq 5, 3) := by decide +kernel
theorem dX8_qWordHere_37 : decode cX8_qWordHere 37 = .ok (.iconst 2, 1) := by decide +kernel
theorem dX8_qWordHere_38 : decode cX8_qWordHere 38 = .ok (.ireturn, 1) := by decide +kernel
theorem dX8_qWordHere_39 : decode cX8_qWordHere 39 = .ok (.aload_n 0, 1) := by decide +kernel
theorem dX8_qWordHere_40 : decode cX8_qWordHere 40 = .ok (.aload_n 0, 1) := by decide +kernel
theorem dX8_qWordHere_41 : decode cX8_qWordHere 41 = .ok (.getfield 257, 3) := by decide +kernel
theorem dX8_qWordHere_44 : decode cX8_qWordHere 44 = .ok (.invokevirtual 313, 3) := by decide +kernel
theorem dX8_qWordHere_47 : decode cX8_qWordHere 47 = .ok (.ifCond .eq 5, 3) := by decide +kernel
theorem dX8_qWordHere_50 : decode cX8_qWordHere 50 = .ok (.iconst 3, 1) := by decide +kernel
theorem dX8_qWordHere_51 : decode cX8_qWordHere 51 = .ok (.ireturn, 1) := by decide +kernel
theorem dX8_qWordHere_52 : decode cX8_qWordHere 52 = .ok (.aload_n 0, 1) := by decide +kernel
theorem dX8_qWordHere_53 : decode cX8_qWordHere 53 = .ok (.aload_n 0, 1) := by decide +kernel
theorem dX8_qWordHere_54 : decode cX8_qWordHere 54 = .ok (.getfield 260, 3) := by decide +kernel
theorem dX8_qWordHere_57 : decode cX8_qWordHere 57 = .ok (.invokevirtual 313, 3) := by decide +kernel
theorem dX8_qWordHere_60 : decode cX8_qWordHere 60 = .ok (.ifCond .eq 5, 3) := by decide +kernel
theorem dX8_qWordHere_63 : decode cX8_qWordHere 63 = .ok (.iconst 4, 1) := by decide +kernel
theorem dX8_qWordHere_64 : decode cX8_qWordHere 64 = .ok (.ireturn, 1) := by decide +kernel
theorem dX8_qWordHere_65 : decode cX8_qWordHere 65 = .ok (.aload_n 0, 1) := by decide +kernel
theorem dX8_qWordHere_66 : decode cX8_qWordHere 66 = .ok (.aload_n 0, 1) := by decide +kernel
theorem dX8_qWordHere_67 : decode cX8_qWordHere 67 = .ok (.getfield 227, 3) := by decide +kernel
theorem dX8_qWordHere_70 : decode cX8_qWordHere 70 = .ok (.invokevirtual 313, 3) := by decide +kernel
theorem dX8_qWordHere_73 : decode cX8_qWordHere 73 = .ok (.ifCond .eq 5, 3) := by decide +kernel
theorem dX8_qWordHere_76 : decode cX8_qWordHere 76 = .ok (.iconst 5, 1) := by decide +kernel
theorem dX8_qWordHere_77 : decode cX8_qWordHere 77 = .ok (.ireturn, 1) := by decide +kernel
theorem dX8_qWordHere_78 : decode cX8_qWordHere 78 = .ok (.aload_n 0, 1) := by decide +kernel
theorem dX8_qWordHere_79 : decode cX8_qWordHere 79 = .ok (.aload_n 0, 1) := by decide +kernel
theorem dX8_qWordHere_80 : decode cX8_qWordHere 80 = .ok (.getfield 224, 3) := by decide +kernel
theorem dX8_qWordHere_83 : decode cX8_qWordHere 83 = .ok (.invokevirtual 313, 3) := by decide +kernel
theorem dX8_qWordHere_86 : decode cX8_qWordHere 86 = .ok (.ifCond .eq 6, 3) := by decide +kernel
theorem dX8_qWordHere_89 : decode cX8_qWordHere 89 = .ok (.bipush 6, 2) := by decide +kernel
theorem dX8_qWordHere_91 : decode cX8_qWordHere 91 = .ok (.ireturn, 1) := by decide +kernel
theorem dX8_qWordHere_92 : decode cX8_qWordHere 92 = .ok (.aload_n 0, 1) := by decide +kernel
theorem dX8_qWordHere_93 : decode cX8_qWordHere 93 = .ok (.aload_n 0, 1) := by decide +kernel
theorem dX8_qWordHere_94 : decode cX8_qWordHere 94 = .ok (.getfield 263, 3) := by decide +kernel
theorem dX8_qWordHere_97 : decode cX8_qWordHere 97 = .ok (.invokevirtual 313, 3) := by decide +kernel
theorem dX8_qWordHere_100 : decode cX8_qWordHere 100 = .ok (.ifCond .eq 6, 3) := by decide +kernel
theorem dX8_qWordHere_103 : decode cX8_qWordHere 103 = .ok (.bipush 7, 2) := by decide +kernel
theorem dX8_qWordHere_105 : decode cX8_qWordHere 105 = .ok (.ireturn, 1) := by decide +kernel
theorem dX8_qWordHere_106 : decode cX8_qWordHere 106 = .ok (.aload_n 0, 1) := by decide +kernel
theorem dX8_qWordHere_107 : decode cX8_qWordHere 107 = .ok (.aload_n 0, 1) := by decide +kernel
theorem dX8_qWordHere_108 : decode cX8_qWordHere 108 = .ok (.getfield 266, 3) := by decide +kernel
theorem dX8_qWordHere_111 : decode cX8_qWordHere 111 = .ok (.invokevirtual 313, 3) := by decide +kernel
theorem dX8_qWordHere_114 : decode cX8_qWordHere 114 = .ok (.ifCond .eq 6, 3) := by decide +kernel
theorem dX8_qWordHere_117 : decode cX8_qWordHere 117 = .ok (.bipush 8, 2) := by decide +kernel
theorem dX8_qWordHere_119 : decode cX8_qWordHere 119 = .ok (.ireturn, 1) := by decide +kernel
theorem dX8_qWordHere_120 : decode cX8_qWordHere 120 = .ok (.aload_n 0, 1) := by decide +kernel
theorem dX8_qWordHere_121 : decode cX8_qWordHere 121 = .ok (.aload_n 0, 1) := by decide +kernel
theorem dX8_qWordHere_122 : decode cX8_qWordHere 122 = .ok (.getfield 269, 3) := by decide +kernel
theorem dX8_qWordHere_125 : decode cX8_qWordHere 125 = .ok (.invokevirtual 313, 3) := by decide +kernel
theorem dX8_qWordHere_128 : decode cX8_qWordHere 128 = .ok (.ifCond .eq 6, 3) := by decide +kernel
theorem dX8_qWordHere_131 : decode cX8_qWordHere 131 = .ok (.bipush 9, 2) := by decide +kernel
theorem dX8_qWordHere_133 : decode cX8_qWordHere 133 = .ok (.ireturn, 1) := by decide +kernel
theorem dX8_qWordHere_134 : decode cX8_qWordHere 134 = .ok (.aload_n 0, 1) := by decide +kernel
theorem dX8_qWordHere_135 : decode cX8_qWordHere 135 = .ok (.aload_n 0, 1) := by decide +kernel
theorem dX8_qWordHere_136 : decode cX8_qWordHere 136 = .ok (.getfield 272, 3) := by decide +kernel
theorem dX8_qWordHere_139 : decode cX8_qWordHere 139 = .ok (.invokevirtual 313, 3) := by decide +kernel
theorem dX8_qWordHere_142 : decode cX8_qWordHere 142 = .ok (.ifCond .eq 6, 3) := by decide +kernel
theorem dX8_qWordHere_145 : decode cX8_qWordHere 145 = .ok (.bipush 10, 2) := by decide +kernel
theorem dX8_qWordHere_147 : decode cX8_qWordHere 147 = .ok (.ireturn, 1) := by decide +kernel
theorem dX8_qWordHere_148 : decode cX8_qWordHere 148 = .ok (.iconst (-1), 1) := by decide +kernel
theorem dX8_qWordHere_149 : decode cX8_qWordHere 149 = .ok (.ireturn, 1) := by decide +kernel
theorem dX8_qWordOf_0 : decode cX8_qWordOf 0 = .ok (.aload_n 0, 1) := by decide +kernel
theorem dX8_qWordOf_1 : decode cX8_qWordOf 1 = .ok (.invokevirtual 640, 3) := by decide +kernel
theorem dX8_qWordOf_4 : decode cX8_qWordOf 4 = .ok (.istore_n 3, 1) := by decide +kernel
theorem dX8_qWordOf_5 : decode cX8_qWordOf 5 = .ok (.iload_n 3, 1) := by decide +kernel
theorem dX8_qWordOf_6 : decode cX8_qWordOf 6 = .ok (.iload_n 1, 1) := by decide +kernel
theorem dX8_qWordOf_7 : decode cX8_qWordOf 7 = .ok (.if_icmp .lt 20, 3) := by decide +kernel
theorem dX8_qWordOf_10 : decode cX8_qWordOf 10 = .ok (.iload_n 3, 1) := by decide +kernel
theorem dX8_qWordOf_11 : decode cX8_qWordOf 11 = .ok (.iload_n 2, 1) := by decide +kernel
theorem dX8_qWordOf_12 : decode cX8_qWordOf 12 = .ok (.if_icmp .ge 15, 3) := by decide +kernel
theorem dX8_qWordOf_15 : decode cX8_qWordOf 15 = .ok (.aload_n 0, 1) := by decide +kernel
theorem dX8_qWordOf_16 : decode cX8_qWordOf 16 = .ok (.iload_n 3, 1) := by decide +kernel
theorem dX8_qWordOf_17 : decode cX8_qWordOf 17 = .ok (.invokevirtual 643, 3) := by decide +kernel
theorem dX8_qWordOf_20 : decode cX8_qWordOf 20 = .ok (.ifCond .eq 7, 3) := by decide +kernel
theorem dX8_qWordOf_23 : decode cX8_qWordOf 23 = .ok (.iload_n 3, 1) := by decide +kernel
theorem dX8_qWordOf_24 : decode cX8_qWordOf 24 = .ok (.goto 4, 3) := by decide +kernel
theorem dX8_qWordOf_27 : decode cX8_qWordOf 27 = .ok (.iconst (-1), 1) := by decide +kernel
theorem dX8_qWordOf_28 : decode cX8_qWordOf 28 = .ok (.ireturn, 1) := by decide +kernel
theorem dX8_qAsksWord_0 : decode cX8_qAsksWord 0 = .ok (.iload_n 1, 1) := by decide +kernel
theorem dX8_qAsksWord_1 : decode cX8_qAsksWord 1 = .ok (.tableswitch 165 0 9 #[55, 66, 77, 88, 99, 110, 121, 132, 143, 154], 55) := by decide +kernel
theorem dX8_qAsksWord_56 : decode cX8_qAsksWord 56 = .ok (.aload_n 0, 1) := by decide +kernel
theorem dX8_qAsksWord_57 : decode cX8_qAsksWord 57 = .ok (.aload_n 0, 1) := by decide +kernel
theorem dX8_qAsksWord_58 : decode cX8_qAsksWord 58 = .ok (.getfield 248, 3) := by decide +kernel
theorem dX8_qAsksWord_61 : decode cX8_qAsksWord 61 = .ok (.invokevirtual 356, 3) := by decide +kernel
theorem dX8_qAsksWord_64 : decode cX8_qAsksWord 64 = .ok (.goto 110, 3) := by decide +kernel
theorem dX8_qAsksWord_67 : decode cX8_qAsksWord 67 = .ok (.aload_n 0, 1) := by decide +kernel
theorem dX8_qAsksWord_68 : decode cX8_qAsksWord 68 = .ok (.aload_n 0, 1) := by decide +kernel
theorem dX8_qAsksWord_69 : decode cX8_qAsksWord 69 = .ok (.getfield 251, 3) := by decide +kernel
theorem dX8_qAsksWord_72 : decode cX8_qAsksWord 72 = .ok (.invokevirtual 356, 3) := by decide +kernel
theorem dX8_qAsksWord_75 : decode cX8_qAsksWord 75 = .ok (.goto 99, 3) := by decide +kernel
theorem dX8_qAsksWord_78 : decode cX8_qAsksWord 78 = .ok (.aload_n 0, 1) := by decide +kernel
theorem dX8_qAsksWord_79 : decode cX8_qAsksWord 79 = .ok (.aload_n 0, 1) := by decide +kernel
theorem dX8_qAsksWord_80 : decode cX8_qAsksWord 80 = .ok (.getfield 254, 3) := by decide +kernel
theorem dX8_qAsksWord_83 : decode cX8_qAsksWord 83 = .ok (.invokevirtual 356, 3) := by decide +kernel
theorem dX8_qAsksWord_86 : decode cX8_qAsksWord 86 = .ok (.goto 88, 3) := by decide +kernel
theorem dX8_qAsksWord_89 : decode cX8_qAsksWord 89 = .ok (.aload_n 0, 1) := by decide +kernel
theorem dX8_qAsksWord_90 : decode cX8_qAsksWord 90 = .ok (.aload_n 0, 1) := by decide +kernel
theorem dX8_qAsksWord_91 : decode cX8_qAsksWord 91 = .ok (.getfield 257, 3) := by decide +kernel
theorem dX8_qAsksWord_94 : decode cX8_qAsksWord 94 = .ok (.invokevirtual 356, 3) := by decide +kernel
theorem dX8_qAsksWord_97 : decode cX8_qAsksWord 97 = .ok (.goto 77, 3) := by decide +kernel
theorem dX8_qAsksWord_100 : decode cX8_qAsksWord 100 = .ok (.aload_n 0, 1) := by decide +kernel
theorem dX8_qAsksWord_101 : decode cX8_qAsksWord 101 = .ok (.aload_n 0, 1) := by decide +kernel
theorem dX8_qAsksWord_102 : decode cX8_qAsksWord 102 = .ok (.getfield 260, 3) := by decide +kernel
theorem dX8_qAsksWord_105 : decode cX8_qAsksWord 105 = .ok (.invokevirtual 356, 3) := by decide +kernel
theorem dX8_qAsksWord_108 : decode cX8_qAsksWord 108 = .ok (.goto 66, 3) := by decide +kernel
theorem dX8_qAsksWord_111 : decode cX8_qAsksWord 111 = .ok (.aload_n 0, 1) := by decide +kernel
theorem dX8_qAsksWord_112 : decode cX8_qAsksWord 112 = .ok (.aload_n 0, 1) := by decide +kernel
theorem dX8_qAsksWord_113 : decode cX8_qAsksWord 113 = .ok (.getfield 227, 3) := by decide +kernel
theorem dX8_qAsksWord_116 : decode cX8_qAsksWord 116 = .ok (.invokevirtual 356, 3) := by decide +kernel
theorem dX8_qAsksWord_119 : decode cX8_qAsksWord 119 = .ok (.goto 55, 3) := by decide +kernel
theorem dX8_qAsksWord_122 : decode cX8_qAsksWord 122 = .ok (.aload_n 0, 1) := by decide +kernel
theorem dX8_qAsksWord_123 : decode cX8_qAsksWord 123 = .ok (.aload_n 0, 1) := by decide +kernel
theorem dX8_qAsksWord_124 : decode cX8_qAsksWord 124 = .ok (.getfield 224, 3) := by decide +kernel
theorem dX8_qAsksWord_127 : decode cX8_qAsksWord 127 = .ok (.invokevirtual 356, 3) := by decide +kernel
theorem dX8_qAsksWord_130 : decode cX8_qAsksWord 130 = .ok (.goto 44, 3) := by decide +kernel
theorem dX8_qAsksWord_133 : decode cX8_qAsksWord 133 = .ok (.aload_n 0, 1) := by decide +kernel
theorem dX8_qAsksWord_134 : decode cX8_qAsksWord 134 = .ok (.aload_n 0, 1) := by decide +kernel
theorem dX8_qAsksWord_135 : decode cX8_qAsksWord 135 = .ok (.getfield 263, 3) := by decide +kernel
theorem dX8_qAsksWord_138 : decode cX8_qAsksWord 138 = .ok (.invokevirtual 356, 3) := by decide +kernel
theorem dX8_qAsksWord_141 : decode cX8_qAsksWord 141 = .ok (.goto 33, 3) := by decide +kernel
theorem dX8_qAsksWord_144 : decode cX8_qAsksWord 144 = .ok (.aload_n 0, 1) := by decide +kernel
theorem dX8_qAsksWord_145 : decode cX8_qAsksWord 145 = .ok (.aload_n 0, 1) := by decide +kernel
theorem dX8_qAsksWord_146 : decode cX8_qAsksWord 146 = .ok (.getfield 266, 3) := by decide +kernel
theorem dX8_qAsksWord_149 : decode cX8_qAsksWord 149 = .ok (.invokevirtual 356, 3) := by decide +kernel
theorem dX8_qAsksWord_152 : decode cX8_qAsksWord 152 = .ok (.goto 22, 3) := by decide +kernel
theorem dX8_qAsksWord_155 : decode cX8_qAsksWord 155 = .ok (.aload_n 0, 1) := by decide +kernel
theorem dX8_qAsksWord_156 : decode cX8_qAsksWord 156 = .ok (.aload_n 0, 1) := by decide +kernel
theorem dX8_qAsksWord_157 : decode cX8_qAsksWord 157 = .ok (.getfield 269, 3) := by decide +kernel
theorem dX8_qAsksWord_160 : decode cX8_qAsksWord 160 = .ok (.invokevirtual 356, 3) := by decide +kernel
theorem dX8_qAsksWord_163 : decode cX8_qAsksWord 163 = .ok (.goto 11, 3) := by decide +kernel
theorem dX8_qAsksWord_166 : decode cX8_qAsksWord 166 = .ok (.aload_n 0, 1) := by decide +kernel
theorem dX8_qAsksWord_167 : decode cX8_qAsksWord 167 = .ok (.aload_n 0, 1) := by decide +kernel
theorem dX8_qAsksWord_168 : decode cX8_qAsksWord 168 = .ok (.getfield 272, 3) := by decide +kernel
theorem dX8_qAsksWord_171 : decode cX8_qAsksWord 171 = .ok (.invokevirtual 356, 3) := by decide +kernel
theorem dX8_qAsksWord_174 : decode cX8_qAsksWord 174 = .ok (.return_, 1) := by decide +kernel
theorem dX8_qEndsPart_0 : decode cX8_qEndsPart 0 = .ok (.aload_n 0, 1) := by decide +kernel
theorem dX8_qEndsPart_1 : decode cX8_qEndsPart 1 = .ok (.getfield 290, 3) := by decide +kernel
theorem dX8_qEndsPart_4 : decode cX8_qEndsPart 4 = .ok (.ifCond .ne 47, 3) := by decide +kernel
theorem dX8_qEndsPart_7 : decode cX8_qEndsPart 7 = .ok (.aload_n 0, 1) := by decide +kernel
theorem dX8_qEndsPart_8 : decode cX8_qEndsPart 8 = .ok (.getfield 386, 3) := by decide +kernel
theorem dX8_qEndsPart_11 : decode cX8_qEndsPart 11 = .ok (.aload_n 0, 1) := by decide +kernel
theorem dX8_qEndsPart_12 : decode cX8_qEndsPart 12 = .ok (.getfield 392, 3) := by decide +kernel
theorem dX8_qEndsPart_15 : decode cX8_qEndsPart 15 = .ok (.if_icmp .le 36, 3) := by decide +kernel
theorem dX8_qEndsPart_18 : decode cX8_qEndsPart 18 = .ok (.aload_n 0, 1) := by decide +kernel
theorem dX8_qEndsPart_19 : decode cX8_qEndsPart 19 = .ok (.getfield 278, 3) := by decide +kernel
theorem dX8_qEndsPart_22 : decode cX8_qEndsPart 22 = .ok (.aload_n 0, 1) := by decide +kernel
theorem dX8_qEndsPart_23 : decode cX8_qEndsPart 23 = .ok (.getfield 386, 3) := by decide +kernel
theorem dX8_qEndsPart_26 : decode cX8_qEndsPart 26 = .ok (.iconst 1, 1) := by decide +kernel
theorem dX8_qEndsPart_27 : decode cX8_qEndsPart 27 = .ok (.isub, 1) := by decide +kernel
theorem dX8_qEndsPart_28 : decode cX8_qEndsPart 28 = .ok (.iaload, 1) := by decide +kernel
theorem dX8_qEndsPart_29 : decode cX8_qEndsPart 29 = .ok (.bipush 60, 2) := by decide +kernel
theorem dX8_qEndsPart_31 : decode cX8_qEndsPart 31 = .ok (.if_icmp .lt 20, 3) := by decide +kernel
theorem dX8_qEndsPart_34 : decode cX8_qEndsPart 34 = .ok (.aload_n 0, 1) := by decide +kernel
theorem dX8_qEndsPart_35 : decode cX8_qEndsPart 35 = .ok (.dup, 1) := by decide +kernel
theorem dX8_qEndsPart_36 : decode cX8_qEndsPart 36 = .ok (.getfield 389, 3) := by decide +kernel
theorem dX8_qEndsPart_39 : decode cX8_qEndsPart 39 = .ok (.iconst 1, 1) := by decide +kernel
theorem dX8_qEndsPart_40 : decode cX8_qEndsPart 40 = .ok (.isub, 1) := by decide +kernel
theorem dX8_qEndsPart_41 : decode cX8_qEndsPart 41 = .ok (.putfield 389, 3) := by decide +kernel
theorem dX8_qEndsPart_44 : decode cX8_qEndsPart 44 = .ok (.aload_n 0, 1) := by decide +kernel
theorem dX8_qEndsPart_45 : decode cX8_qEndsPart 45 = .ok (.invokevirtual 637, 3) := by decide +kernel
theorem dX8_qEndsPart_48 : decode cX8_qEndsPart 48 = .ok (.goto (-48), 3) := by decide +kernel
theorem dX8_qEndsPart_51 : decode cX8_qEndsPart 51 = .ok (.return_, 1) := by decide +kernel
theorem dX8_qPartTold_0 : decode cX8_qPartTold 0 = .ok (.iconst 1, 1) := by decide +kernel
theorem dX8_qPartTold_1 : decode cX8_qPartTold 1 = .ok (.istore_n 1, 1) := by decide +kernel
theorem dX8_qPartTold_2 : decode cX8_qPartTold 2 = .ok (.iload_n 1, 1) := by decide +kernel
theorem dX8_qPartTold_3 : decode cX8_qPartTold 3 = .ok (.ifCond .eq 183, 3) := by decide +kernel
theorem dX8_qPartTold_6 : decode cX8_qPartTold 6 = .ok (.aload_n 0, 1) := by decide +kernel
theorem dX8_qPartTold_7 : decode cX8_qPartTold 7 = .ok (.getfield 290, 3) := by decide +kernel
theorem dX8_qPartTold_10 : decode cX8_qPartTold 10 = .ok (.ifCond .ne 176, 3) := by decide +kernel
theorem dX8_qPartTold_13 : decode cX8_qPartTold 13 = .ok (.aload_n 0, 1) := by decide +kernel
theorem dX8_qPartTold_14 : decode cX8_qPartTold 14 = .ok (.invokevirtual 302, 3) := by decide +kernel
theorem dX8_qPartTold_17 : decode cX8_qPartTold 17 = .ok (.istore_n 2, 1) := by decide +kernel
theorem dX8_qPartTold_18 : decode cX8_qPartTold 18 = .ok (.aload_n 0, 1) := by decide +kernel
theorem dX8_qPartTold_19 : decode cX8_qPartTold 19 = .ok (.bipush 10, 2) := by decide +kernel
theorem dX8_qPartTold_21 : decode cX8_qPartTold 21 = .ok (.bipush 11, 2) := by decide +kernel
theorem dX8_qPartTold_23 : decode cX8_qPartTold 23 = .ok (.invokevirtual 646, 3) := by decide +kernel
theorem dX8_qPartTold_26 : decode cX8_qPartTold 26 = .ok (.istore_n 3, 1) := by decide +kernel
theorem dX8_qPartTold_27 : decode cX8_qPartTold 27 = .ok (.iload_n 2, 1) := by decide +kernel
theorem dX8_qPartTold_28 : decode cX8_qPartTold 28 = .ok (.bipush 40, 2) := by decide +kernel
theorem dX8_qPartTold_30 : decode cX8_qPartTold 30 = .ok (.if_icmp .ne 26, 3) := by decide +kernel
theorem dX8_qPartTold_33 : decode cX8_qPartTold 33 = .ok (.aload_n 0, 1) := by decide +kernel
theorem dX8_qPartTold_34 : decode cX8_qPartTold 34 = .ok (.bipush 20, 2) := by decide +kernel
theorem dX8_qPartTold_36 : decode cX8_qPartTold 36 = .ok (.aload_n 0, 1) := by decide +kernel
theorem dX8_qPartTold_37 : decode cX8_qPartTold 37 = .ok (.getfield 296, 3) := by decide +kernel
theorem dX8_qPartTold_40 : decode cX8_qPartTold 40 = .ok (.invokevirtual 649, 3) := by decide +kernel
theorem dX8_qPartTold_43 : decode cX8_qPartTold 43 = .ok (.aload_n 0, 1) := by decide +kernel
theorem dX8_qPartTold_44 : decode cX8_qPartTold 44 = .ok (.dup, 1) := by decide +kernel
theorem dX8_qPartTold_45 : decode cX8_qPartTold 45 = .ok (.getfield 296, 3) := by decide +kernel
theorem dX8_qPartTold_48 : decode cX8_qPartTold 48 = .ok (.iconst 1, 1) := by decide +kernel
theorem dX8_qPartTold_49 : decode cX8_qPartTold 49 = .ok (.iadd, 1) := by decide +kernel
theorem dX8_qPartTold_50 : decode cX8_qPartTold 50 = .ok (.putfield 296, 3) := by decide +kernel
theorem dX8_qPartTold_53 : decode cX8_qPartTold 53 = .ok (.goto 130, 3) := by decide +kernel
theorem dX8_qPartTold_56 : decode cX8_qPartTold 56 = .ok (.aload_n 0, 1) := by decide +kernel
theorem dX8_qPartTold_57 : decode cX8_qPartTold 57 = .ok (.aload_n 0, 1) := by decide +kernel
theorem dX8_qPartTold_58 : decode cX8_qPartTold 58 = .ok (.getfield 242, 3) := by decide +kernel
theorem dX8_qPartTold_61 : decode cX8_qPartTold 61 = .ok (.invokevirtual 313, 3) := by decide +kernel
theorem dX8_qPartTold_64 : decode cX8_qPartTold 64 = .ok (.ifCond .ne 14, 3) := by decide +kernel
theorem dX8_qPartTold_67 : decode cX8_qPartTold 67 = .ok (.aload_n 0, 1) := by decide +kernel
theorem dX8_qPartTold_68 : decode cX8_qPartTold 68 = .ok (.aload_n 0, 1) := by decide +kernel
theorem dX8_qPartTold_69 : decode cX8_qPartTold 69 = .ok (.getfield 245, 3) := by decide +kernel
theorem dX8_qPartTold_72 : decode cX8_qPartTold 72 = .ok (.invokevirtual 313, 3) := by decide +kernel
theorem dX8_qPartTold_75 : decode cX8_qPartTold 75 = .ok (.ifCond .eq 78, 3) := by decide +kernel
theorem dX8_qPartTold_78 : decode cX8_qPartTold 78 = .ok (.aload_n 0, 1) := by decide +kernel
theorem dX8_qPartTold_79 : decode cX8_qPartTold 79 = .ok (.aload_n 0, 1) := by decide +kernel
theorem dX8_qPartTold_80 : decode cX8_qPartTold 80 = .ok (.getfield 242, 3) := by decide +kernel
theorem dX8_qPartTold_83 : decode cX8_qPartTold 83 = .ok (.invokevirtual 317, 3) := by decide +kernel
theorem dX8_qPartTold_86 : decode cX8_qPartTold 86 = .ok (.istore 4, 2) := by decide +kernel
theorem dX8_qPartTold_88 : decode cX8_qPartTold 88 = .ok (.iload 4, 2) := by decide +kernel
theorem dX8_qPartTold_90 : decode cX8_qPartTold 90 = .ok (.ifCond .ne 11, 3) := by decide +kernel
theorem dX8_qPartTold_93 : decode cX8_qPartTold 93 = .ok (.aload_n 0, 1) := by decide +kernel
theorem dX8_qPartTold_94 : decode cX8_qPartTold 94 = .ok (.aload_n 0, 1) := by decide +kernel
theorem dX8_qPartTold_95 : decode cX8_qPartTold 95 = .ok (.getfield 245, 3) := by decide +kernel
theorem dX8_qPartTold_98 : decode cX8_qPartTold 98 = .ok (.invokevirtual 356, 3) := by decide +kernel
theorem dX8_qPartTold_101 : decode cX8_qPartTold 101 = .ok (.aload_n 0, 1) := by decide +kernel
theorem dX8_qPartTold_102 : decode cX8_qPartTold 102 = .ok (.invokevirtual 302, 3) := by decide +kernel
theorem dX8_qPartTold_105 : decode cX8_qPartTold 105 = .ok (.bipush 40, 2) := by decide +kernel
theorem dX8_qPartTold_107 : decode cX8_qPartTold 107 = .ok (.if_icmp .ne 10, 3) := by decide +kernel
theorem dX8_qPartTold_110 : decode cX8_qPartTold 110 = .ok (.aload_n 0, 1) := by decide +kernel
theorem dX8_qPartTold_111 : decode cX8_qPartTold 111 = .ok (.getfield 296, 3) := by decide +kernel
theorem dX8_qPartTold_114 : decode cX8_qPartTold 114 = .ok (.goto 4, 3) := by decide +kernel
theorem dX8_qPartTold_117 : decode cX8_qPartTold 117 = .ok (.iconst (-1), 1) := by decide +kernel
theorem dX8_qPartTold_118 : decode cX8_qPartTold 118 = .ok (.istore 5, 2) := by decide +kernel
theorem dX8_qPartTold_120 : decode cX8_qPartTold 120 = .ok (.iload 5, 2) := by decide +kernel
theorem dX8_qPartTold_122 : decode cX8_qPartTold 122 = .ok (.iconst (-1), 1) := by decide +kernel
theorem dX8_qPartTold_123 : decode cX8_qPartTold 123 = .ok (.if_icmp .eq 21, 3) := by decide +kernel
theorem dX8_qPartTold_126 : decode cX8_qPartTold 126 = .ok (.aload_n 0, 1) := by decide +kernel
theorem dX8_qPartTold_127 : decode cX8_qPartTold 127 = .ok (.iload 4, 2) := by decide +kernel
theorem dX8_qPartTold_129 : decode cX8_qPartTold 129 = .ok (.ifCond .eq 8, 3) := by decide +kernel
theorem dX8_qPartTold_132 : decode cX8_qPartTold 132 = .ok (.bipush 21, 2) := by decide +kernel
theorem dX8_qPartTold_134 : decode cX8_qPartTold 134 = .ok (.goto 5, 3) := by decide +kernel
theorem dX8_qPartTold_137 : decode cX8_qPartTold 137 = .ok (.bipush 22, 2) := by decide +kernel
theorem dX8_qPartTold_139 : decode cX8_qPartTold 139 = .ok (.iload 5, 2) := by decide +kernel
theorem dX8_qPartTold_141 : decode cX8_qPartTold 141 = .ok (.invokevirtual 649, 3) := by decide +kernel
theorem dX8_qPartTold_144 : decode cX8_qPartTold 144 = .ok (.aload_n 0, 1) := by decide +kernel
theorem dX8_qPartTold_145 : decode cX8_qPartTold 145 = .ok (.bipush 40, 2) := by decide +kernel
theorem dX8_qPartTold_147 : decode cX8_qPartTold 147 = .ok (.invokevirtual 373, 3) := by decide +kernel
theorem dX8_qPartTold_150 : decode cX8_qPartTold 150 = .ok (.goto 33, 3) := by decide +kernel
theorem dX8_qPartTold_153 : decode cX8_qPartTold 153 = .ok (.iload_n 3, 1) := by decide +kernel
theorem dX8_qPartTold_154 : decode cX8_qPartTold 154 = .ok (.iconst (-1), 1) := by decide +kernel
theorem dX8_qPartTold_155 : decode cX8_qPartTold 155 = .ok (.if_icmp .eq 26, 3) := by decide +kernel
theorem dX8_qPartTold_158 : decode cX8_qPartTold 158 = .ok (.aload_n 0, 1) := by decide +kernel
theorem dX8_qPartTold_159 : decode cX8_qPartTold 159 = .ok (.bipush 60, 2) := by decide +kernel
theorem dX8_qPartTold_161 : decode cX8_qPartTold 161 = .ok (.iload_n 3, 1) := by decide +kernel
theorem dX8_qPartTold_162 : decode cX8_qPartTold 162 = .ok (.iadd, 1) := by decide +kernel
theorem dX8_qPartTold_163 : decode cX8_qPartTold 163 = .ok (.bipush 10, 2) := by decide +kernel
theorem dX8_qPartTold_165 : decode cX8_qPartTold 165 = .ok (.isub, 1) := by decide +kernel
theorem dX8_qPartTold_166 : decode cX8_qPartTold 166 = .ok (.aload_n 0, 1) := by decide +kernel
theorem dX8_qPartTold_167 : decode cX8_qPartTold 167 = .ok (.getfield 296, 3) := by decide +kernel
theorem dX8_qPartTold_170 : decode cX8_qPartTold 170 = .ok (.invokevirtual 649, 3) := by decide +kernel
theorem dX8_qPartTold_173 : decode cX8_qPartTold 173 = .ok (.aload_n 0, 1) := by decide +kernel
theorem dX8_qPartTold_174 : decode cX8_qPartTold 174 = .ok (.iload_n 3, 1) := by decide +kernel
theorem dX8_qPartTold_175 : decode cX8_qPartTold 175 = .ok (.invokevirtual 652, 3) := by decide +kernel
theorem dX8_qPartTold_178 : decode cX8_qPartTold 178 = .ok (.goto 5, 3) := by decide +kernel
theorem dX8_qPartTold_181 : decode cX8_qPartTold 181 = .ok (.iconst 0, 1) := by decide +kernel
theorem dX8_qPartTold_182 : decode cX8_qPartTold 182 = .ok (.istore_n 1, 1) := by decide +kernel
theorem dX8_qPartTold_183 : decode cX8_qPartTold 183 = .ok (.goto (-181), 3) := by decide +kernel
theorem dX8_qPartTold_186 : decode cX8_qPartTold 186 = .ok (.aload_n 0, 1) := by decide +kernel
theorem dX8_qPartTold_187 : decode cX8_qPartTold 187 = .ok (.getfield 290, 3) := by decide +kernel
theorem dX8_qPartTold_190 : decode cX8_qPartTold 190 = .ok (.ifCond .eq 4, 3) := by decide +kernel
theorem dX8_qPartTold_193 : decode cX8_qPartTold 193 = .ok (.return_, 1) := by decide +kernel
theorem dX8_qPartTold_194 : decode cX8_qPartTold 194 = .ok (.aload_n 0, 1) := by decide +kernel
theorem dX8_qPartTold_195 : decode cX8_qPartTold 195 = .ok (.iconst 0, 1) := by decide +kernel
theorem dX8_qPartTold_196 : decode cX8_qPartTold 196 = .ok (.bipush 10, 2) := by decide +kernel
theorem dX8_qPartTold_198 : decode cX8_qPartTold 198 = .ok (.invokevirtual 646, 3) := by decide +kernel
theorem dX8_qPartTold_201 : decode cX8_qPartTold 201 = .ok (.istore_n 2, 1) := by decide +kernel
theorem dX8_qPartTold_202 : decode cX8_qPartTold 202 = .ok (.iload_n 2, 1) := by decide +kernel
theorem dX8_qPartTold_203 : decode cX8_qPartTold 203 = .ok (.iconst (-1), 1) := by decide +kernel
theorem dX8_qPartTold_204 : decode cX8_qPartTold 204 = .ok (.if_icmp .eq 8, 3) := by decide +kernel
theorem dX8_qPartTold_207 : decode cX8_qPartTold 207 = .ok (.aload_n 0, 1) := by decide +kernel
theorem dX8_qPartTold_208 : decode cX8_qPartTold 208 = .ok (.iload_n 2, 1) := by decide +kernel
theorem dX8_qPartTold_209 : decode cX8_qPartTold 209 = .ok (.invokevirtual 652, 3) := by decide +kernel
theorem dX8_qPartTold_212 : decode cX8_qPartTold 212 = .ok (.aload_n 0, 1) := by decide +kernel
theorem dX8_qPartTold_213 : decode cX8_qPartTold 213 = .ok (.iload_n 2, 1) := by decide +kernel
theorem dX8_qPartTold_214 : decode cX8_qPartTold 214 = .ok (.iconst (-1), 1) := by decide +kernel
theorem dX8_qPartTold_215 : decode cX8_qPartTold 215 = .ok (.if_icmp .eq 10, 3) := by decide +kernel
theorem dX8_qPartTold_218 : decode cX8_qPartTold 218 = .ok (.bipush 40, 2) := by decide +kernel
theorem dX8_qPartTold_220 : decode cX8_qPartTold 220 = .ok (.iload_n 2, 1) := by decide +kernel
theorem dX8_qPartTold_221 : decode cX8_qPartTold 221 = .ok (.iadd, 1) := by decide +kernel
theorem dX8_qPartTold_222 : decode cX8_qPartTold 222 = .ok (.goto 15, 3) := by decide +kernel
theorem dX8_qPartTold_225 : decode cX8_qPartTold 225 = .ok (.sipush 1000, 3) := by decide +kernel
theorem dX8_qPartTold_228 : decode cX8_qPartTold 228 = .ok (.aload_n 0, 1) := by decide +kernel
theorem dX8_qPartTold_229 : decode cX8_qPartTold 229 = .ok (.iconst 0, 1) := by decide +kernel
theorem dX8_qPartTold_230 : decode cX8_qPartTold 230 = .ok (.sipush 9999, 3) := by decide +kernel
theorem dX8_qPartTold_233 : decode cX8_qPartTold 233 = .ok (.invokevirtual 360, 3) := by decide +kernel
theorem dX8_qPartTold_236 : decode cX8_qPartTold 236 = .ok (.iadd, 1) := by decide +kernel
theorem dX8_qPartTold_237 : decode cX8_qPartTold 237 = .ok (.invokevirtual 631, 3) := by decide +kernel
theorem dX8_qPartTold_240 : decode cX8_qPartTold 240 = .ok (.aload_n 0, 1) := by decide +kernel
theorem dX8_qPartTold_241 : decode cX8_qPartTold 241 = .ok (.invokevirtual 655, 3) := by decide +kernel
theorem dX8_qPartTold_244 : decode cX8_qPartTold 244 = .ok (.return_, 1) := by decide +kernel
theorem dX8_qGoesOn_0 : decode cX8_qGoesOn 0 = .ok (.aload_n 0, 1) := by decide +kernel
theorem dX8_qGoesOn_1 : decode cX8_qGoesOn 1 = .ok (.getfield 290, 3) := by decide +kernel
theorem dX8_qGoesOn_4 : decode cX8_qGoesOn 4 = .ok (.ifCond .ne 118, 3) := by decide +kernel
theorem dX8_qGoesOn_7 : decode cX8_qGoesOn 7 = .ok (.aload_n 0, 1) := by decide +kernel
theorem dX8_qGoesOn_8 : decode cX8_qGoesOn 8 = .ok (.invokevirtual 302, 3) := by decide +kernel
theorem dX8_qGoesOn_11 : decode cX8_qGoesOn 11 = .ok (.bipush 41, 2) := by decide +kernel
theorem dX8_qGoesOn_13 : decode cX8_qGoesOn 13 = .ok (.if_icmp .ne 109, 3) := by decide +kernel
theorem dX8_qGoesOn_16 : decode cX8_qGoesOn 16 = .ok (.aload_n 0, 1) := by decide +kernel
theorem dX8_qGoesOn_17 : decode cX8_qGoesOn 17 = .ok (.invokevirtual 658, 3) := by decide +kernel
theorem dX8_qGoesOn_20 : decode cX8_qGoesOn 20 = .ok (.bipush 20, 2) := by decide +kernel
theorem dX8_qGoesOn_22 : decode cX8_qGoesOn 22 = .ok (.if_icmp .eq 21, 3) := by decide +kernel
theorem dX8_qGoesOn_25 : decode cX8_qGoesOn 25 = .ok (.aload_n 0, 1) := by decide +kernel
theorem dX8_qGoesOn_26 : decode cX8_qGoesOn 26 = .ok (.invokevirtual 658, 3) := by decide +kernel
theorem dX8_qGoesOn_29 : decode cX8_qGoesOn 29 = .ok (.bipush 23, 2) := by decide +kernel
theorem dX8_qGoesOn_31 : decode cX8_qGoesOn 31 = .ok (.if_icmp .eq 12, 3) := by decide +kernel
theorem dX8_qGoesOn_34 : decode cX8_qGoesOn 34 = .ok (.aload_n 0, 1) := by decide +kernel
theorem dX8_qGoesOn_35 : decode cX8_qGoesOn 35 = .ok (.invokevirtual 658, 3) := by decide +kernel
theorem dX8_qGoesOn_38 : decode cX8_qGoesOn 38 = .ok (.bipush 24, 2) := by decide +kernel
theorem dX8_qGoesOn_40 : decode cX8_qGoesOn 40 = .ok (.if_icmp .ne 82, 3) := by decide +kernel
theorem dX8_qGoesOn_43 : decode cX8_qGoesOn 43 = .ok (.aload_n 0, 1) := by decide +kernel
theorem dX8_qGoesOn_44 : decode cX8_qGoesOn 44 = .ok (.dup, 1) := by decide +kernel
theorem dX8_qGoesOn_45 : decode cX8_qGoesOn 45 = .ok (.getfield 296, 3) := by decide +kernel
theorem dX8_qGoesOn_48 : decode cX8_qGoesOn 48 = .ok (.iconst 1, 1) := by decide +kernel
theorem dX8_qGoesOn_49 : decode cX8_qGoesOn 49 = .ok (.iadd, 1) := by decide +kernel
theorem dX8_qGoesOn_50 : decode cX8_qGoesOn 50 = .ok (.putfield 296, 3) := by decide +kernel
theorem dX8_qGoesOn_53 : decode cX8_qGoesOn 53 = .ok (.aload_n 0, 1) := by decide +kernel
theorem dX8_qGoesOn_54 : decode cX8_qGoesOn 54 = .ok (.invokevirtual 661, 3) := by decide +kernel
theorem dX8_qGoesOn_57 : decode cX8_qGoesOn 57 = .ok (.aload_n 0, 1) := by decide +kernel
theorem dX8_qGoesOn_58 : decode cX8_qGoesOn 58 = .ok (.dup, 1) := by decide +kernel
theorem dX8_qGoesOn_59 : decode cX8_qGoesOn 59 = .ok (.getfield 386, 3) := by decide +kernel
theorem dX8_qGoesOn_62 : decode cX8_qGoesOn 62 = .ok (.iconst 1, 1) := by decide +kernel
theorem dX8_qGoesOn_63 : decode cX8_qGoesOn 63 = .ok (.isub, 1) := by decide +kernel
theorem dX8_qGoesOn_64 : decode cX8_qGoesOn 64 = .ok (.putfield 386, 3) := by decide +kernel
theorem dX8_qGoesOn_67 : decode cX8_qGoesOn 67 = .ok (.aload_n 0, 1) := by decide +kernel
theorem dX8_qGoesOn_68 : decode cX8_qGoesOn 68 = .ok (.dup, 1) := by decide +kernel
theorem dX8_qGoesOn_69 : decode cX8_qGoesOn 69 = .ok (.getfield 389, 3) := by decide +kernel
theorem dX8_qGoesOn_72 : decode cX8_qGoesOn 72 = .ok (.iconst 1, 1) := by decide +kernel
theorem dX8_qGoesOn_73 : decode cX8_qGoesOn 73 = .ok (.isub, 1) := by decide +kernel
theorem dX8_qGoesOn_74 : decode cX8_qGoesOn 74 = .ok (.putfield 389, 3) := by decide +kernel
theorem dX8_qGoesOn_77 : decode cX8_qGoesOn 77 = .ok (.aload_n 0, 1) := by decide +kernel
theorem dX8_qGoesOn_78 : decode cX8_qGoesOn 78 = .ok (.getfield 278, 3) := by decide +kernel
theorem dX8_qGoesOn_81 : decode cX8_qGoesOn 81 = .ok (.aload_n 0, 1) := by decide +kernel
theorem dX8_qGoesOn_82 : decode cX8_qGoesOn 82 = .ok (.getfield 386, 3) := by decide +kernel
theorem dX8_qGoesOn_85 : decode cX8_qGoesOn 85 = .ok (.iaload, 1) := by decide +kernel
theorem dX8_qGoesOn_86 : decode cX8_qGoesOn 86 = .ok (.bipush 20, 2) := by decide +kernel
theorem dX8_qGoesOn_88 : decode cX8_qGoesOn 88 = .ok (.if_icmp .eq 27, 3) := by decide +kernel
theorem dX8_qGoesOn_91 : decode cX8_qGoesOn 91 = .ok (.aload_n 0, 1) := by decide +kernel
theorem dX8_qGoesOn_92 : decode cX8_qGoesOn 92 = .ok (.aload_n 0, 1) := by decide +kernel
theorem dX8_qGoesOn_93 : decode cX8_qGoesOn 93 = .ok (.getfield 278, 3) := by decide +kernel
theorem dX8_qGoesOn_96 : decode cX8_qGoesOn 96 = .ok (.aload_n 0, 1) := by decide +kernel
theorem dX8_qGoesOn_97 : decode cX8_qGoesOn 97 = .ok (.getfield 386, 3) := by decide +kernel
theorem dX8_qGoesOn_100 : decode cX8_qGoesOn 100 = .ok (.iaload, 1) := by decide +kernel
theorem dX8_qGoesOn_101 : decode cX8_qGoesOn 101 = .ok (.bipush 23, 2) := by decide +kernel
theorem dX8_qGoesOn_103 : decode cX8_qGoesOn 103 = .ok (.if_icmp .ne 7, 3) := by decide +kernel
theorem dX8_qGoesOn_106 : decode cX8_qGoesOn 106 = .ok (.iconst 5, 1) := by decide +kernel
theorem dX8_qGoesOn_107 : decode cX8_qGoesOn 107 = .ok (.goto 5, 3) := by decide +kernel
theorem dX8_qGoesOn_110 : decode cX8_qGoesOn 110 = .ok (.bipush 6, 2) := by decide +kernel
theorem dX8_qGoesOn_112 : decode cX8_qGoesOn 112 = .ok (.invokevirtual 631, 3) := by decide +kernel
theorem dX8_qGoesOn_115 : decode cX8_qGoesOn 115 = .ok (.aload_n 0, 1) := by decide +kernel
theorem dX8_qGoesOn_116 : decode cX8_qGoesOn 116 = .ok (.invokevirtual 655, 3) := by decide +kernel
theorem dX8_qGoesOn_119 : decode cX8_qGoesOn 119 = .ok (.goto (-119), 3) := by decide +kernel
theorem dX8_qGoesOn_122 : decode cX8_qGoesOn 122 = .ok (.aload_n 0, 1) := by decide +kernel
theorem dX8_qGoesOn_123 : decode cX8_qGoesOn 123 = .ok (.bipush 42, 2) := by decide +kernel
theorem dX8_qGoesOn_125 : decode cX8_qGoesOn 125 = .ok (.invokevirtual 324, 3) := by decide +kernel
theorem dX8_qGoesOn_128 : decode cX8_qGoesOn 128 = .ok (.ifCond .ne 12, 3) := by decide +kernel
theorem dX8_qGoesOn_131 : decode cX8_qGoesOn 131 = .ok (.aload_n 0, 1) := by decide +kernel
theorem dX8_qGoesOn_132 : decode cX8_qGoesOn 132 = .ok (.bipush 47, 2) := by decide +kernel
theorem dX8_qGoesOn_134 : decode cX8_qGoesOn 134 = .ok (.invokevirtual 324, 3) := by decide +kernel
theorem dX8_qGoesOn_137 : decode cX8_qGoesOn 137 = .ok (.ifCond .eq 70, 3) := by decide +kernel
theorem dX8_qGoesOn_140 : decode cX8_qGoesOn 140 = .ok (.aload_n 0, 1) := by decide +kernel
theorem dX8_qGoesOn_141 : decode cX8_qGoesOn 141 = .ok (.getfield 7, 3) := by decide +kernel
theorem dX8_qGoesOn_144 : decode cX8_qGoesOn 144 = .ok (.aload_n 0, 1) := by decide +kernel
theorem dX8_qGoesOn_145 : decode cX8_qGoesOn 145 = .ok (.getfield 296, 3) := by decide +kernel
theorem dX8_qGoesOn_148 : decode cX8_qGoesOn 148 = .ok (.iconst 1, 1) := by decide +kernel
theorem dX8_qGoesOn_149 : decode cX8_qGoesOn 149 = .ok (.isub, 1) := by decide +kernel
theorem dX8_qGoesOn_150 : decode cX8_qGoesOn 150 = .ok (.iaload, 1) := by decide +kernel
theorem dX8_qGoesOn_151 : decode cX8_qGoesOn 151 = .ok (.bipush 42, 2) := by decide +kernel
theorem dX8_qGoesOn_153 : decode cX8_qGoesOn 153 = .ok (.if_icmp .ne 7, 3) := by decide +kernel
theorem dX8_qGoesOn_156 : decode cX8_qGoesOn 156 = .ok (.iconst 3, 1) := by decide +kernel
theorem dX8_qGoesOn_157 : decode cX8_qGoesOn 157 = .ok (.goto 4, 3) := by decide +kernel
theorem dX8_qGoesOn_160 : decode cX8_qGoesOn 160 = .ok (.iconst 4, 1) := by decide +kernel
theorem dX8_qGoesOn_161 : decode cX8_qGoesOn 161 = .ok (.istore_n 1, 1) := by decide +kernel
theorem dX8_qGoesOn_162 : decode cX8_qGoesOn 162 = .ok (.aload_n 0, 1) := by decide +kernel
theorem dX8_qGoesOn_163 : decode cX8_qGoesOn 163 = .ok (.iconst 3, 1) := by decide +kernel
theorem dX8_qGoesOn_164 : decode cX8_qGoesOn 164 = .ok (.invokevirtual 664, 3) := by decide +kernel
theorem dX8_qGoesOn_167 : decode cX8_qGoesOn 167 = .ok (.ifCond .ne 11, 3) := by decide +kernel
theorem dX8_qGoesOn_170 : decode cX8_qGoesOn 170 = .ok (.aload_n 0, 1) := by decide +kernel
theorem dX8_qGoesOn_171 : decode cX8_qGoesOn 171 = .ok (.iconst 4, 1) := by decide +kernel
theorem dX8_qGoesOn_172 : decode cX8_qGoesOn 172 = .ok (.invokevirtual 664, 3) := by decide +kernel
theorem dX8_qGoesOn_175 : decode cX8_qGoesOn 175 = .ok (.ifCond .eq 10, 3) := by decide +kernel
theorem dX8_qGoesOn_178 : decode cX8_qGoesOn 178 = .ok (.aload_n 0, 1) := by decide +kernel
theorem dX8_qGoesOn_179 : decode cX8_qGoesOn 179 = .ok (.invokevirtual 637, 3) := by decide +kernel
theorem dX8_qGoesOn_182 : decode cX8_qGoesOn 182 = .ok (.goto (-20), 3) := by decide +kernel
theorem dX8_qGoesOn_185 : decode cX8_qGoesOn 185 = .ok (.aload_n 0, 1) := by decide +kernel
theorem dX8_qGoesOn_186 : decode cX8_qGoesOn 186 = .ok (.getfield 278, 3) := by decide +kernel
theorem dX8_qGoesOn_189 : decode cX8_qGoesOn 189 = .ok (.aload_n 0, 1) := by decide +kernel
theorem dX8_qGoesOn_190 : decode cX8_qGoesOn 190 = .ok (.getfield 386, 3) := by decide +kernel
theorem dX8_qGoesOn_193 : decode cX8_qGoesOn 193 = .ok (.iload_n 1, 1) := by decide +kernel
theorem dX8_qGoesOn_194 : decode cX8_qGoesOn 194 = .ok (.iastore, 1) := by decide +kernel
theorem dX8_qGoesOn_195 : decode cX8_qGoesOn 195 = .ok (.aload_n 0, 1) := by decide +kernel
theorem dX8_qGoesOn_196 : decode cX8_qGoesOn 196 = .ok (.dup, 1) := by decide +kernel
theorem dX8_qGoesOn_197 : decode cX8_qGoesOn 197 = .ok (.getfield 386, 3) := by decide +kernel
theorem dX8_qGoesOn_200 : decode cX8_qGoesOn 200 = .ok (.iconst 1, 1) := by decide +kernel
theorem dX8_qGoesOn_201 : decode cX8_qGoesOn 201 = .ok (.iadd, 1) := by decide +kernel
theorem dX8_qGoesOn_202 : decode cX8_qGoesOn 202 = .ok (.putfield 386, 3) := by decide +kernel
theorem dX8_qGoesOn_205 : decode cX8_qGoesOn 205 = .ok (.iconst 1, 1) := by decide +kernel
theorem dX8_qGoesOn_206 : decode cX8_qGoesOn 206 = .ok (.ireturn, 1) := by decide +kernel
theorem dX8_qGoesOn_207 : decode cX8_qGoesOn 207 = .ok (.aload_n 0, 1) := by decide +kernel
theorem dX8_qGoesOn_208 : decode cX8_qGoesOn 208 = .ok (.bipush 43, 2) := by decide +kernel
theorem dX8_qGoesOn_210 : decode cX8_qGoesOn 210 = .ok (.invokevirtual 324, 3) := by decide +kernel
theorem dX8_qGoesOn_213 : decode cX8_qGoesOn 213 = .ok (.ifCond .ne 12, 3) := by decide +kernel
theorem dX8_qGoesOn_216 : decode cX8_qGoesOn 216 = .ok (.aload_n 0, 1) := by decide +kernel
theorem dX8_qGoesOn_217 : decode cX8_qGoesOn 217 = .ok (.bipush 45, 2) := by decide +kernel
theorem dX8_qGoesOn_219 : decode cX8_qGoesOn 219 = .ok (.invokevirtual 324, 3) := by decide +kernel
theorem dX8_qGoesOn_222 : decode cX8_qGoesOn 222 = .ok (.ifCond .eq 86, 3) := by decide +kernel
theorem dX8_qGoesOn_225 : decode cX8_qGoesOn 225 = .ok (.aload_n 0, 1) := by decide +kernel
theorem dX8_qGoesOn_226 : decode cX8_qGoesOn 226 = .ok (.getfield 7, 3) := by decide +kernel
theorem dX8_qGoesOn_229 : decode cX8_qGoesOn 229 = .ok (.aload_n 0, 1) := by decide +kernel
theorem dX8_qGoesOn_230 : decode cX8_qGoesOn 230 = .ok (.getfield 296, 3) := by decide +kernel
theorem dX8_qGoesOn_233 : decode cX8_qGoesOn 233 = .ok (.iconst 1, 1) := by decide +kernel
theorem dX8_qGoesOn_234 : decode cX8_qGoesOn 234 = .ok (.isub, 1) := by decide +kernel
theorem dX8_qGoesOn_235 : decode cX8_qGoesOn 235 = .ok (.iaload, 1) := by decide +kernel
theorem dX8_qGoesOn_236 : decode cX8_qGoesOn 236 = .ok (.bipush 43, 2) := by decide +kernel
theorem dX8_qGoesOn_238 : decode cX8_qGoesOn 238 = .ok (.if_icmp .ne 7, 3) := by decide +kernel
theorem dX8_qGoesOn_241 : decode cX8_qGoesOn 241 = .ok (.iconst 1, 1) := by decide +kernel
theorem dX8_qGoesOn_242 : decode cX8_qGoesOn 242 = .ok (.goto 4, 3) := by decide +kernel
theorem dX8_qGoesOn_245 : decode cX8_qGoesOn 245 = .ok (.iconst 2, 1) := by decide +kernel
theorem dX8_qGoesOn_246 : decode cX8_qGoesOn 246 = .ok (.istore_n 1, 1) := by decide +kernel
theorem dX8_qGoesOn_247 : decode cX8_qGoesOn 247 = .ok (.aload_n 0, 1) := by decide +kernel
theorem dX8_qGoesOn_248 : decode cX8_qGoesOn 248 = .ok (.iconst 3, 1) := by decide +kernel
theorem dX8_qGoesOn_249 : decode cX8_qGoesOn 249 = .ok (.invokevirtual 664, 3) := by decide +kernel
theorem dX8_qGoesOn_252 : decode cX8_qGoesOn 252 = .ok (.ifCond .ne 27, 3) := by decide +kernel
theorem dX8_qGoesOn_255 : decode cX8_qGoesOn 255 = .ok (.aload_n 0, 1) := by decide +kernel
theorem dX8_qGoesOn_256 : decode cX8_qGoesOn 256 = .ok (.iconst 4, 1) := by decide +kernel
theorem dX8_qGoesOn_257 : decode cX8_qGoesOn 257 = .ok (.invokevirtual 664, 3) := by decide +kernel
theorem dX8_qGoesOn_260 : decode cX8_qGoesOn 260 = .ok (.ifCond .ne 19, 3) := by decide +kernel
theorem dX8_qGoesOn_263 : decode cX8_qGoesOn 263 = .ok (.aload_n 0, 1) := by decide +kernel
theorem dX8_qGoesOn_264 : decode cX8_qGoesOn 264 = .ok (.iconst 1, 1) := by decide +kernel
theorem dX8_qGoesOn_265 : decode cX8_qGoesOn 265 = .ok (.invokevirtual 664, 3) := by decide +kernel
theorem dX8_qGoesOn_268 : decode cX8_qGoesOn 268 = .ok (.ifCond .ne 11, 3) := by decide +kernel
theorem dX8_qGoesOn_271 : decode cX8_qGoesOn 271 = .ok (.aload_n 0, 1) := by decide +kernel
theorem dX8_qGoesOn_272 : decode cX8_qGoesOn 272 = .ok (.iconst 2, 1) := by decide +kernel
theorem dX8_qGoesOn_273 : decode cX8_qGoesOn 273 = .ok (.invokevirtual 664, 3) := by decide +kernel
theorem dX8_qGoesOn_276 : decode cX8_qGoesOn 276 = .ok (.ifCond .eq 10, 3) := by decide +kernel
theorem dX8_qGoesOn_279 : decode cX8_qGoesOn 279 = .ok (.aload_n 0, 1) := by decide +kernel
theorem dX8_qGoesOn_280 : decode cX8_qGoesOn 280 = .ok (.invokevirtual 637, 3) := by decide +kernel
theorem dX8_qGoesOn_283 : decode cX8_qGoesOn 283 = .ok (.goto (-36), 3) := by decide +kernel
theorem dX8_qGoesOn_286 : decode cX8_qGoesOn 286 = .ok (.aload_n 0, 1) := by decide +kernel
theorem dX8_qGoesOn_287 : decode cX8_qGoesOn 287 = .ok (.getfield 278, 3) := by decide +kernel
theorem dX8_qGoesOn_290 : decode cX8_qGoesOn 290 = .ok (.aload_n 0, 1) := by decide +kernel
theorem dX8_qGoesOn_291 : decode cX8_qGoesOn 291 = .ok (.getfield 386, 3) := by decide +kernel
theorem dX8_qGoesOn_294 : decode cX8_qGoesOn 294 = .ok (.iload_n 1, 1) := by decide +kernel
theorem dX8_qGoesOn_295 : decode cX8_qGoesOn 295 = .ok (.iastore, 1) := by decide +kernel
theorem dX8_qGoesOn_296 : decode cX8_qGoesOn 296 = .ok (.aload_n 0, 1) := by decide +kernel
theorem dX8_qGoesOn_297 : decode cX8_qGoesOn 297 = .ok (.dup, 1) := by decide +kernel
theorem dX8_qGoesOn_298 : decode cX8_qGoesOn 298 = .ok (.getfield 386, 3) := by decide +kernel
theorem dX8_qGoesOn_301 : decode cX8_qGoesOn 301 = .ok (.iconst 1, 1) := by decide +kernel
theorem dX8_qGoesOn_302 : decode cX8_qGoesOn 302 = .ok (.iadd, 1) := by decide +kernel
theorem dX8_qGoesOn_303 : decode cX8_qGoesOn 303 = .ok (.putfield 386, 3) := by decide +kernel
theorem dX8_qGoesOn_306 : decode cX8_qGoesOn 306 = .ok (.iconst 1, 1) := by decide +kernel
theorem dX8_qGoesOn_307 : decode cX8_qGoesOn 307 = .ok (.ireturn, 1) := by decide +kernel
theorem dX8_qGoesOn_308 : decode cX8_qGoesOn 308 = .ok (.aload_n 0, 1) := by decide +kernel
theorem dX8_qGoesOn_309 : decode cX8_qGoesOn 309 = .ok (.invokevirtual 658, 3) := by decide +kernel
theorem dX8_qGoesOn_312 : decode cX8_qGoesOn 312 = .ok (.bipush 21, 2) := by decide +kernel
theorem dX8_qGoesOn_314 : decode cX8_qGoesOn 314 = .ok (.if_icmp .eq 12, 3) := by decide +kernel
theorem dX8_qGoesOn_317 : decode cX8_qGoesOn 317 = .ok (.aload_n 0, 1) := by decide +kernel
theorem dX8_qGoesOn_318 : decode cX8_qGoesOn 318 = .ok (.invokevirtual 658, 3) := by decide +kernel
theorem dX8_qGoesOn_321 : decode cX8_qGoesOn 321 = .ok (.bipush 22, 2) := by decide +kernel
theorem dX8_qGoesOn_323 : decode cX8_qGoesOn 323 = .ok (.if_icmp .ne 39, 3) := by decide +kernel
theorem dX8_qGoesOn_326 : decode cX8_qGoesOn 326 = .ok (.aload_n 0, 1) := by decide +kernel
theorem dX8_qGoesOn_327 : decode cX8_qGoesOn 327 = .ok (.bipush 44, 2) := by decide +kernel
theorem dX8_qGoesOn_329 : decode cX8_qGoesOn 329 = .ok (.invokevirtual 373, 3) := by decide +kernel
theorem dX8_qGoesOn_332 : decode cX8_qGoesOn 332 = .ok (.aload_n 0, 1) := by decide +kernel
theorem dX8_qGoesOn_333 : decode cX8_qGoesOn 333 = .ok (.getfield 290, 3) := by decide +kernel
theorem dX8_qGoesOn_336 : decode cX8_qGoesOn 336 = .ok (.ifCond .eq 5, 3) := by decide +kernel
theorem dX8_qGoesOn_339 : decode cX8_qGoesOn 339 = .ok (.iconst 0, 1) := by decide +kernel
theorem dX8_qGoesOn_340 : decode cX8_qGoesOn 340 = .ok (.ireturn, 1) := by decide +kernel
theorem dX8_qGoesOn_341 : decode cX8_qGoesOn 341 = .ok (.aload_n 0, 1) := by decide +kernel
theorem dX8_qGoesOn_342 : decode cX8_qGoesOn 342 = .ok (.invokevirtual 661, 3) := by decide +kernel
theorem dX8_qGoesOn_345 : decode cX8_qGoesOn 345 = .ok (.aload_n 0, 1) := by decide +kernel
theorem dX8_qGoesOn_346 : decode cX8_qGoesOn 346 = .ok (.getfield 278, 3) := by decide +kernel
theorem dX8_qGoesOn_349 : decode cX8_qGoesOn 349 = .ok (.aload_n 0, 1) := by decide +kernel
theorem dX8_qGoesOn_350 : decode cX8_qGoesOn 350 = .ok (.getfield 386, 3) := by decide +kernel
theorem dX8_qGoesOn_353 : decode cX8_qGoesOn 353 = .ok (.iconst 1, 1) := by decide +kernel
theorem dX8_qGoesOn_354 : decode cX8_qGoesOn 354 = .ok (.isub, 1) := by decide +kernel
theorem dX8_qGoesOn_355 : decode cX8_qGoesOn 355 = .ok (.dup2, 1) := by decide +kernel
theorem dX8_qGoesOn_356 : decode cX8_qGoesOn 356 = .ok (.iaload, 1) := by decide +kernel
theorem dX8_qGoesOn_357 : decode cX8_qGoesOn 357 = .ok (.iconst 2, 1) := by decide +kernel
theorem dX8_qGoesOn_358 : decode cX8_qGoesOn 358 = .ok (.iadd, 1) := by decide +kernel
theorem dX8_qGoesOn_359 : decode cX8_qGoesOn 359 = .ok (.iastore, 1) := by decide +kernel
theorem dX8_qGoesOn_360 : decode cX8_qGoesOn 360 = .ok (.iconst 1, 1) := by decide +kernel
theorem dX8_qGoesOn_361 : decode cX8_qGoesOn 361 = .ok (.ireturn, 1) := by decide +kernel
theorem dX8_qGoesOn_362 : decode cX8_qGoesOn 362 = .ok (.aload_n 0, 1) := by decide +kernel
theorem dX8_qGoesOn_363 : decode cX8_qGoesOn 363 = .ok (.invokevirtual 658, 3) := by decide +kernel
theorem dX8_qGoesOn_366 : decode cX8_qGoesOn 366 = .ok (.iconst (-1), 1) := by decide +kernel
theorem dX8_qGoesOn_367 : decode cX8_qGoesOn 367 = .ok (.if_icmp .eq 19, 3) := by decide +kernel
theorem dX8_qGoesOn_370 : decode cX8_qGoesOn 370 = .ok (.aload_n 0, 1) := by decide +kernel
theorem dX8_qGoesOn_371 : decode cX8_qGoesOn 371 = .ok (.getfield 290, 3) := by decide +kernel
theorem dX8_qGoesOn_374 : decode cX8_qGoesOn 374 = .ok (.ifCond .ne 12, 3) := by decide +kernel
theorem dX8_qGoesOn_377 : decode cX8_qGoesOn 377 = .ok (.aload_n 0, 1) := by decide +kernel
theorem dX8_qGoesOn_378 : decode cX8_qGoesOn 378 = .ok (.iconst 1, 1) := by decide +kernel
theorem dX8_qGoesOn_379 : decode cX8_qGoesOn 379 = .ok (.aload_n 0, 1) := by decide +kernel
theorem dX8_qGoesOn_380 : decode cX8_qGoesOn 380 = .ok (.getfield 296, 3) := by decide +kernel
theorem dX8_qGoesOn_383 : decode cX8_qGoesOn 383 = .ok (.invokevirtual 320, 3) := by decide +kernel
theorem dX8_qGoesOn_386 : decode cX8_qGoesOn 386 = .ok (.iconst 0, 1) := by decide +kernel
theorem dX8_qGoesOn_387 : decode cX8_qGoesOn 387 = .ok (.ireturn, 1) := by decide +kernel
theorem dX8_qSums_0 : decode cX8_qSums 0 = .ok (.aload_n 0, 1) := by decide +kernel
theorem dX8_qSums_1 : decode cX8_qSums 1 = .ok (.getfield 392, 3) := by decide +kernel
theorem dX8_qSums_4 : decode cX8_qSums 4 = .ok (.istore_n 1, 1) := by decide +kernel
theorem dX8_qSums_5 : decode cX8_qSums 5 = .ok (.aload_n 0, 1) := by decide +kernel
theorem dX8_qSums_6 : decode cX8_qSums 6 = .ok (.aload_n 0, 1) := by decide +kernel
theorem dX8_qSums_7 : decode cX8_qSums 7 = .ok (.getfield 386, 3) := by decide +kernel
theorem dX8_qSums_10 : decode cX8_qSums 10 = .ok (.putfield 392, 3) := by decide +kernel
theorem dX8_qSums_13 : decode cX8_qSums 13 = .ok (.iconst 1, 1) := by decide +kernel
theorem dX8_qSums_14 : decode cX8_qSums 14 = .ok (.istore_n 2, 1) := by decide +kernel
theorem dX8_qSums_15 : decode cX8_qSums 15 = .ok (.iload_n 2, 1) := by decide +kernel
theorem dX8_qSums_16 : decode cX8_qSums 16 = .ok (.ifCond .eq 37, 3) := by decide +kernel
theorem dX8_qSums_19 : decode cX8_qSums 19 = .ok (.aload_n 0, 1) := by decide +kernel
theorem dX8_qSums_20 : decode cX8_qSums 20 = .ok (.getfield 290, 3) := by decide +kernel
theorem dX8_qSums_23 : decode cX8_qSums 23 = .ok (.ifCond .ne 30, 3) := by decide +kernel
theorem dX8_qSums_26 : decode cX8_qSums 26 = .ok (.aload_n 0, 1) := by decide +kernel
theorem dX8_qSums_27 : decode cX8_qSums 27 = .ok (.invokevirtual 667, 3) := by decide +kernel
theorem dX8_qSums_30 : decode cX8_qSums 30 = .ok (.aload_n 0, 1) := by decide +kernel
theorem dX8_qSums_31 : decode cX8_qSums 31 = .ok (.getfield 290, 3) := by decide +kernel
theorem dX8_qSums_34 : decode cX8_qSums 34 = .ok (.ifCond .ne 14, 3) := by decide +kernel
theorem dX8_qSums_37 : decode cX8_qSums 37 = .ok (.aload_n 0, 1) := by decide +kernel
theorem dX8_qSums_38 : decode cX8_qSums 38 = .ok (.invokevirtual 670, 3) := by decide +kernel
theorem dX8_qSums_41 : decode cX8_qSums 41 = .ok (.ifCond .eq 7, 3) := by decide +kernel
theorem dX8_qSums_44 : decode cX8_qSums 44 = .ok (.iconst 1, 1) := by decide +kernel
theorem dX8_qSums_45 : decode cX8_qSums 45 = .ok (.goto 4, 3) := by decide +kernel
theorem dX8_qSums_48 : decode cX8_qSums 48 = .ok (.iconst 0, 1) := by decide +kernel
theorem dX8_qSums_49 : decode cX8_qSums 49 = .ok (.istore_n 2, 1) := by decide +kernel
theorem dX8_qSums_50 : decode cX8_qSums 50 = .ok (.goto (-35), 3) := by decide +kernel
theorem dX8_qSums_53 : decode cX8_qSums 53 = .ok (.aload_n 0, 1) := by decide +kernel
theorem dX8_qSums_54 : decode cX8_qSums 54 = .ok (.getfield 290, 3) := by decide +kernel
theorem dX8_qSums_57 : decode cX8_qSums 57 = .ok (.ifCond .ne 21, 3) := by decide +kernel
theorem dX8_qSums_60 : decode cX8_qSums 60 = .ok (.aload_n 0, 1) := by decide +kernel
theorem dX8_qSums_61 : decode cX8_qSums 61 = .ok (.getfield 386, 3) := by decide +kernel
theorem dX8_qSums_64 : decode cX8_qSums 64 = .ok (.aload_n 0, 1) := by decide +kernel
theorem dX8_qSums_65 : decode cX8_qSums 65 = .ok (.getfield 392, 3) := by decide +kernel
theorem dX8_qSums_68 : decode cX8_qSums 68 = .ok (.if_icmp .le 10, 3) := by decide +kernel
theorem dX8_qSums_71 : decode cX8_qSums 71 = .ok (.aload_n 0, 1) := by decide +kernel
theorem dX8_qSums_72 : decode cX8_qSums 72 = .ok (.invokevirtual 637, 3) := by decide +kernel
theorem dX8_qSums_75 : decode cX8_qSums 75 = .ok (.goto (-22), 3) := by decide +kernel
theorem dX8_qSums_78 : decode cX8_qSums 78 = .ok (.aload_n 0, 1) := by decide +kernel
theorem dX8_qSums_79 : decode cX8_qSums 79 = .ok (.iload_n 1, 1) := by decide +kernel
theorem dX8_qSums_80 : decode cX8_qSums 80 = .ok (.putfield 392, 3) := by decide +kernel
theorem dX8_qSums_83 : decode cX8_qSums 83 = .ok (.return_, 1) := by decide +kernel
theorem dX8_qFact_0 : decode cX8_qFact 0 = .ok (.aload_n 0, 1) := by decide +kernel
theorem dX8_qFact_1 : decode cX8_qFact 1 = .ok (.aload_n 0, 1) := by decide +kernel
theorem dX8_qFact_2 : decode cX8_qFact 2 = .ok (.getfield 239, 3) := by decide +kernel
theorem dX8_qFact_5 : decode cX8_qFact 5 = .ok (.invokevirtual 317, 3) := by decide +kernel
theorem dX8_qFact_8 : decode cX8_qFact 8 = .ok (.ifCond .eq 10, 3) := by decide +kernel
theorem dX8_qFact_11 : decode cX8_qFact 11 = .ok (.aload_n 0, 1) := by decide +kernel
theorem dX8_qFact_12 : decode cX8_qFact 12 = .ok (.bipush 13, 2) := by decide +kernel
theorem dX8_qFact_14 : decode cX8_qFact 14 = .ok (.invokevirtual 631, 3) := by decide +kernel
theorem dX8_qFact_17 : decode cX8_qFact 17 = .ok (.return_, 1) := by decide +kernel
theorem dX8_qFact_18 : decode cX8_qFact 18 = .ok (.aload_n 0, 1) := by decide +kernel
theorem dX8_qFact_19 : decode cX8_qFact 19 = .ok (.invokevirtual 673, 3) := by decide +kernel
theorem dX8_qFact_22 : decode cX8_qFact 22 = .ok (.aload_n 0, 1) := by decide +kernel
theorem dX8_qFact_23 : decode cX8_qFact 23 = .ok (.getfield 290, 3) := by decide +kernel
theorem dX8_qFact_26 : decode cX8_qFact 26 = .ok (.ifCond .eq 4, 3) := by decide +kernel
theorem dX8_qFact_29 : decode cX8_qFact 29 = .ok (.return_, 1) := by decide +kernel
theorem dX8_qFact_30 : decode cX8_qFact 30 = .ok (.aload_n 0, 1) := by decide +kernel
theorem dX8_qFact_31 : decode cX8_qFact 31 = .ok (.invokevirtual 302, 3) := by decide +kernel
theorem dX8_qFact_34 : decode cX8_qFact 34 = .ok (.istore_n 1, 1) := by decide +kernel
theorem dX8_qFact_35 : decode cX8_qFact 35 = .ok (.iload_n 1, 1) := by decide +kernel
theorem dX8_qFact_36 : decode cX8_qFact 36 = .ok (.bipush 60, 2) := by decide +kernel
theorem dX8_qFact_38 : decode cX8_qFact 38 = .ok (.if_icmp .eq 25, 3) := by decide +kernel
theorem dX8_qFact_41 : decode cX8_qFact 41 = .ok (.iload_n 1, 1) := by decide +kernel
theorem dX8_qFact_42 : decode cX8_qFact 42 = .ok (.bipush 62, 2) := by decide +kernel
theorem dX8_qFact_44 : decode cX8_qFact 44 = .ok (.if_icmp .eq 19, 3) := by decide +kernel
theorem dX8_qFact_47 : decode cX8_qFact 47 = .ok (.iload_n 1, 1) := by decide +kernel
theorem dX8_qFact_48 : decode cX8_qFact 48 = .ok (.bipush 61, 2) := by decide +kernel
theorem dX8_qFact_50 : decode cX8_qFact 50 = .ok (.if_icmp .eq 13, 3) := by decide +kernel
theorem dX8_qFact_53 : decode cX8_qFact 53 = .ok (.aload_n 0, 1) := by decide +kernel
theorem dX8_qFact_54 : decode cX8_qFact 54 = .ok (.iconst 1, 1) := by decide +kernel
theorem dX8_qFact_55 : decode cX8_qFact 55 = .ok (.aload_n 0, 1) := by decide +kernel
theorem dX8_qFact_56 : decode cX8_qFact 56 = .ok (.getfield 296, 3) := by decide +kernel
theorem dX8_qFact_59 : decode cX8_qFact 59 = .ok (.invokevirtual 320, 3) := by decide +kernel
theorem dX8_qFact_62 : decode cX8_qFact 62 = .ok (.return_, 1) := by decide +kernel
theorem dX8_qFact_63 : decode cX8_qFact 63 = .ok (.aload_n 0, 1) := by decide +kernel
theorem dX8_qFact_64 : decode cX8_qFact 64 = .ok (.dup, 1) := by decide +kernel
theorem dX8_qFact_65 : decode cX8_qFact 65 = .ok (.getfield 296, 3) := by decide +kernel
theorem dX8_qFact_68 : decode cX8_qFact 68 = .ok (.iconst 1, 1) := by decide +kernel
theorem dX8_qFact_69 : decode cX8_qFact 69 = .ok (.iadd, 1) := by decide +kernel
theorem dX8_qFact_70 : decode cX8_qFact 70 = .ok (.putfield 296, 3) := by decide +kernel
theorem dX8_qFact_73 : decode cX8_qFact 73 = .ok (.aload_n 0, 1) := by decide +kernel
theorem dX8_qFact_74 : decode cX8_qFact 74 = .ok (.invokevirtual 673, 3) := by decide +kernel
theorem dX8_qFact_77 : decode cX8_qFact 77 = .ok (.aload_n 0, 1) := by decide +kernel
theorem dX8_qFact_78 : decode cX8_qFact 78 = .ok (.iload_n 1, 1) := by decide +kernel
theorem dX8_qFact_79 : decode cX8_qFact 79 = .ok (.bipush 60, 2) := by decide +kernel
theorem dX8_qFact_81 : decode cX8_qFact 81 = .ok (.if_icmp .ne 8, 3) := by decide +kernel
theorem dX8_qFact_84 : decode cX8_qFact 84 = .ok (.bipush 7, 2) := by decide +kernel
theorem dX8_qFact_86 : decode cX8_qFact 86 = .ok (.goto 16, 3) := by decide +kernel
theorem dX8_qFact_89 : decode cX8_qFact 89 = .ok (.iload_n 1, 1) := by decide +kernel
theorem dX8_qFact_90 : decode cX8_qFact 90 = .ok (.bipush 62, 2) := by decide +kernel
theorem dX8_qFact_92 : decode cX8_qFact 92 = .ok (.if_icmp .ne 8, 3) := by decide +kernel
theorem dX8_qFact_95 : decode cX8_qFact 95 = .ok (.bipush 8, 2) := by decide +kernel
theorem dX8_qFact_97 : decode cX8_qFact 97 = .ok (.goto 5, 3) := by decide +kernel
theorem dX8_qFact_100 : decode cX8_qFact 100 = .ok (.bipush 9, 2) := by decide +kernel
theorem dX8_qFact_102 : decode cX8_qFact 102 = .ok (.invokevirtual 631, 3) := by decide +kernel
theorem dX8_qFact_105 : decode cX8_qFact 105 = .ok (.return_, 1) := by decide +kernel
theorem dX8_qHasSquare_0 : decode cX8_qHasSquare 0 = .ok (.iconst 0, 1) := by decide +kernel
theorem dX8_qHasSquare_1 : decode cX8_qHasSquare 1 = .ok (.istore_n 1, 1) := by decide +kernel
theorem dX8_qHasSquare_2 : decode cX8_qHasSquare 2 = .ok (.iload_n 1, 1) := by decide +kernel
theorem dX8_qHasSquare_3 : decode cX8_qHasSquare 3 = .ok (.aload_n 0, 1) := by decide +kernel
theorem dX8_qHasSquare_4 : decode cX8_qHasSquare 4 = .ok (.getfield 386, 3) := by decide +kernel
theorem dX8_qHasSquare_7 : decode cX8_qHasSquare 7 = .ok (.if_icmp .ge 22, 3) := by decide +kernel
theorem dX8_qHasSquare_10 : decode cX8_qHasSquare 10 = .ok (.aload_n 0, 1) := by decide +kernel
theorem dX8_qHasSquare_11 : decode cX8_qHasSquare 11 = .ok (.getfield 278, 3) := by decide +kernel
theorem dX8_qHasSquare_14 : decode cX8_qHasSquare 14 = .ok (.iload_n 1, 1) := by decide +kernel
theorem dX8_qHasSquare_15 : decode cX8_qHasSquare 15 = .ok (.iaload, 1) := by decide +kernel
theorem dX8_qHasSquare_16 : decode cX8_qHasSquare 16 = .ok (.bipush 25, 2) := by decide +kernel
theorem dX8_qHasSquare_18 : decode cX8_qHasSquare 18 = .ok (.if_icmp .ne 5, 3) := by decide +kernel
theorem dX8_qHasSquare_21 : decode cX8_qHasSquare 21 = .ok (.iconst 1, 1) := by decide +kernel
theorem dX8_qHasSquare_22 : decode cX8_qHasSquare 22 = .ok (.ireturn, 1) := by decide +kernel
theorem dX8_qHasSquare_23 : decode cX8_qHasSquare 23 = .ok (.iinc 1 1, 3) := by decide +kernel
theorem dX8_qHasSquare_26 : decode cX8_qHasSquare 26 = .ok (.goto (-24), 3) := by decide +kernel
theorem dX8_qHasSquare_29 : decode cX8_qHasSquare 29 = .ok (.iconst 0, 1) := by decide +kernel
theorem dX8_qHasSquare_30 : decode cX8_qHasSquare 30 = .ok (.ireturn, 1) := by decide +kernel
theorem dX8_qDropsNots_0 : decode cX8_qDropsNots 0 = .ok (.aload_n 0, 1) := by decide +kernel
theorem dX8_qDropsNots_1 : decode cX8_qDropsNots 1 = .ok (.getfield 290, 3) := by decide +kernel
theorem dX8_qDropsNots_4 : decode cX8_qDropsNots 4 = .ok (.ifCond .ne 29, 3) := by decide +kernel
theorem dX8_qDropsNots_7 : decode cX8_qDropsNots 7 = .ok (.aload_n 0, 1) := by decide +kernel
theorem dX8_qDropsNots_8 : decode cX8_qDropsNots 8 = .ok (.bipush 12, 2) := by decide +kernel
theorem dX8_qDropsNots_10 : decode cX8_qDropsNots 10 = .ok (.invokevirtual 664, 3) := by decide +kernel
theorem dX8_qDropsNots_13 : decode cX8_qDropsNots 13 = .ok (.ifCond .eq 20, 3) := by decide +kernel
theorem dX8_qDropsNots_16 : decode cX8_qDropsNots 16 = .ok (.aload_n 0, 1) := by decide +kernel
theorem dX8_qDropsNots_17 : decode cX8_qDropsNots 17 = .ok (.dup, 1) := by decide +kernel
theorem dX8_qDropsNots_18 : decode cX8_qDropsNots 18 = .ok (.getfield 389, 3) := by decide +kernel
theorem dX8_qDropsNots_21 : decode cX8_qDropsNots 21 = .ok (.iconst 1, 1) := by decide +kernel
theorem dX8_qDropsNots_22 : decode cX8_qDropsNots 22 = .ok (.isub, 1) := by decide +kernel
theorem dX8_qDropsNots_23 : decode cX8_qDropsNots 23 = .ok (.putfield 389, 3) := by decide +kernel
theorem dX8_qDropsNots_26 : decode cX8_qDropsNots 26 = .ok (.aload_n 0, 1) := by decide +kernel
theorem dX8_qDropsNots_27 : decode cX8_qDropsNots 27 = .ok (.invokevirtual 637, 3) := by decide +kernel
theorem dX8_qDropsNots_30 : decode cX8_qDropsNots 30 = .ok (.goto (-30), 3) := by decide +kernel
theorem dX8_qDropsNots_33 : decode cX8_qDropsNots 33 = .ok (.return_, 1) := by decide +kernel
theorem dX8_qTest_0 : decode cX8_qTest 0 = .ok (.iconst 1, 1) := by decide +kernel
theorem dX8_qTest_1 : decode cX8_qTest 1 = .ok (.istore_n 1, 1) := by decide +kernel
theorem dX8_qTest_2 : decode cX8_qTest 2 = .ok (.iload_n 1, 1) := by decide +kernel
theorem dX8_qTest_3 : decode cX8_qTest 3 = .ok (.ifCond .eq 107, 3) := by decide +kernel
theorem dX8_qTest_6 : decode cX8_qTest 6 = .ok (.aload_n 0, 1) := by decide +kernel
theorem dX8_qTest_7 : decode cX8_qTest 7 = .ok (.getfield 290, 3) := by decide +kernel
theorem dX8_qTest_10 : decode cX8_qTest 10 = .ok (.ifCond .ne 100, 3) := by decide +kernel
theorem dX8_qTest_13 : decode cX8_qTest 13 = .ok (.aload_n 0, 1) := by decide +kernel
theorem dX8_qTest_14 : decode cX8_qTest 14 = .ok (.invokevirtual 302, 3) := by decide +kernel
theorem dX8_qTest_17 : decode cX8_qTest 17 = .ok (.istore_n 2, 1) := by decide +kernel
theorem dX8_qTest_18 : decode cX8_qTest 18 = .ok (.iload_n 2, 1) := by decide +kernel
theorem dX8_qTest_19 : decode cX8_qTest 19 = .ok (.bipush 91, 2) := by decide +kernel
theorem dX8_qTest_21 : decode cX8_qTest 21 = .ok (.if_icmp .ne 26, 3) := by decide +kernel
theorem dX8_qTest_24 : decode cX8_qTest 24 = .ok (.aload_n 0, 1) := by decide +kernel
theorem dX8_qTest_25 : decode cX8_qTest 25 = .ok (.bipush 25, 2) := by decide +kernel
theorem dX8_qTest_27 : decode cX8_qTest 27 = .ok (.aload_n 0, 1) := by decide +kernel
theorem dX8_qTest_28 : decode cX8_qTest 28 = .ok (.getfield 296, 3) := by decide +kernel
theorem dX8_qTest_31 : decode cX8_qTest 31 = .ok (.invokevirtual 649, 3) := by decide +kernel
theorem dX8_qTest_34 : decode cX8_qTest 34 = .ok (.aload_n 0, 1) := by decide +kernel
theorem dX8_qTest_35 : decode cX8_qTest 35 = .ok (.dup, 1) := by decide +kernel
theorem dX8_qTest_36 : decode cX8_qTest 36 = .ok (.getfield 296, 3) := by decide +kernel
theorem dX8_qTest_39 : decode cX8_qTest 39 = .ok (.iconst 1, 1) := by decide +kernel
theorem dX8_qTest_40 : decode cX8_qTest 40 = .ok (.iadd, 1) := by decide +kernel
theorem dX8_qTest_41 : decode cX8_qTest 41 = .ok (.putfield 296, 3) := by decide +kernel
theorem dX8_qTest_44 : decode cX8_qTest 44 = .ok (.goto (-42), 3) := by decide +kernel
theorem dX8_qTest_47 : decode cX8_qTest 47 = .ok (.aload_n 0, 1) := by decide +kernel
theorem dX8_qTest_48 : decode cX8_qTest 48 = .ok (.aload_n 0, 1) := by decide +kernel
theorem dX8_qTest_49 : decode cX8_qTest 49 = .ok (.getfield 230, 3) := by decide +kernel
theorem dX8_qTest_52 : decode cX8_qTest 52 = .ok (.invokevirtual 313, 3) := by decide +kernel
theorem dX8_qTest_55 : decode cX8_qTest 55 = .ok (.ifCond .eq 24, 3) := by decide +kernel
theorem dX8_qTest_58 : decode cX8_qTest 58 = .ok (.aload_n 0, 1) := by decide +kernel
theorem dX8_qTest_59 : decode cX8_qTest 59 = .ok (.bipush 12, 2) := by decide +kernel
theorem dX8_qTest_61 : decode cX8_qTest 61 = .ok (.aload_n 0, 1) := by decide +kernel
theorem dX8_qTest_62 : decode cX8_qTest 62 = .ok (.getfield 296, 3) := by decide +kernel
theorem dX8_qTest_65 : decode cX8_qTest 65 = .ok (.invokevirtual 649, 3) := by decide +kernel
theorem dX8_qTest_68 : decode cX8_qTest 68 = .ok (.aload_n 0, 1) := by decide +kernel
theorem dX8_qTest_69 : decode cX8_qTest 69 = .ok (.aload_n 0, 1) := by decide +kernel
theorem dX8_qTest_70 : decode cX8_qTest 70 = .ok (.getfield 230, 3) := by decide +kernel
theorem dX8_qTest_73 : decode cX8_qTest 73 = .ok (.invokevirtual 356, 3) := by decide +kernel
theorem dX8_qTest_76 : decode cX8_qTest 76 = .ok (.goto (-74), 3) := by decide +kernel
theorem dX8_qTest_79 : decode cX8_qTest 79 = .ok (.aload_n 0, 1) := by decide +kernel
theorem dX8_qTest_80 : decode cX8_qTest 80 = .ok (.invokevirtual 676, 3) := by decide +kernel
theorem dX8_qTest_83 : decode cX8_qTest 83 = .ok (.aload_n 0, 1) := by decide +kernel
theorem dX8_qTest_84 : decode cX8_qTest 84 = .ok (.invokevirtual 679, 3) := by decide +kernel
theorem dX8_qTest_87 : decode cX8_qTest 87 = .ok (.aload_n 0, 1) := by decide +kernel
theorem dX8_qTest_88 : decode cX8_qTest 88 = .ok (.getfield 290, 3) := by decide +kernel
theorem dX8_qTest_91 : decode cX8_qTest 91 = .ok (.ifCond .ne 14, 3) := by decide +kernel
theorem dX8_qTest_94 : decode cX8_qTest 94 = .ok (.aload_n 0, 1) := by decide +kernel
theorem dX8_qTest_95 : decode cX8_qTest 95 = .ok (.invokevirtual 682, 3) := by decide +kernel
theorem dX8_qTest_98 : decode cX8_qTest 98 = .ok (.ifCond .eq 7, 3) := by decide +kernel
theorem dX8_qTest_101 : decode cX8_qTest 101 = .ok (.iconst 1, 1) := by decide +kernel
theorem dX8_qTest_102 : decode cX8_qTest 102 = .ok (.goto 4, 3) := by decide +kernel
theorem dX8_qTest_105 : decode cX8_qTest 105 = .ok (.iconst 0, 1) := by decide +kernel
theorem dX8_qTest_106 : decode cX8_qTest 106 = .ok (.istore_n 1, 1) := by decide +kernel
theorem dX8_qTest_107 : decode cX8_qTest 107 = .ok (.goto (-105), 3) := by decide +kernel
theorem dX8_qTest_110 : decode cX8_qTest 110 = .ok (.aload_n 0, 1) := by decide +kernel
theorem dX8_qTest_111 : decode cX8_qTest 111 = .ok (.getfield 290, 3) := by decide +kernel
theorem dX8_qTest_114 : decode cX8_qTest 114 = .ok (.ifCond .ne 17, 3) := by decide +kernel
theorem dX8_qTest_117 : decode cX8_qTest 117 = .ok (.aload_n 0, 1) := by decide +kernel
theorem dX8_qTest_118 : decode cX8_qTest 118 = .ok (.getfield 386, 3) := by decide +kernel
theorem dX8_qTest_121 : decode cX8_qTest 121 = .ok (.ifCond .le 10, 3) := by decide +kernel
theorem dX8_qTest_124 : decode cX8_qTest 124 = .ok (.aload_n 0, 1) := by decide +kernel
theorem dX8_qTest_125 : decode cX8_qTest 125 = .ok (.invokevirtual 637, 3) := by decide +kernel
theorem dX8_qTest_128 : decode cX8_qTest 128 = .ok (.goto (-18), 3) := by decide +kernel
theorem dX8_qTest_131 : decode cX8_qTest 131 = .ok (.return_, 1) := by decide +kernel
theorem dX8_qGoesOnTest_0 : decode cX8_qGoesOnTest 0 = .ok (.aload_n 0, 1) := by decide +kernel
theorem dX8_qGoesOnTest_1 : decode cX8_qGoesOnTest 1 = .ok (.getfield 290, 3) := by decide +kernel
theorem dX8_qGoesOnTest_4 : decode cX8_qGoesOnTest 4 = .ok (.ifCond .ne 72, 3) := by decide +kernel
theorem dX8_qGoesOnTest_7 : decode cX8_qGoesOnTest 7 = .ok (.aload_n 0, 1) := by decide +kernel
theorem dX8_qGoesOnTest_8 : decode cX8_qGoesOnTest 8 = .ok (.invokevirtual 302, 3) := by decide +kernel
theorem dX8_qGoesOnTest_11 : decode cX8_qGoesOnTest 11 = .ok (.bipush 93, 2) := by decide +kernel
theorem dX8_qGoesOnTest_13 : decode cX8_qGoesOnTest 13 = .ok (.if_icmp .ne 63, 3) := by decide +kernel
theorem dX8_qGoesOnTest_16 : decode cX8_qGoesOnTest 16 = .ok (.aload_n 0, 1) := by decide +kernel
theorem dX8_qGoesOnTest_17 : decode cX8_qGoesOnTest 17 = .ok (.invokevirtual 685, 3) := by decide +kernel
theorem dX8_qGoesOnTest_20 : decode cX8_qGoesOnTest 20 = .ok (.ifCond .eq 56, 3) := by decide +kernel
theorem dX8_qGoesOnTest_23 : decode cX8_qGoesOnTest 23 = .ok (.aload_n 0, 1) := by decide +kernel
theorem dX8_qGoesOnTest_24 : decode cX8_qGoesOnTest 24 = .ok (.dup, 1) := by decide +kernel
theorem dX8_qGoesOnTest_25 : decode cX8_qGoesOnTest 25 = .ok (.getfield 296, 3) := by decide +kernel
theorem dX8_qGoesOnTest_28 : decode cX8_qGoesOnTest 28 = .ok (.iconst 1, 1) := by decide +kernel
theorem dX8_qGoesOnTest_29 : decode cX8_qGoesOnTest 29 = .ok (.iadd, 1) := by decide +kernel
theorem dX8_qGoesOnTest_30 : decode cX8_qGoesOnTest 30 = .ok (.putfield 296, 3) := by decide +kernel
theorem dX8_qGoesOnTest_33 : decode cX8_qGoesOnTest 33 = .ok (.aload_n 0, 1) := by decide +kernel
theorem dX8_qGoesOnTest_34 : decode cX8_qGoesOnTest 34 = .ok (.bipush 25, 2) := by decide +kernel
theorem dX8_qGoesOnTest_36 : decode cX8_qGoesOnTest 36 = .ok (.invokevirtual 664, 3) := by decide +kernel
theorem dX8_qGoesOnTest_39 : decode cX8_qGoesOnTest 39 = .ok (.ifCond .ne 10, 3) := by decide +kernel
theorem dX8_qGoesOnTest_42 : decode cX8_qGoesOnTest 42 = .ok (.aload_n 0, 1) := by decide +kernel
theorem dX8_qGoesOnTest_43 : decode cX8_qGoesOnTest 43 = .ok (.invokevirtual 637, 3) := by decide +kernel
theorem dX8_qGoesOnTest_46 : decode cX8_qGoesOnTest 46 = .ok (.goto (-13), 3) := by decide +kernel
theorem dX8_qGoesOnTest_49 : decode cX8_qGoesOnTest 49 = .ok (.aload_n 0, 1) := by decide +kernel
theorem dX8_qGoesOnTest_50 : decode cX8_qGoesOnTest 50 = .ok (.dup, 1) := by decide +kernel
theorem dX8_qGoesOnTest_51 : decode cX8_qGoesOnTest 51 = .ok (.getfield 386, 3) := by decide +kernel
theorem dX8_qGoesOnTest_54 : decode cX8_qGoesOnTest 54 = .ok (.iconst 1, 1) := by decide +kernel
theorem dX8_qGoesOnTest_55 : decode cX8_qGoesOnTest 55 = .ok (.isub, 1) := by decide +kernel
theorem dX8_qGoesOnTest_56 : decode cX8_qGoesOnTest 56 = .ok (.putfield 386, 3) := by decide +kernel
theorem dX8_qGoesOnTest_59 : decode cX8_qGoesOnTest 59 = .ok (.aload_n 0, 1) := by decide +kernel
theorem dX8_qGoesOnTest_60 : decode cX8_qGoesOnTest 60 = .ok (.dup, 1) := by decide +kernel
theorem dX8_qGoesOnTest_61 : decode cX8_qGoesOnTest 61 = .ok (.getfield 389, 3) := by decide +kernel
theorem dX8_qGoesOnTest_64 : decode cX8_qGoesOnTest 64 = .ok (.iconst 1, 1) := by decide +kernel
theorem dX8_qGoesOnTest_65 : decode cX8_qGoesOnTest 65 = .ok (.isub, 1) := by decide +kernel
theorem dX8_qGoesOnTest_66 : decode cX8_qGoesOnTest 66 = .ok (.putfield 389, 3) := by decide +kernel
theorem dX8_qGoesOnTest_69 : decode cX8_qGoesOnTest 69 = .ok (.aload_n 0, 1) := by decide +kernel
theorem dX8_qGoesOnTest_70 : decode cX8_qGoesOnTest 70 = .ok (.invokevirtual 679, 3) := by decide +kernel
theorem dX8_qGoesOnTest_73 : decode cX8_qGoesOnTest 73 = .ok (.goto (-73), 3) := by decide +kernel
theorem dX8_qGoesOnTest_76 : decode cX8_qGoesOnTest 76 = .ok (.aload_n 0, 1) := by decide +kernel
theorem dX8_qGoesOnTest_77 : decode cX8_qGoesOnTest 77 = .ok (.aload_n 0, 1) := by decide +kernel
theorem dX8_qGoesOnTest_78 : decode cX8_qGoesOnTest 78 = .ok (.getfield 233, 3) := by decide +kernel
theorem dX8_qGoesOnTest_81 : decode cX8_qGoesOnTest 81 = .ok (.invokevirtual 317, 3) := by decide +kernel
theorem dX8_qGoesOnTest_84 : decode cX8_qGoesOnTest 84 = .ok (.ifCond .eq 42, 3) := by decide +kernel
theorem dX8_qGoesOnTest_87 : decode cX8_qGoesOnTest 87 = .ok (.aload_n 0, 1) := by decide +kernel
theorem dX8_qGoesOnTest_88 : decode cX8_qGoesOnTest 88 = .ok (.bipush 10, 2) := by decide +kernel
theorem dX8_qGoesOnTest_90 : decode cX8_qGoesOnTest 90 = .ok (.invokevirtual 664, 3) := by decide +kernel
theorem dX8_qGoesOnTest_93 : decode cX8_qGoesOnTest 93 = .ok (.ifCond .eq 10, 3) := by decide +kernel
theorem dX8_qGoesOnTest_96 : decode cX8_qGoesOnTest 96 = .ok (.aload_n 0, 1) := by decide +kernel
theorem dX8_qGoesOnTest_97 : decode cX8_qGoesOnTest 97 = .ok (.invokevirtual 637, 3) := by decide +kernel
theorem dX8_qGoesOnTest_100 : decode cX8_qGoesOnTest 100 = .ok (.goto (-13), 3) := by decide +kernel
theorem dX8_qGoesOnTest_103 : decode cX8_qGoesOnTest 103 = .ok (.aload_n 0, 1) := by decide +kernel
theorem dX8_qGoesOnTest_104 : decode cX8_qGoesOnTest 104 = .ok (.getfield 278, 3) := by decide +kernel
theorem dX8_qGoesOnTest_107 : decode cX8_qGoesOnTest 107 = .ok (.aload_n 0, 1) := by decide +kernel
theorem dX8_qGoesOnTest_108 : decode cX8_qGoesOnTest 108 = .ok (.getfield 386, 3) := by decide +kernel
theorem dX8_qGoesOnTest_111 : decode cX8_qGoesOnTest 111 = .ok (.bipush 10, 2) := by decide +kernel
theorem dX8_qGoesOnTest_113 : decode cX8_qGoesOnTest 113 = .ok (.iastore, 1) := by decide +kernel
theorem dX8_qGoesOnTest_114 : decode cX8_qGoesOnTest 114 = .ok (.aload_n 0, 1) := by decide +kernel
theorem dX8_qGoesOnTest_115 : decode cX8_qGoesOnTest 115 = .ok (.dup, 1) := by decide +kernel
theorem dX8_qGoesOnTest_116 : decode cX8_qGoesOnTest 116 = .ok (.getfield 386, 3) := by decide +kernel
theorem dX8_qGoesOnTest_119 : decode cX8_qGoesOnTest 119 = .ok (.iconst 1, 1) := by decide +kernel
theorem dX8_qGoesOnTest_120 : decode cX8_qGoesOnTest 120 = .ok (.iadd, 1) := by decide +kernel
theorem dX8_qGoesOnTest_121 : decode cX8_qGoesOnTest 121 = .ok (.putfield 386, 3) := by decide +kernel
theorem dX8_qGoesOnTest_124 : decode cX8_qGoesOnTest 124 = .ok (.iconst 1, 1) := by decide +kernel
theorem dX8_qGoesOnTest_125 : decode cX8_qGoesOnTest 125 = .ok (.ireturn, 1) := by decide +kernel
theorem dX8_qGoesOnTest_126 : decode cX8_qGoesOnTest 126 = .ok (.aload_n 0, 1) := by decide +kernel
theorem dX8_qGoesOnTest_127 : decode cX8_qGoesOnTest 127 = .ok (.aload_n 0, 1) := by decide +kernel
theorem dX8_qGoesOnTest_128 : decode cX8_qGoesOnTest 128 = .ok (.getfield 236, 3) := by decide +kernel
theorem dX8_qGoesOnTest_131 : decode cX8_qGoesOnTest 131 = .ok (.invokevirtual 317, 3) := by decide +kernel
theorem dX8_qGoesOnTest_134 : decode cX8_qGoesOnTest 134 = .ok (.ifCond .eq 51, 3) := by decide +kernel
theorem dX8_qGoesOnTest_137 : decode cX8_qGoesOnTest 137 = .ok (.aload_n 0, 1) := by decide +kernel
theorem dX8_qGoesOnTest_138 : decode cX8_qGoesOnTest 138 = .ok (.bipush 10, 2) := by decide +kernel
theorem dX8_qGoesOnTest_140 : decode cX8_qGoesOnTest 140 = .ok (.invokevirtual 664, 3) := by decide +kernel
theorem dX8_qGoesOnTest_143 : decode cX8_qGoesOnTest 143 = .ok (.ifCond .ne 12, 3) := by decide +kernel
theorem dX8_qGoesOnTest_146 : decode cX8_qGoesOnTest 146 = .ok (.aload_n 0, 1) := by decide +kernel
theorem dX8_qGoesOnTest_147 : decode cX8_qGoesOnTest 147 = .ok (.bipush 11, 2) := by decide +kernel
theorem dX8_qGoesOnTest_149 : decode cX8_qGoesOnTest 149 = .ok (.invokevirtual 664, 3) := by decide +kernel
theorem dX8_qGoesOnTest_152 : decode cX8_qGoesOnTest 152 = .ok (.ifCond .eq 10, 3) := by decide +kernel
theorem dX8_qGoesOnTest_155 : decode cX8_qGoesOnTest 155 = .ok (.aload_n 0, 1) := by decide +kernel
theorem dX8_qGoesOnTest_156 : decode cX8_qGoesOnTest 156 = .ok (.invokevirtual 637, 3) := by decide +kernel
theorem dX8_qGoesOnTest_159 : decode cX8_qGoesOnTest 159 = .ok (.goto (-22), 3) := by decide +kernel
theorem dX8_qGoesOnTest_162 : decode cX8_qGoesOnTest 162 = .ok (.aload_n 0, 1) := by decide +kernel
theorem dX8_qGoesOnTest_163 : decode cX8_qGoesOnTest 163 = .ok (.getfield 278, 3) := by decide +kernel
theorem dX8_qGoesOnTest_166 : decode cX8_qGoesOnTest 166 = .ok (.aload_n 0, 1) := by decide +kernel
theorem dX8_qGoesOnTest_167 : decode cX8_qGoesOnTest 167 = .ok (.getfield 386, 3) := by decide +kernel
theorem dX8_qGoesOnTest_170 : decode cX8_qGoesOnTest 170 = .ok (.bipush 11, 2) := by decide +kernel
theorem dX8_qGoesOnTest_172 : decode cX8_qGoesOnTest 172 = .ok (.iastore, 1) := by decide +kernel
theorem dX8_qGoesOnTest_173 : decode cX8_qGoesOnTest 173 = .ok (.aload_n 0, 1) := by decide +kernel
theorem dX8_qGoesOnTest_174 : decode cX8_qGoesOnTest 174 = .ok (.dup, 1) := by decide +kernel
theorem dX8_qGoesOnTest_175 : decode cX8_qGoesOnTest 175 = .ok (.getfield 386, 3) := by decide +kernel
theorem dX8_qGoesOnTest_178 : decode cX8_qGoesOnTest 178 = .ok (.iconst 1, 1) := by decide +kernel
theorem dX8_qGoesOnTest_179 : decode cX8_qGoesOnTest 179 = .ok (.iadd, 1) := by decide +kernel
theorem dX8_qGoesOnTest_180 : decode cX8_qGoesOnTest 180 = .ok (.putfield 386, 3) := by decide +kernel
theorem dX8_qGoesOnTest_183 : decode cX8_qGoesOnTest 183 = .ok (.iconst 1, 1) := by decide +kernel
theorem dX8_qGoesOnTest_184 : decode cX8_qGoesOnTest 184 = .ok (.ireturn, 1) := by decide +kernel
theorem dX8_qGoesOnTest_185 : decode cX8_qGoesOnTest 185 = .ok (.aload_n 0, 1) := by decide +kernel
theorem dX8_qGoesOnTest_186 : decode cX8_qGoesOnTest 186 = .ok (.getfield 290, 3) := by decide +kernel
theorem dX8_qGoesOnTest_189 : decode cX8_qGoesOnTest 189 = .ok (.ifCond .ne 19, 3) := by decide +kernel
theorem dX8_qGoesOnTest_192 : decode cX8_qGoesOnTest 192 = .ok (.aload_n 0, 1) := by decide +kernel
theorem dX8_qGoesOnTest_193 : decode cX8_qGoesOnTest 193 = .ok (.invokevirtual 685, 3) := by decide +kernel
theorem dX8_qGoesOnTest_196 : decode cX8_qGoesOnTest 196 = .ok (.ifCond .eq 12, 3) := by decide +kernel
theorem dX8_qGoesOnTest_199 : decode cX8_qGoesOnTest 199 = .ok (.aload_n 0, 1) := by decide +kernel
theorem dX8_qGoesOnTest_200 : decode cX8_qGoesOnTest 200 = .ok (.iconst 1, 1) := by decide +kernel
theorem dX8_qGoesOnTest_201 : decode cX8_qGoesOnTest 201 = .ok (.aload_n 0, 1) := by decide +kernel
theorem dX8_qGoesOnTest_202 : decode cX8_qGoesOnTest 202 = .ok (.getfield 296, 3) := by decide +kernel
theorem dX8_qGoesOnTest_205 : decode cX8_qGoesOnTest 205 = .ok (.invokevirtual 320, 3) := by decide +kernel
theorem dX8_qGoesOnTest_208 : decode cX8_qGoesOnTest 208 = .ok (.iconst 0, 1) := by decide +kernel
theorem dX8_qGoesOnTest_209 : decode cX8_qGoesOnTest 209 = .ok (.ireturn, 1) := by decide +kernel
theorem dX8_qClip_0 : decode cX8_qClip 0 = .ok (.lload_n 0, 1) := by decide +kernel
theorem dX8_qClip_1 : decode cX8_qClip 1 = .ok (.ldc2_w 688, 3) := by decide +kernel
theorem dX8_qClip_4 : decode cX8_qClip 4 = .ok (.lcmp, 1) := by decide +kernel
theorem dX8_qClip_5 : decode cX8_qClip 5 = .ok (.ifCond .le 9, 3) := by decide +kernel
theorem dX8_qClip_8 : decode cX8_qClip 8 = .ok (.ldc2_w 688, 3) := by decide +kernel
theorem dX8_qClip_11 : decode cX8_qClip 11 = .ok (.goto 18, 3) := by decide +kernel
theorem dX8_qClip_14 : decode cX8_qClip 14 = .ok (.lload_n 0, 1) := by decide +kernel
theorem dX8_qClip_15 : decode cX8_qClip 15 = .ok (.ldc2_w 690, 3) := by decide +kernel
theorem dX8_qClip_18 : decode cX8_qClip 18 = .ok (.lcmp, 1) := by decide +kernel
theorem dX8_qClip_19 : decode cX8_qClip 19 = .ok (.ifCond .ge 9, 3) := by decide +kernel
theorem dX8_qClip_22 : decode cX8_qClip 22 = .ok (.ldc2_w 690, 3) := by decide +kernel
theorem dX8_qClip_25 : decode cX8_qClip 25 = .ok (.goto 4, 3) := by decide +kernel
theorem dX8_qClip_28 : decode cX8_qClip 28 = .ok (.lload_n 0, 1) := by decide +kernel
theorem dX8_qClip_29 : decode cX8_qClip 29 = .ok (.lreturn, 1) := by decide +kernel
theorem dX8_qFloor_0 : decode cX8_qFloor 0 = .ok (.lload_n 2, 1) := by decide +kernel
theorem dX8_qFloor_1 : decode cX8_qFloor 1 = .ok (.lconst 0, 1) := by decide +kernel
theorem dX8_qFloor_2 : decode cX8_qFloor 2 = .ok (.lcmp, 1) := by decide +kernel
theorem dX8_qFloor_3 : decode cX8_qFloor 3 = .ok (.ifCond .ne 5, 3) := by decide +kernel
theorem dX8_qFloor_6 : decode cX8_qFloor 6 = .ok (.lconst 0, 1) := by decide +kernel
theorem dX8_qFloor_7 : decode cX8_qFloor 7 = .ok (.lreturn, 1) := by decide +kernel
theorem dX8_qFloor_8 : decode cX8_qFloor 8 = .ok (.lload_n 0, 1) := by decide +kernel
theorem dX8_qFloor_9 : decode cX8_qFloor 9 = .ok (.lload_n 2, 1) := by decide +kernel
theorem dX8_qFloor_10 : decode cX8_qFloor 10 = .ok (.ldiv, 1) := by decide +kernel
theorem dX8_qFloor_11 : decode cX8_qFloor 11 = .ok (.lstore 4, 2) := by decide +kernel
theorem dX8_qFloor_13 : decode cX8_qFloor 13 = .ok (.lload_n 0, 1) := by decide +kernel
theorem dX8_qFloor_14 : decode cX8_qFloor 14 = .ok (.lload_n 2, 1) := by decide +kernel
theorem dX8_qFloor_15 : decode cX8_qFloor 15 = .ok (.lrem, 1) := by decide +kernel
theorem dX8_qFloor_16 : decode cX8_qFloor 16 = .ok (.lconst 0, 1) := by decide +kernel
theorem dX8_qFloor_17 : decode cX8_qFloor 17 = .ok (.lcmp, 1) := by decide +kernel
theorem dX8_qFloor_18 : decode cX8_qFloor 18 = .ok (.ifCond .eq 35, 3) := by decide +kernel
theorem dX8_qFloor_21 : decode cX8_qFloor 21 = .ok (.lload_n 0, 1) := by decide +kernel
theorem dX8_qFloor_22 : decode cX8_qFloor 22 = .ok (.lconst 0, 1) := by decide +kernel
theorem dX8_qFloor_23 : decode cX8_qFloor 23 = .ok (.lcmp, 1) := by decide +kernel
theorem dX8_qFloor_24 : decode cX8_qFloor 24 = .ok (.ifCond .ge 7, 3) := by decide +kernel
theorem dX8_qFloor_27 : decode cX8_qFloor 27 = .ok (.iconst 1, 1) := by decide +kernel
theorem dX8_qFloor_28 : decode cX8_qFloor 28 = .ok (.goto 4, 3) := by decide +kernel
theorem dX8_qFloor_31 : decode cX8_qFloor 31 = .ok (.iconst 0, 1) := by decide +kernel
theorem dX8_qFloor_32 : decode cX8_qFloor 32 = .ok (.lload_n 2, 1) := by decide +kernel
theorem dX8_qFloor_33 : decode cX8_qFloor 33 = .ok (.lconst 0, 1) := by decide +kernel
theorem dX8_qFloor_34 : decode cX8_qFloor 34 = .ok (.lcmp, 1) := by decide +kernel
theorem dX8_qFloor_35 : decode cX8_qFloor 35 = .ok (.ifCond .ge 7, 3) := by decide +kernel
theorem dX8_qFloor_38 : decode cX8_qFloor 38 = .ok (.iconst 1, 1) := by decide +kernel
theorem dX8_qFloor_39 : decode cX8_qFloor 39 = .ok (.goto 4, 3) := by decide +kernel
theorem dX8_qFloor_42 : decode cX8_qFloor 42 = .ok (.iconst 0, 1) := by decide +kernel
theorem dX8_qFloor_43 : decode cX8_qFloor 43 = .ok (.if_icmp .eq 10, 3) := by decide +kernel
theorem dX8_qFloor_46 : decode cX8_qFloor 46 = .ok (.lload 4, 2) := by decide +kernel
theorem dX8_qFloor_48 : decode cX8_qFloor 48 = .ok (.lconst 1, 1) := by decide +kernel
theorem dX8_qFloor_49 : decode cX8_qFloor 49 = .ok (.lsub, 1) := by decide +kernel
theorem dX8_qFloor_50 : decode cX8_qFloor 50 = .ok (.goto 5, 3) := by decide +kernel
theorem dX8_qFloor_53 : decode cX8_qFloor 53 = .ok (.lload 4, 2) := by decide +kernel
theorem dX8_qFloor_55 : decode cX8_qFloor 55 = .ok (.lreturn, 1) := by decide +kernel
theorem dX8_qPuts_0 : decode cX8_qPuts 0 = .ok (.aload_n 0, 1) := by decide +kernel
theorem dX8_qPuts_1 : decode cX8_qPuts 1 = .ok (.getfield 281, 3) := by decide +kernel
theorem dX8_qPuts_4 : decode cX8_qPuts 4 = .ok (.aload_n 0, 1) := by decide +kernel
theorem dX8_qPuts_5 : decode cX8_qPuts 5 = .ok (.getfield 447, 3) := by decide +kernel
theorem dX8_qPuts_8 : decode cX8_qPuts 8 = .ok (.lload_n 1, 1) := by decide +kernel
theorem dX8_qPuts_9 : decode cX8_qPuts 9 = .ok (.lastore, 1) := by decide +kernel
theorem dX8_qPuts_10 : decode cX8_qPuts 10 = .ok (.aload_n 0, 1) := by decide +kernel
theorem dX8_qPuts_11 : decode cX8_qPuts 11 = .ok (.dup, 1) := by decide +kernel
theorem dX8_qPuts_12 : decode cX8_qPuts 12 = .ok (.getfield 447, 3) := by decide +kernel
theorem dX8_qPuts_15 : decode cX8_qPuts 15 = .ok (.iconst 1, 1) := by decide +kernel
theorem dX8_qPuts_16 : decode cX8_qPuts 16 = .ok (.iadd, 1) := by decide +kernel
theorem dX8_qPuts_17 : decode cX8_qPuts 17 = .ok (.putfield 447, 3) := by decide +kernel
theorem dX8_qPuts_20 : decode cX8_qPuts 20 = .ok (.return_, 1) := by decide +kernel
theorem dX8_qJoins_0 : decode cX8_qJoins 0 = .ok (.aload_n 0, 1) := by decide +kernel
theorem dX8_qJoins_1 : decode cX8_qJoins 1 = .ok (.getfield 281, 3) := by decide +kernel
theorem dX8_qJoins_4 : decode cX8_qJoins 4 = .ok (.aload_n 0, 1) := by decide +kernel
theorem dX8_qJoins_5 : decode cX8_qJoins 5 = .ok (.getfield 447, 3) := by decide +kernel
theorem dX8_qJoins_8 : decode cX8_qJoins 8 = .ok (.iconst 1, 1) := by decide +kernel
theorem dX8_qJoins_9 : decode cX8_qJoins 9 = .ok (.isub, 1) := by decide +kernel
theorem dX8_qJoins_10 : decode cX8_qJoins 10 = .ok (.laload, 1) := by decide +kernel
theorem dX8_qJoins_11 : decode cX8_qJoins 11 = .ok (.lstore_n 2, 1) := by decide +kernel
theorem dX8_qJoins_12 : decode cX8_qJoins 12 = .ok (.aload_n 0, 1) := by decide +kernel
theorem dX8_qJoins_13 : decode cX8_qJoins 13 = .ok (.getfield 281, 3) := by decide +kernel
theorem dX8_qJoins_16 : decode cX8_qJoins 16 = .ok (.aload_n 0, 1) := by decide +kernel
theorem dX8_qJoins_17 : decode cX8_qJoins 17 = .ok (.getfield 447, 3) := by decide +kernel
theorem dX8_qJoins_20 : decode cX8_qJoins 20 = .ok (.iconst 2, 1) := by decide +kernel
theorem dX8_qJoins_21 : decode cX8_qJoins 21 = .ok (.isub, 1) := by decide +kernel
theorem dX8_qJoins_22 : decode cX8_qJoins 22 = .ok (.laload, 1) := by decide +kernel
theorem dX8_qJoins_23 : decode cX8_qJoins 23 = .ok (.lstore 4, 2) := by decide +kernel
theorem dX8_qJoins_25 : decode cX8_qJoins 25 = .ok (.aload_n 0, 1) := by decide +kernel
theorem dX8_qJoins_26 : decode cX8_qJoins 26 = .ok (.dup, 1) := by decide +kernel
theorem dX8_qJoins_27 : decode cX8_qJoins 27 = .ok (.getfield 447, 3) := by decide +kernel
theorem dX8_qJoins_30 : decode cX8_qJoins 30 = .ok (.iconst 2, 1) := by decide +kernel
theorem dX8_qJoins_31 : decode cX8_qJoins 31 = .ok (.isub, 1) := by decide +kernel
theorem dX8_qJoins_32 : decode cX8_qJoins 32 = .ok (.putfield 447, 3) := by decide +kernel
theorem dX8_qJoins_35 : decode cX8_qJoins 35 = .ok (.iload_n 1, 1) := by decide +kernel
theorem dX8_qJoins_36 : decode cX8_qJoins 36 = .ok (.tableswitch 219 1 10 #[56, 70, 84, 98, 111, 131, 151, 170, 189, 208], 56) := by decide +kernel
theorem dX8_qJoins_92 : decode cX8_qJoins 92 = .ok (.aload_n 0, 1) := by decide +kernel
theorem dX8_qJoins_93 : decode cX8_qJoins 93 = .ok (.lload 4, 2) := by decide +kernel
theorem dX8_qJoins_95 : decode cX8_qJoins 95 = .ok (.lload_n 2, 1) := by decide +kernel
theorem dX8_qJoins_96 : decode cX8_qJoins 96 = .ok (.ladd, 1) := by decide +kernel
theorem dX8_qJoins_97 : decode cX8_qJoins 97 = .ok (.invokestatic 692, 3) := by decide +kernel
theorem dX8_qJoins_100 : decode cX8_qJoins 100 = .ok (.invokevirtual 450, 3) := by decide +kernel
theorem dX8_qJoins_103 : decode cX8_qJoins 103 = .ok (.goto 170, 3) := by decide +kernel
theorem dX8_qJoins_106 : decode cX8_qJoins 106 = .ok (.aload_n 0, 1) := by decide +kernel
theorem dX8_qJoins_107 : decode cX8_qJoins 107 = .ok (.lload 4, 2) := by decide +kernel
theorem dX8_qJoins_109 : decode cX8_qJoins 109 = .ok (.lload_n 2, 1) := by decide +kernel
theorem dX8_qJoins_110 : decode cX8_qJoins 110 = .ok (.lsub, 1) := by decide +kernel
theorem dX8_qJoins_111 : decode cX8_qJoins 111 = .ok (.invokestatic 692, 3) := by decide +kernel
theorem dX8_qJoins_114 : decode cX8_qJoins 114 = .ok (.invokevirtual 450, 3) := by decide +kernel
theorem dX8_qJoins_117 : decode cX8_qJoins 117 = .ok (.goto 156, 3) := by decide +kernel
theorem dX8_qJoins_120 : decode cX8_qJoins 120 = .ok (.aload_n 0, 1) := by decide +kernel
theorem dX8_qJoins_121 : decode cX8_qJoins 121 = .ok (.lload 4, 2) := by decide +kernel
theorem dX8_qJoins_123 : decode cX8_qJoins 123 = .ok (.lload_n 2, 1) := by decide +kernel
theorem dX8_qJoins_124 : decode cX8_qJoins 124 = .ok (.lmul, 1) := by decide +kernel
theorem dX8_qJoins_125 : decode cX8_qJoins 125 = .ok (.invokestatic 692, 3) := by decide +kernel
theorem dX8_qJoins_128 : decode cX8_qJoins 128 = .ok (.invokevirtual 450, 3) := by decide +kernel
theorem dX8_qJoins_131 : decode cX8_qJoins 131 = .ok (.goto 142, 3) := by decide +kernel
theorem dX8_qJoins_134 : decode cX8_qJoins 134 = .ok (.aload_n 0, 1) := by decide +kernel
theorem dX8_qJoins_135 : decode cX8_qJoins 135 = .ok (.lload 4, 2) := by decide +kernel
theorem dX8_qJoins_137 : decode cX8_qJoins 137 = .ok (.lload_n 2, 1) := by decide +kernel
theorem dX8_qJoins_138 : decode cX8_qJoins 138 = .ok (.invokestatic 696, 3) := by decide +kernel
theorem dX8_qJoins_141 : decode cX8_qJoins 141 = .ok (.invokevirtual 450, 3) := by decide +kernel
theorem dX8_qJoins_144 : decode cX8_qJoins 144 = .ok (.goto 129, 3) := by decide +kernel
theorem dX8_qJoins_147 : decode cX8_qJoins 147 = .ok (.aload_n 0, 1) := by decide +kernel
theorem dX8_qJoins_148 : decode cX8_qJoins 148 = .ok (.lload 4, 2) := by decide +kernel
theorem dX8_qJoins_150 : decode cX8_qJoins 150 = .ok (.lload_n 2, 1) := by decide +kernel
theorem dX8_qJoins_151 : decode cX8_qJoins 151 = .ok (.lcmp, 1) := by decide +kernel
theorem dX8_qJoins_152 : decode cX8_qJoins 152 = .ok (.ifCond .ge 8, 3) := by decide +kernel
theorem dX8_qJoins_155 : decode cX8_qJoins 155 = .ok (.lload 4, 2) := by decide +kernel
theorem dX8_qJoins_157 : decode cX8_qJoins 157 = .ok (.goto 4, 3) := by decide +kernel
theorem dX8_qJoins_160 : decode cX8_qJoins 160 = .ok (.lload_n 2, 1) := by decide +kernel
theorem dX8_qJoins_161 : decode cX8_qJoins 161 = .ok (.invokevirtual 450, 3) := by decide +kernel
theorem dX8_qJoins_164 : decode cX8_qJoins 164 = .ok (.goto 109, 3) := by decide +kernel
theorem dX8_qJoins_167 : decode cX8_qJoins 167 = .ok (.aload_n 0, 1) := by decide +kernel
theorem dX8_qJoins_168 : decode cX8_qJoins 168 = .ok (.lload 4, 2) := by decide +kernel
theorem dX8_qJoins_170 : decode cX8_qJoins 170 = .ok (.lload_n 2, 1) := by decide +kernel
theorem dX8_qJoins_171 : decode cX8_qJoins 171 = .ok (.lcmp, 1) := by decide +kernel
theorem dX8_qJoins_172 : decode cX8_qJoins 172 = .ok (.ifCond .le 8, 3) := by decide +kernel
theorem dX8_qJoins_175 : decode cX8_qJoins 175 = .ok (.lload 4, 2) := by decide +kernel
theorem dX8_qJoins_177 : decode cX8_qJoins 177 = .ok (.goto 4, 3) := by decide +kernel
theorem dX8_qJoins_180 : decode cX8_qJoins 180 = .ok (.lload_n 2, 1) := by decide +kernel
theorem dX8_qJoins_181 : decode cX8_qJoins 181 = .ok (.invokevirtual 450, 3) := by decide +kernel
theorem dX8_qJoins_184 : decode cX8_qJoins 184 = .ok (.goto 89, 3) := by decide +kernel
theorem dX8_qJoins_187 : decode cX8_qJoins 187 = .ok (.aload_n 0, 1) := by decide +kernel
theorem dX8_qJoins_188 : decode cX8_qJoins 188 = .ok (.lload 4, 2) := by decide +kernel
theorem dX8_qJoins_190 : decode cX8_qJoins 190 = .ok (.lload_n 2, 1) := by decide +kernel
theorem dX8_qJoins_191 : decode cX8_qJoins 191 = .ok (.lcmp, 1) := by decide +kernel
theorem dX8_qJoins_192 : decode cX8_qJoins 192 = .ok (.ifCond .ge 7, 3) := by decide +kernel
theorem dX8_qJoins_195 : decode cX8_qJoins 195 = .ok (.lconst 1, 1) := by decide +kernel
theorem dX8_qJoins_196 : decode cX8_qJoins 196 = .ok (.goto 4, 3) := by decide +kernel
theorem dX8_qJoins_199 : decode cX8_qJoins 199 = .ok (.lconst 0, 1) := by decide +kernel
theorem dX8_qJoins_200 : decode cX8_qJoins 200 = .ok (.invokevirtual 450, 3) := by decide +kernel
theorem dX8_qJoins_203 : decode cX8_qJoins 203 = .ok (.goto 70, 3) := by decide +kernel
theorem dX8_qJoins_206 : decode cX8_qJoins 206 = .ok (.aload_n 0, 1) := by decide +kernel
theorem dX8_qJoins_207 : decode cX8_qJoins 207 = .ok (.lload 4, 2) := by decide +kernel
theorem dX8_qJoins_209 : decode cX8_qJoins 209 = .ok (.lload_n 2, 1) := by decide +kernel
theorem dX8_qJoins_210 : decode cX8_qJoins 210 = .ok (.lcmp, 1) := by decide +kernel
theorem dX8_qJoins_211 : decode cX8_qJoins 211 = .ok (.ifCond .le 7, 3) := by decide +kernel
theorem dX8_qJoins_214 : decode cX8_qJoins 214 = .ok (.lconst 1, 1) := by decide +kernel
theorem dX8_qJoins_215 : decode cX8_qJoins 215 = .ok (.goto 4, 3) := by decide +kernel
theorem dX8_qJoins_218 : decode cX8_qJoins 218 = .ok (.lconst 0, 1) := by decide +kernel
theorem dX8_qJoins_219 : decode cX8_qJoins 219 = .ok (.invokevirtual 450, 3) := by decide +kernel
theorem dX8_qJoins_222 : decode cX8_qJoins 222 = .ok (.goto 51, 3) := by decide +kernel
theorem dX8_qJoins_225 : decode cX8_qJoins 225 = .ok (.aload_n 0, 1) := by decide +kernel
theorem dX8_qJoins_226 : decode cX8_qJoins 226 = .ok (.lload 4, 2) := by decide +kernel
theorem dX8_qJoins_228 : decode cX8_qJoins 228 = .ok (.lload_n 2, 1) := by decide +kernel
theorem dX8_qJoins_229 : decode cX8_qJoins 229 = .ok (.lcmp, 1) := by decide +kernel
theorem dX8_qJoins_230 : decode cX8_qJoins 230 = .ok (.ifCond .ne 7, 3) := by decide +kernel
theorem dX8_qJoins_233 : decode cX8_qJoins 233 = .ok (.lconst 1, 1) := by decide +kernel
theorem dX8_qJoins_234 : decode cX8_qJoins 234 = .ok (.goto 4, 3) := by decide +kernel
theorem dX8_qJoins_237 : decode cX8_qJoins 237 = .ok (.lconst 0, 1) := by decide +kernel
theorem dX8_qJoins_238 : decode cX8_qJoins 238 = .ok (.invokevirtual 450, 3) := by decide +kernel
theorem dX8_qJoins_241 : decode cX8_qJoins 241 = .ok (.goto 32, 3) := by decide +kernel
theorem dX8_qJoins_244 : decode cX8_qJoins 244 = .ok (.aload_n 0, 1) := by decide +kernel
theorem dX8_qJoins_245 : decode cX8_qJoins 245 = .ok (.lload 4, 2) := by decide +kernel
theorem dX8_qJoins_247 : decode cX8_qJoins 247 = .ok (.lload_n 2, 1) := by decide +kernel
theorem dX8_qJoins_248 : decode cX8_qJoins 248 = .ok (.lmul, 1) := by decide +kernel
theorem dX8_qJoins_249 : decode cX8_qJoins 249 = .ok (.invokevirtual 450, 3) := by decide +kernel
theorem dX8_qJoins_252 : decode cX8_qJoins 252 = .ok (.goto 21, 3) := by decide +kernel
theorem dX8_qJoins_255 : decode cX8_qJoins 255 = .ok (.aload_n 0, 1) := by decide +kernel
theorem dX8_qJoins_256 : decode cX8_qJoins 256 = .ok (.lload 4, 2) := by decide +kernel
theorem dX8_qJoins_258 : decode cX8_qJoins 258 = .ok (.lload_n 2, 1) := by decide +kernel
theorem dX8_qJoins_259 : decode cX8_qJoins 259 = .ok (.ladd, 1) := by decide +kernel
theorem dX8_qJoins_260 : decode cX8_qJoins 260 = .ok (.lconst 0, 1) := by decide +kernel
theorem dX8_qJoins_261 : decode cX8_qJoins 261 = .ok (.lcmp, 1) := by decide +kernel
theorem dX8_qJoins_262 : decode cX8_qJoins 262 = .ok (.ifCond .le 7, 3) := by decide +kernel
theorem dX8_qJoins_265 : decode cX8_qJoins 265 = .ok (.lconst 1, 1) := by decide +kernel
theorem dX8_qJoins_266 : decode cX8_qJoins 266 = .ok (.goto 4, 3) := by decide +kernel
theorem dX8_qJoins_269 : decode cX8_qJoins 269 = .ok (.lconst 0, 1) := by decide +kernel
theorem dX8_qJoins_270 : decode cX8_qJoins 270 = .ok (.invokevirtual 450, 3) := by decide +kernel
theorem dX8_qJoins_273 : decode cX8_qJoins 273 = .ok (.return_, 1) := by decide +kernel
theorem dX8_qPartOf_0 : decode cX8_qPartOf 0 = .ok (.iload_n 1, 1) := by decide +kernel
theorem dX8_qPartOf_1 : decode cX8_qPartOf 1 = .ok (.tableswitch 134 0 8 #[51, 61, 78, 84, 90, 100, 106, 112, 123], 51) := by decide +kernel
theorem dX8_qPartOf_52 : decode cX8_qPartOf 52 = .ok (.aload_n 0, 1) := by decide +kernel
theorem dX8_qPartOf_53 : decode cX8_qPartOf 53 = .ok (.aload_n 0, 1) := by decide +kernel
theorem dX8_qPartOf_54 : decode cX8_qPartOf 54 = .ok (.getfield 441, 3) := by decide +kernel
theorem dX8_qPartOf_57 : decode cX8_qPartOf 57 = .ok (.invokevirtual 434, 3) := by decide +kernel
theorem dX8_qPartOf_60 : decode cX8_qPartOf 60 = .ok (.i2l, 1) := by decide +kernel
theorem dX8_qPartOf_61 : decode cX8_qPartOf 61 = .ok (.lreturn, 1) := by decide +kernel
theorem dX8_qPartOf_62 : decode cX8_qPartOf 62 = .ok (.aload_n 0, 1) := by decide +kernel
theorem dX8_qPartOf_63 : decode cX8_qPartOf 63 = .ok (.aload_n 0, 1) := by decide +kernel
theorem dX8_qPartOf_64 : decode cX8_qPartOf 64 = .ok (.getfield 441, 3) := by decide +kernel
theorem dX8_qPartOf_67 : decode cX8_qPartOf 67 = .ok (.invokevirtual 573, 3) := by decide +kernel
theorem dX8_qPartOf_70 : decode cX8_qPartOf 70 = .ok (.ifCond .eq 7, 3) := by decide +kernel
theorem dX8_qPartOf_73 : decode cX8_qPartOf 73 = .ok (.lconst 1, 1) := by decide +kernel
theorem dX8_qPartOf_74 : decode cX8_qPartOf 74 = .ok (.goto 4, 3) := by decide +kernel
theorem dX8_qPartOf_77 : decode cX8_qPartOf 77 = .ok (.lconst 0, 1) := by decide +kernel
theorem dX8_qPartOf_78 : decode cX8_qPartOf 78 = .ok (.lreturn, 1) := by decide +kernel
theorem dX8_qPartOf_79 : decode cX8_qPartOf 79 = .ok (.aload_n 0, 1) := by decide +kernel
theorem dX8_qPartOf_80 : decode cX8_qPartOf 80 = .ok (.getfield 444, 3) := by decide +kernel
theorem dX8_qPartOf_83 : decode cX8_qPartOf 83 = .ok (.i2l, 1) := by decide +kernel
theorem dX8_qPartOf_84 : decode cX8_qPartOf 84 = .ok (.lreturn, 1) := by decide +kernel
theorem dX8_qPartOf_85 : decode cX8_qPartOf 85 = .ok (.aload_n 0, 1) := by decide +kernel
theorem dX8_qPartOf_86 : decode cX8_qPartOf 86 = .ok (.getfield 441, 3) := by decide +kernel
theorem dX8_qPartOf_89 : decode cX8_qPartOf 89 = .ok (.i2l, 1) := by decide +kernel
theorem dX8_qPartOf_90 : decode cX8_qPartOf 90 = .ok (.lreturn, 1) := by decide +kernel
theorem dX8_qPartOf_91 : decode cX8_qPartOf 91 = .ok (.aload_n 0, 1) := by decide +kernel
theorem dX8_qPartOf_92 : decode cX8_qPartOf 92 = .ok (.aload_n 0, 1) := by decide +kernel
theorem dX8_qPartOf_93 : decode cX8_qPartOf 93 = .ok (.getfield 441, 3) := by decide +kernel
theorem dX8_qPartOf_96 : decode cX8_qPartOf 96 = .ok (.invokevirtual 538, 3) := by decide +kernel
theorem dX8_qPartOf_99 : decode cX8_qPartOf 99 = .ok (.i2l, 1) := by decide +kernel
theorem dX8_qPartOf_100 : decode cX8_qPartOf 100 = .ok (.lreturn, 1) := by decide +kernel
theorem dX8_qPartOf_101 : decode cX8_qPartOf 101 = .ok (.aload_n 0, 1) := by decide +kernel
theorem dX8_qPartOf_102 : decode cX8_qPartOf 102 = .ok (.invokevirtual 489, 3) := by decide +kernel
theorem dX8_qPartOf_105 : decode cX8_qPartOf 105 = .ok (.i2l, 1) := by decide +kernel
theorem dX8_qPartOf_106 : decode cX8_qPartOf 106 = .ok (.lreturn, 1) := by decide +kernel
theorem dX8_qPartOf_107 : decode cX8_qPartOf 107 = .ok (.aload_n 0, 1) := by decide +kernel
theorem dX8_qPartOf_108 : decode cX8_qPartOf 108 = .ok (.invokevirtual 700, 3) := by decide +kernel
theorem dX8_qPartOf_111 : decode cX8_qPartOf 111 = .ok (.i2l, 1) := by decide +kernel
theorem dX8_qPartOf_112 : decode cX8_qPartOf 112 = .ok (.lreturn, 1) := by decide +kernel
theorem dX8_qPartOf_113 : decode cX8_qPartOf 113 = .ok (.aload_n 0, 1) := by decide +kernel
theorem dX8_qPartOf_114 : decode cX8_qPartOf 114 = .ok (.getfield 703, 3) := by decide +kernel
theorem dX8_qPartOf_117 : decode cX8_qPartOf 117 = .ok (.aload_n 0, 1) := by decide +kernel
theorem dX8_qPartOf_118 : decode cX8_qPartOf 118 = .ok (.getfield 444, 3) := by decide +kernel
theorem dX8_qPartOf_121 : decode cX8_qPartOf 121 = .ok (.isub, 1) := by decide +kernel
theorem dX8_qPartOf_122 : decode cX8_qPartOf 122 = .ok (.i2l, 1) := by decide +kernel
theorem dX8_qPartOf_123 : decode cX8_qPartOf 123 = .ok (.lreturn, 1) := by decide +kernel
theorem dX8_qPartOf_124 : decode cX8_qPartOf 124 = .ok (.aload_n 0, 1) := by decide +kernel
theorem dX8_qPartOf_125 : decode cX8_qPartOf 125 = .ok (.getfield 151, 3) := by decide +kernel
theorem dX8_qPartOf_128 : decode cX8_qPartOf 128 = .ok (.aload_n 0, 1) := by decide +kernel
theorem dX8_qPartOf_129 : decode cX8_qPartOf 129 = .ok (.getfield 441, 3) := by decide +kernel
theorem dX8_qPartOf_132 : decode cX8_qPartOf 132 = .ok (.iaload, 1) := by decide +kernel
theorem dX8_qPartOf_133 : decode cX8_qPartOf 133 = .ok (.i2l, 1) := by decide +kernel
theorem dX8_qPartOf_134 : decode cX8_qPartOf 134 = .ok (.lreturn, 1) := by decide +kernel
theorem dX8_qPartOf_135 : decode cX8_qPartOf 135 = .ok (.aload_n 0, 1) := by decide +kernel
theorem dX8_qPartOf_136 : decode cX8_qPartOf 136 = .ok (.getfield 154, 3) := by decide +kernel
theorem dX8_qPartOf_139 : decode cX8_qPartOf 139 = .ok (.aload_n 0, 1) := by decide +kernel
theorem dX8_qPartOf_140 : decode cX8_qPartOf 140 = .ok (.getfield 441, 3) := by decide +kernel
theorem dX8_qPartOf_143 : decode cX8_qPartOf 143 = .ok (.iaload, 1) := by decide +kernel
theorem dX8_qPartOf_144 : decode cX8_qPartOf 144 = .ok (.i2l, 1) := by decide +kernel
theorem dX8_qPartOf_145 : decode cX8_qPartOf 145 = .ok (.lreturn, 1) := by decide +kernel
theorem dX8_qOf_0 : decode cX8_qOf 0 = .ok (.iload_n 1, 1) := by decide +kernel
theorem dX8_qOf_1 : decode cX8_qOf 1 = .ok (.lookupswitch 11 #[], 11) := by decide +kernel
theorem dX8_qOf_12 : decode cX8_qOf 12 = .ok (.lload_n 2, 1) := by decide +kernel
theorem dX8_qOf_13 : decode cX8_qOf 13 = .ok (.lconst 0, 1) := by decide +kernel
theorem dX8_qOf_14 : decode cX8_qOf 14 = .ok (.aload_n 0, 1) := by decide +kernel
theorem dX8_qOf_15 : decode cX8_qOf 15 = .ok (.invokevirtual 431, 3) := by decide +kernel
theorem dX8_qOf_18 : decode cX8_qOf 18 = .ok (.iconst 1, 1) := by decide +kernel
theorem dX8_qOf_19 : decode cX8_qOf 19 = .ok (.isub, 1) := by decide +kernel
theorem dX8_qOf_20 : decode cX8_qOf 20 = .ok (.i2l, 1) := by decide +kernel
theorem dX8_qOf_21 : decode cX8_qOf 21 = .ok (.invokestatic 333, 3) := by decide +kernel
theorem dX8_qOf_24 : decode cX8_qOf 24 = .ok (.ifCond .eq 13, 3) := by decide +kernel
theorem dX8_qOf_27 : decode cX8_qOf 27 = .ok (.aload_n 0, 1) := by decide +kernel
theorem dX8_qOf_28 : decode cX8_qOf 28 = .ok (.lload_n 2, 1) := by decide +kernel
theorem dX8_qOf_29 : decode cX8_qOf 29 = .ok (.l2i, 1) := by decide +kernel
theorem dX8_qOf_30 : decode cX8_qOf 30 = .ok (.invokevirtual 434, 3) := by decide +kernel
theorem dX8_qOf_33 : decode cX8_qOf 33 = .ok (.i2l, 1) := by decide +kernel
theorem dX8_qOf_34 : decode cX8_qOf 34 = .ok (.goto 4, 3) := by decide +kernel
theorem dX8_qOf_37 : decode cX8_qOf 37 = .ok (.lconst 0, 1) := by decide +kernel
theorem dX8_qOf_38 : decode cX8_qOf 38 = .ok (.lreturn, 1) := by decide +kernel
theorem dX8_qTold_0 : decode cX8_qTold 0 = .ok (.aload_n 0, 1) := by decide +kernel
theorem dX8_qTold_1 : decode cX8_qTold 1 = .ok (.iconst 0, 1) := by decide +kernel
theorem dX8_qTold_2 : decode cX8_qTold 2 = .ok (.putfield 447, 3) := by decide +kernel
theorem dX8_qTold_5 : decode cX8_qTold 5 = .ok (.iconst 0, 1) := by decide +kernel
theorem dX8_qTold_6 : decode cX8_qTold 6 = .ok (.istore_n 2, 1) := by decide +kernel
theorem dX8_qTold_7 : decode cX8_qTold 7 = .ok (.iload_n 2, 1) := by decide +kernel
theorem dX8_qTold_8 : decode cX8_qTold 8 = .ok (.aload_n 0, 1) := by decide +kernel
theorem dX8_qTold_9 : decode cX8_qTold 9 = .ok (.getfield 383, 3) := by decide +kernel
theorem dX8_qTold_12 : decode cX8_qTold 12 = .ok (.if_icmp .ge 156, 3) := by decide +kernel
theorem dX8_qTold_15 : decode cX8_qTold 15 = .ok (.aload_n 0, 1) := by decide +kernel
theorem dX8_qTold_16 : decode cX8_qTold 16 = .ok (.getfield 275, 3) := by decide +kernel
theorem dX8_qTold_19 : decode cX8_qTold 19 = .ok (.iload_n 2, 1) := by decide +kernel
theorem dX8_qTold_20 : decode cX8_qTold 20 = .ok (.iaload, 1) := by decide +kernel
theorem dX8_qTold_21 : decode cX8_qTold 21 = .ok (.istore_n 3, 1) := by decide +kernel
theorem dX8_qTold_22 : decode cX8_qTold 22 = .ok (.iload_n 3, 1) := by decide +kernel
theorem dX8_qTold_23 : decode cX8_qTold 23 = .ok (.sipush 1000, 3) := by decide +kernel
theorem dX8_qTold_26 : decode cX8_qTold 26 = .ok (.if_icmp .lt 16, 3) := by decide +kernel
theorem dX8_qTold_29 : decode cX8_qTold 29 = .ok (.aload_n 0, 1) := by decide +kernel
theorem dX8_qTold_30 : decode cX8_qTold 30 = .ok (.iload_n 3, 1) := by decide +kernel
theorem dX8_qTold_31 : decode cX8_qTold 31 = .ok (.sipush 1000, 3) := by decide +kernel
theorem dX8_qTold_34 : decode cX8_qTold 34 = .ok (.isub, 1) := by decide +kernel
theorem dX8_qTold_35 : decode cX8_qTold 35 = .ok (.i2l, 1) := by decide +kernel
theorem dX8_qTold_36 : decode cX8_qTold 36 = .ok (.invokevirtual 450, 3) := by decide +kernel
theorem dX8_qTold_39 : decode cX8_qTold 39 = .ok (.goto 123, 3) := by decide +kernel
theorem dX8_qTold_42 : decode cX8_qTold 42 = .ok (.iload_n 3, 1) := by decide +kernel
theorem dX8_qTold_43 : decode cX8_qTold 43 = .ok (.bipush 60, 2) := by decide +kernel
theorem dX8_qTold_45 : decode cX8_qTold 45 = .ok (.if_icmp .lt 40, 3) := by decide +kernel
theorem dX8_qTold_48 : decode cX8_qTold 48 = .ok (.aload_n 0, 1) := by decide +kernel
theorem dX8_qTold_49 : decode cX8_qTold 49 = .ok (.getfield 281, 3) := by decide +kernel
theorem dX8_qTold_52 : decode cX8_qTold 52 = .ok (.aload_n 0, 1) := by decide +kernel
theorem dX8_qTold_53 : decode cX8_qTold 53 = .ok (.getfield 447, 3) := by decide +kernel
theorem dX8_qTold_56 : decode cX8_qTold 56 = .ok (.iconst 1, 1) := by decide +kernel
theorem dX8_qTold_57 : decode cX8_qTold 57 = .ok (.isub, 1) := by decide +kernel
theorem dX8_qTold_58 : decode cX8_qTold 58 = .ok (.aload_n 0, 1) := by decide +kernel
theorem dX8_qTold_59 : decode cX8_qTold 59 = .ok (.iload_n 3, 1) := by decide +kernel
theorem dX8_qTold_60 : decode cX8_qTold 60 = .ok (.bipush 60, 2) := by decide +kernel
theorem dX8_qTold_62 : decode cX8_qTold 62 = .ok (.isub, 1) := by decide +kernel
theorem dX8_qTold_63 : decode cX8_qTold 63 = .ok (.aload_n 0, 1) := by decide +kernel
theorem dX8_qTold_64 : decode cX8_qTold 64 = .ok (.getfield 281, 3) := by decide +kernel
theorem dX8_qTold_67 : decode cX8_qTold 67 = .ok (.aload_n 0, 1) := by decide +kernel
theorem dX8_qTold_68 : decode cX8_qTold 68 = .ok (.getfield 447, 3) := by decide +kernel
theorem dX8_qTold_71 : decode cX8_qTold 71 = .ok (.iconst 1, 1) := by decide +kernel
theorem dX8_qTold_72 : decode cX8_qTold 72 = .ok (.isub, 1) := by decide +kernel
theorem dX8_qTold_73 : decode cX8_qTold 73 = .ok (.laload, 1) := by decide +kernel
theorem dX8_qTold_74 : decode cX8_qTold 74 = .ok (.iload_n 1, 1) := by decide +kernel
theorem dX8_qTold_75 : decode cX8_qTold 75 = .ok (.invokevirtual 706, 3) := by decide +kernel
theorem dX8_qTold_78 : decode cX8_qTold 78 = .ok (.invokestatic 692, 3) := by decide +kernel
theorem dX8_qTold_81 : decode cX8_qTold 81 = .ok (.lastore, 1) := by decide +kernel
theorem dX8_qTold_82 : decode cX8_qTold 82 = .ok (.goto 80, 3) := by decide +kernel
theorem dX8_qTold_85 : decode cX8_qTold 85 = .ok (.iload_n 3, 1) := by decide +kernel
theorem dX8_qTold_86 : decode cX8_qTold 86 = .ok (.bipush 40, 2) := by decide +kernel
theorem dX8_qTold_88 : decode cX8_qTold 88 = .ok (.if_icmp .lt 22, 3) := by decide +kernel
theorem dX8_qTold_91 : decode cX8_qTold 91 = .ok (.aload_n 0, 1) := by decide +kernel
theorem dX8_qTold_92 : decode cX8_qTold 92 = .ok (.aload_n 0, 1) := by decide +kernel
theorem dX8_qTold_93 : decode cX8_qTold 93 = .ok (.iload_n 3, 1) := by decide +kernel
theorem dX8_qTold_94 : decode cX8_qTold 94 = .ok (.bipush 40, 2) := by decide +kernel
theorem dX8_qTold_96 : decode cX8_qTold 96 = .ok (.isub, 1) := by decide +kernel
theorem dX8_qTold_97 : decode cX8_qTold 97 = .ok (.iload_n 1, 1) := by decide +kernel
theorem dX8_qTold_98 : decode cX8_qTold 98 = .ok (.invokevirtual 454, 3) := by decide +kernel
theorem dX8_qTold_101 : decode cX8_qTold 101 = .ok (.invokestatic 692, 3) := by decide +kernel
theorem dX8_qTold_104 : decode cX8_qTold 104 = .ok (.invokevirtual 450, 3) := by decide +kernel
theorem dX8_qTold_107 : decode cX8_qTold 107 = .ok (.goto 55, 3) := by decide +kernel
theorem dX8_qTold_110 : decode cX8_qTold 110 = .ok (.iload_n 3, 1) := by decide +kernel
theorem dX8_qTold_111 : decode cX8_qTold 111 = .ok (.bipush 13, 2) := by decide +kernel
theorem dX8_qTold_113 : decode cX8_qTold 113 = .ok (.if_icmp .ne 11, 3) := by decide +kernel
theorem dX8_qTold_116 : decode cX8_qTold 116 = .ok (.aload_n 0, 1) := by decide +kernel
theorem dX8_qTold_117 : decode cX8_qTold 117 = .ok (.lconst 1, 1) := by decide +kernel
theorem dX8_qTold_118 : decode cX8_qTold 118 = .ok (.invokevirtual 450, 3) := by decide +kernel
theorem dX8_qTold_121 : decode cX8_qTold 121 = .ok (.goto 41, 3) := by decide +kernel
theorem dX8_qTold_124 : decode cX8_qTold 124 = .ok (.iload_n 3, 1) := by decide +kernel
theorem dX8_qTold_125 : decode cX8_qTold 125 = .ok (.bipush 12, 2) := by decide +kernel
theorem dX8_qTold_127 : decode cX8_qTold 127 = .ok (.if_icmp .ne 30, 3) := by decide +kernel
theorem dX8_qTold_130 : decode cX8_qTold 130 = .ok (.aload_n 0, 1) := by decide +kernel
theorem dX8_qTold_131 : decode cX8_qTold 131 = .ok (.getfield 281, 3) := by decide +kernel
theorem dX8_qTold_134 : decode cX8_qTold 134 = .ok (.aload_n 0, 1) := by decide +kernel
theorem dX8_qTold_135 : decode cX8_qTold 135 = .ok (.getfield 447, 3) := by decide +kernel
theorem dX8_qTold_138 : decode cX8_qTold 138 = .ok (.iconst 1, 1) := by decide +kernel
theorem dX8_qTold_139 : decode cX8_qTold 139 = .ok (.isub, 1) := by decide +kernel
theorem dX8_qTold_140 : decode cX8_qTold 140 = .ok (.lconst 1, 1) := by decide +kernel
theorem dX8_qTold_141 : decode cX8_qTold 141 = .ok (.aload_n 0, 1) := by decide +kernel
theorem dX8_qTold_142 : decode cX8_qTold 142 = .ok (.getfield 281, 3) := by decide +kernel
theorem dX8_qTold_145 : decode cX8_qTold 145 = .ok (.aload_n 0, 1) := by decide +kernel
theorem dX8_qTold_146 : decode cX8_qTold 146 = .ok (.getfield 447, 3) := by decide +kernel
theorem dX8_qTold_149 : decode cX8_qTold 149 = .ok (.iconst 1, 1) := by decide +kernel
theorem dX8_qTold_150 : decode cX8_qTold 150 = .ok (.isub, 1) := by decide +kernel
theorem dX8_qTold_151 : decode cX8_qTold 151 = .ok (.laload, 1) := by decide +kernel
theorem dX8_qTold_152 : decode cX8_qTold 152 = .ok (.lsub, 1) := by decide +kernel
theorem dX8_qTold_153 : decode cX8_qTold 153 = .ok (.lastore, 1) := by decide +kernel
theorem dX8_qTold_154 : decode cX8_qTold 154 = .ok (.goto 8, 3) := by decide +kernel
theorem dX8_qTold_157 : decode cX8_qTold 157 = .ok (.aload_n 0, 1) := by decide +kernel
theorem dX8_qTold_158 : decode cX8_qTold 158 = .ok (.iload_n 3, 1) := by decide +kernel
theorem dX8_qTold_159 : decode cX8_qTold 159 = .ok (.invokevirtual 458, 3) := by decide +kernel
theorem dX8_qTold_162 : decode cX8_qTold 162 = .ok (.iinc 2 1, 3) := by decide +kernel
theorem dX8_qTold_165 : decode cX8_qTold 165 = .ok (.goto (-158), 3) := by decide +kernel
theorem dX8_qTold_168 : decode cX8_qTold 168 = .ok (.aload_n 0, 1) := by decide +kernel
theorem dX8_qTold_169 : decode cX8_qTold 169 = .ok (.getfield 281, 3) := by decide +kernel
theorem dX8_qTold_172 : decode cX8_qTold 172 = .ok (.iconst 0, 1) := by decide +kernel
theorem dX8_qTold_173 : decode cX8_qTold 173 = .ok (.laload, 1) := by decide +kernel
theorem dX8_qTold_174 : decode cX8_qTold 174 = .ok (.lreturn, 1) := by decide +kernel
theorem dX8_qKind_0 : decode cX8_qKind 0 = .ok (.aload_n 0, 1) := by decide +kernel
theorem dX8_qKind_1 : decode cX8_qKind 1 = .ok (.aload_n 0, 1) := by decide +kernel
theorem dX8_qKind_2 : decode cX8_qKind 2 = .ok (.getfield 212, 3) := by decide +kernel
theorem dX8_qKind_5 : decode cX8_qKind 5 = .ok (.invokevirtual 317, 3) := by decide +kernel
theorem dX8_qKind_8 : decode cX8_qKind 8 = .ok (.ifCond .eq 7, 3) := by decide +kernel
theorem dX8_qKind_11 : decode cX8_qKind 11 = .ok (.iconst 0, 1) := by decide +kernel
theorem dX8_qKind_12 : decode cX8_qKind 12 = .ok (.goto 64, 3) := by decide +kernel
theorem dX8_qKind_15 : decode cX8_qKind 15 = .ok (.aload_n 0, 1) := by decide +kernel
theorem dX8_qKind_16 : decode cX8_qKind 16 = .ok (.aload_n 0, 1) := by decide +kernel
theorem dX8_qKind_17 : decode cX8_qKind 17 = .ok (.getfield 215, 3) := by decide +kernel
theorem dX8_qKind_20 : decode cX8_qKind 20 = .ok (.invokevirtual 317, 3) := by decide +kernel
theorem dX8_qKind_23 : decode cX8_qKind 23 = .ok (.ifCond .eq 7, 3) := by decide +kernel
theorem dX8_qKind_26 : decode cX8_qKind 26 = .ok (.iconst 1, 1) := by decide +kernel
theorem dX8_qKind_27 : decode cX8_qKind 27 = .ok (.goto 49, 3) := by decide +kernel
theorem dX8_qKind_30 : decode cX8_qKind 30 = .ok (.aload_n 0, 1) := by decide +kernel
theorem dX8_qKind_31 : decode cX8_qKind 31 = .ok (.aload_n 0, 1) := by decide +kernel
theorem dX8_qKind_32 : decode cX8_qKind 32 = .ok (.getfield 218, 3) := by decide +kernel
theorem dX8_qKind_35 : decode cX8_qKind 35 = .ok (.invokevirtual 317, 3) := by decide +kernel
theorem dX8_qKind_38 : decode cX8_qKind 38 = .ok (.ifCond .eq 7, 3) := by decide +kernel
theorem dX8_qKind_41 : decode cX8_qKind 41 = .ok (.iconst 2, 1) := by decide +kernel
theorem dX8_qKind_42 : decode cX8_qKind 42 = .ok (.goto 34, 3) := by decide +kernel
theorem dX8_qKind_45 : decode cX8_qKind 45 = .ok (.aload_n 0, 1) := by decide +kernel
theorem dX8_qKind_46 : decode cX8_qKind 46 = .ok (.aload_n 0, 1) := by decide +kernel
theorem dX8_qKind_47 : decode cX8_qKind 47 = .ok (.getfield 221, 3) := by decide +kernel
theorem dX8_qKind_50 : decode cX8_qKind 50 = .ok (.invokevirtual 317, 3) := by decide +kernel
theorem dX8_qKind_53 : decode cX8_qKind 53 = .ok (.ifCond .eq 7, 3) := by decide +kernel
theorem dX8_qKind_56 : decode cX8_qKind 56 = .ok (.iconst 3, 1) := by decide +kernel
theorem dX8_qKind_57 : decode cX8_qKind 57 = .ok (.goto 19, 3) := by decide +kernel
theorem dX8_qKind_60 : decode cX8_qKind 60 = .ok (.aload_n 0, 1) := by decide +kernel
theorem dX8_qKind_61 : decode cX8_qKind 61 = .ok (.aload_n 0, 1) := by decide +kernel
theorem dX8_qKind_62 : decode cX8_qKind 62 = .ok (.getfield 224, 3) := by decide +kernel
theorem dX8_qKind_65 : decode cX8_qKind 65 = .ok (.invokevirtual 317, 3) := by decide +kernel
theorem dX8_qKind_68 : decode cX8_qKind 68 = .ok (.ifCond .eq 7, 3) := by decide +kernel
theorem dX8_qKind_71 : decode cX8_qKind 71 = .ok (.iconst 4, 1) := by decide +kernel
theorem dX8_qKind_72 : decode cX8_qKind 72 = .ok (.goto 4, 3) := by decide +kernel
theorem dX8_qKind_75 : decode cX8_qKind 75 = .ok (.iconst 5, 1) := by decide +kernel
theorem dX8_qKind_76 : decode cX8_qKind 76 = .ok (.istore_n 1, 1) := by decide +kernel
theorem dX8_qKind_77 : decode cX8_qKind 77 = .ok (.iload_n 1, 1) := by decide +kernel
theorem dX8_qKind_78 : decode cX8_qKind 78 = .ok (.iconst 5, 1) := by decide +kernel
theorem dX8_qKind_79 : decode cX8_qKind 79 = .ok (.if_icmp .ne 11, 3) := by decide +kernel
theorem dX8_qKind_82 : decode cX8_qKind 82 = .ok (.aload_n 0, 1) := by decide +kernel
theorem dX8_qKind_83 : decode cX8_qKind 83 = .ok (.aload_n 0, 1) := by decide +kernel
theorem dX8_qKind_84 : decode cX8_qKind 84 = .ok (.getfield 227, 3) := by decide +kernel
theorem dX8_qKind_87 : decode cX8_qKind 87 = .ok (.invokevirtual 356, 3) := by decide +kernel
theorem dX8_qKind_90 : decode cX8_qKind 90 = .ok (.iload_n 1, 1) := by decide +kernel
theorem dX8_qKind_91 : decode cX8_qKind 91 = .ok (.ireturn, 1) := by decide +kernel
theorem dX8_qTakes_0 : decode cX8_qTakes 0 = .ok (.iload_n 1, 1) := by decide +kernel
theorem dX8_qTakes_1 : decode cX8_qTakes 1 = .ok (.iconst 3, 1) := by decide +kernel
theorem dX8_qTakes_2 : decode cX8_qTakes 2 = .ok (.if_icmp .ge 13, 3) := by decide +kernel
theorem dX8_qTakes_5 : decode cX8_qTakes 5 = .ok (.lload_n 2, 1) := by decide +kernel
theorem dX8_qTakes_6 : decode cX8_qTakes 6 = .ok (.lconst 1, 1) := by decide +kernel
theorem dX8_qTakes_7 : decode cX8_qTakes 7 = .ok (.lcmp, 1) := by decide +kernel
theorem dX8_qTakes_8 : decode cX8_qTakes 8 = .ok (.ifCond .ne 7, 3) := by decide +kernel
theorem dX8_qTakes_11 : decode cX8_qTakes 11 = .ok (.iconst 1, 1) := by decide +kernel
theorem dX8_qTakes_12 : decode cX8_qTakes 12 = .ok (.goto 4, 3) := by decide +kernel
theorem dX8_qTakes_15 : decode cX8_qTakes 15 = .ok (.iconst 0, 1) := by decide +kernel
theorem dX8_qTakes_16 : decode cX8_qTakes 16 = .ok (.istore 5, 2) := by decide +kernel
theorem dX8_qTakes_18 : decode cX8_qTakes 18 = .ok (.iload_n 1, 1) := by decide +kernel
theorem dX8_qTakes_19 : decode cX8_qTakes 19 = .ok (.ifCond .ne 19, 3) := by decide +kernel
theorem dX8_qTakes_22 : decode cX8_qTakes 22 = .ok (.iload 5, 2) := by decide +kernel
theorem dX8_qTakes_24 : decode cX8_qTakes 24 = .ok (.ifCond .eq 14, 3) := by decide +kernel
theorem dX8_qTakes_27 : decode cX8_qTakes 27 = .ok (.aload_n 0, 1) := by decide +kernel
theorem dX8_qTakes_28 : decode cX8_qTakes 28 = .ok (.getfield 710, 3) := by decide +kernel
theorem dX8_qTakes_31 : decode cX8_qTakes 31 = .ok (.ldc2_w 713, 3) := by decide +kernel
theorem dX8_qTakes_34 : decode cX8_qTakes 34 = .ok (.lcmp, 1) := by decide +kernel
theorem dX8_qTakes_35 : decode cX8_qTakes 35 = .ok (.ifCond .eq 13, 3) := by decide +kernel
theorem dX8_qTakes_38 : decode cX8_qTakes 38 = .ok (.iload_n 1, 1) := by decide +kernel
theorem dX8_qTakes_39 : decode cX8_qTakes 39 = .ok (.iconst 1, 1) := by decide +kernel
theorem dX8_qTakes_40 : decode cX8_qTakes 40 = .ok (.if_icmp .ne 15, 3) := by decide +kernel
theorem dX8_qTakes_43 : decode cX8_qTakes 43 = .ok (.iload 5, 2) := by decide +kernel
theorem dX8_qTakes_45 : decode cX8_qTakes 45 = .ok (.ifCond .eq 10, 3) := by decide +kernel
theorem dX8_qTakes_48 : decode cX8_qTakes 48 = .ok (.aload_n 0, 1) := by decide +kernel
theorem dX8_qTakes_49 : decode cX8_qTakes 49 = .ok (.iload 4, 2) := by decide +kernel
theorem dX8_qTakes_51 : decode cX8_qTakes 51 = .ok (.i2l, 1) := by decide +kernel
theorem dX8_qTakes_52 : decode cX8_qTakes 52 = .ok (.putfield 710, 3) := by decide +kernel
theorem dX8_qTakes_55 : decode cX8_qTakes 55 = .ok (.iload_n 1, 1) := by decide +kernel
theorem dX8_qTakes_56 : decode cX8_qTakes 56 = .ok (.iconst 2, 1) := by decide +kernel
theorem dX8_qTakes_57 : decode cX8_qTakes 57 = .ok (.if_icmp .ne 18, 3) := by decide +kernel
theorem dX8_qTakes_60 : decode cX8_qTakes 60 = .ok (.iload 5, 2) := by decide +kernel
theorem dX8_qTakes_62 : decode cX8_qTakes 62 = .ok (.ifCond .eq 13, 3) := by decide +kernel
theorem dX8_qTakes_65 : decode cX8_qTakes 65 = .ok (.aload_n 0, 1) := by decide +kernel
theorem dX8_qTakes_66 : decode cX8_qTakes 66 = .ok (.dup, 1) := by decide +kernel
theorem dX8_qTakes_67 : decode cX8_qTakes 67 = .ok (.getfield 710, 3) := by decide +kernel
theorem dX8_qTakes_70 : decode cX8_qTakes 70 = .ok (.lconst 1, 1) := by decide +kernel
theorem dX8_qTakes_71 : decode cX8_qTakes 71 = .ok (.ladd, 1) := by decide +kernel
theorem dX8_qTakes_72 : decode cX8_qTakes 72 = .ok (.putfield 710, 3) := by decide +kernel
theorem dX8_qTakes_75 : decode cX8_qTakes 75 = .ok (.iload_n 1, 1) := by decide +kernel
theorem dX8_qTakes_76 : decode cX8_qTakes 76 = .ok (.iconst 3, 1) := by decide +kernel
theorem dX8_qTakes_77 : decode cX8_qTakes 77 = .ok (.if_icmp .ne 13, 3) := by decide +kernel
theorem dX8_qTakes_80 : decode cX8_qTakes 80 = .ok (.aload_n 0, 1) := by decide +kernel
theorem dX8_qTakes_81 : decode cX8_qTakes 81 = .ok (.dup, 1) := by decide +kernel
theorem dX8_qTakes_82 : decode cX8_qTakes 82 = .ok (.getfield 710, 3) := by decide +kernel
theorem dX8_qTakes_85 : decode cX8_qTakes 85 = .ok (.lload_n 2, 1) := by decide +kernel
theorem dX8_qTakes_86 : decode cX8_qTakes 86 = .ok (.ladd, 1) := by decide +kernel
theorem dX8_qTakes_87 : decode cX8_qTakes 87 = .ok (.putfield 710, 3) := by decide +kernel
theorem dX8_qTakes_90 : decode cX8_qTakes 90 = .ok (.iload_n 1, 1) := by decide +kernel
theorem dX8_qTakes_91 : decode cX8_qTakes 91 = .ok (.iconst 3, 1) := by decide +kernel
theorem dX8_qTakes_92 : decode cX8_qTakes 92 = .ok (.if_icmp .le 41, 3) := by decide +kernel
theorem dX8_qTakes_95 : decode cX8_qTakes 95 = .ok (.aload_n 0, 1) := by decide +kernel
theorem dX8_qTakes_96 : decode cX8_qTakes 96 = .ok (.getfield 715, 3) := by decide +kernel
theorem dX8_qTakes_99 : decode cX8_qTakes 99 = .ok (.ifCond .ne 29, 3) := by decide +kernel
theorem dX8_qTakes_102 : decode cX8_qTakes 102 = .ok (.iload_n 1, 1) := by decide +kernel
theorem dX8_qTakes_103 : decode cX8_qTakes 103 = .ok (.iconst 4, 1) := by decide +kernel
theorem dX8_qTakes_104 : decode cX8_qTakes 104 = .ok (.if_icmp .ne 15, 3) := by decide +kernel
theorem dX8_qTakes_107 : decode cX8_qTakes 107 = .ok (.lload_n 2, 1) := by decide +kernel
theorem dX8_qTakes_108 : decode cX8_qTakes 108 = .ok (.aload_n 0, 1) := by decide +kernel
theorem dX8_qTakes_109 : decode cX8_qTakes 109 = .ok (.getfield 710, 3) := by decide +kernel
theorem dX8_qTakes_112 : decode cX8_qTakes 112 = .ok (.lcmp, 1) := by decide +kernel
theorem dX8_qTakes_113 : decode cX8_qTakes 113 = .ok (.ifCond .le 20, 3) := by decide +kernel
theorem dX8_qTakes_116 : decode cX8_qTakes 116 = .ok (.goto 12, 3) := by decide +kernel
theorem dX8_qTakes_119 : decode cX8_qTakes 119 = .ok (.lload_n 2, 1) := by decide +kernel
theorem dX8_qTakes_120 : decode cX8_qTakes 120 = .ok (.aload_n 0, 1) := by decide +kernel
theorem dX8_qTakes_121 : decode cX8_qTakes 121 = .ok (.getfield 710, 3) := by decide +kernel
theorem dX8_qTakes_124 : decode cX8_qTakes 124 = .ok (.lcmp, 1) := by decide +kernel
theorem dX8_qTakes_125 : decode cX8_qTakes 125 = .ok (.ifCond .ge 8, 3) := by decide +kernel
theorem dX8_qTakes_128 : decode cX8_qTakes 128 = .ok (.aload_n 0, 1) := by decide +kernel
theorem dX8_qTakes_129 : decode cX8_qTakes 129 = .ok (.lload_n 2, 1) := by decide +kernel
theorem dX8_qTakes_130 : decode cX8_qTakes 130 = .ok (.putfield 710, 3) := by decide +kernel
theorem dX8_qTakes_133 : decode cX8_qTakes 133 = .ok (.aload_n 0, 1) := by decide +kernel
theorem dX8_qTakes_134 : decode cX8_qTakes 134 = .ok (.iconst 0, 1) := by decide +kernel
theorem dX8_qTakes_135 : decode cX8_qTakes 135 = .ok (.putfield 715, 3) := by decide +kernel
theorem dX8_qTakes_138 : decode cX8_qTakes 138 = .ok (.return_, 1) := by decide +kernel
theorem dX8_ask_0 : decode cX8_ask 0 = .ok (.aload_n 0, 1) := by decide +kernel
theorem dX8_ask_1 : decode cX8_ask 1 = .ok (.iload_n 1, 1) := by decide +kernel
theorem dX8_ask_2 : decode cX8_ask 2 = .ok (.invokevirtual 505, 3) := by decide +kernel
theorem dX8_ask_5 : decode cX8_ask 5 = .ok (.ifCond .eq 15, 3) := by decide +kernel
theorem dX8_ask_8 : decode cX8_ask 8 = .ok (.iload_n 2, 1) := by decide +kernel
theorem dX8_ask_9 : decode cX8_ask 9 = .ok (.i2l, 1) := by decide +kernel
theorem dX8_ask_10 : decode cX8_ask 10 = .ok (.lconst 1, 1) := by decide +kernel
theorem dX8_ask_11 : decode cX8_ask 11 = .ok (.ldc2_w 513, 3) := by decide +kernel
theorem dX8_ask_14 : decode cX8_ask 14 = .ok (.invokestatic 333, 3) := by decide +kernel
theorem dX8_ask_17 : decode cX8_ask 17 = .ok (.ifCond .ne 12, 3) := by decide +kernel
theorem dX8_ask_20 : decode cX8_ask 20 = .ok (.aload_n 0, 1) := by decide +kernel
theorem dX8_ask_21 : decode cX8_ask 21 = .ok (.iconst 0, 1) := by decide +kernel
theorem dX8_ask_22 : decode cX8_ask 22 = .ok (.putfield 287, 3) := by decide +kernel
theorem dX8_ask_25 : decode cX8_ask 25 = .ok (.ldc2_w 718, 3) := by decide +kernel
theorem dX8_ask_28 : decode cX8_ask 28 = .ok (.lreturn, 1) := by decide +kernel
theorem dX8_ask_29 : decode cX8_ask 29 = .ok (.aload_n 0, 1) := by decide +kernel
theorem dX8_ask_30 : decode cX8_ask 30 = .ok (.aload_n 0, 1) := by decide +kernel
theorem dX8_ask_31 : decode cX8_ask 31 = .ok (.getfield 287, 3) := by decide +kernel
theorem dX8_ask_34 : decode cX8_ask 34 = .ok (.putfield 299, 3) := by decide +kernel
theorem dX8_ask_37 : decode cX8_ask 37 = .ok (.aload_n 0, 1) := by decide +kernel
theorem dX8_ask_38 : decode cX8_ask 38 = .ok (.iconst 0, 1) := by decide +kernel
theorem dX8_ask_39 : decode cX8_ask 39 = .ok (.putfield 287, 3) := by decide +kernel
theorem dX8_ask_42 : decode cX8_ask 42 = .ok (.aload_n 0, 1) := by decide +kernel
theorem dX8_ask_43 : decode cX8_ask 43 = .ok (.iconst 0, 1) := by decide +kernel
theorem dX8_ask_44 : decode cX8_ask 44 = .ok (.putfield 296, 3) := by decide +kernel
theorem dX8_ask_47 : decode cX8_ask 47 = .ok (.aload_n 0, 1) := by decide +kernel
theorem dX8_ask_48 : decode cX8_ask 48 = .ok (.iconst (-1), 1) := by decide +kernel
theorem dX8_ask_49 : decode cX8_ask 49 = .ok (.putfield 310, 3) := by decide +kernel
theorem dX8_ask_52 : decode cX8_ask 52 = .ok (.aload_n 0, 1) := by decide +kernel
theorem dX8_ask_53 : decode cX8_ask 53 = .ok (.iconst 0, 1) := by decide +kernel
theorem dX8_ask_54 : decode cX8_ask 54 = .ok (.putfield 290, 3) := by decide +kernel
theorem dX8_ask_57 : decode cX8_ask 57 = .ok (.aload_n 0, 1) := by decide +kernel
theorem dX8_ask_58 : decode cX8_ask 58 = .ok (.iconst (-1), 1) := by decide +kernel
theorem dX8_ask_59 : decode cX8_ask 59 = .ok (.putfield 293, 3) := by decide +kernel
theorem dX8_ask_62 : decode cX8_ask 62 = .ok (.aload_n 0, 1) := by decide +kernel
theorem dX8_ask_63 : decode cX8_ask 63 = .ok (.iconst 0, 1) := by decide +kernel
theorem dX8_ask_64 : decode cX8_ask 64 = .ok (.putfield 348, 3) := by decide +kernel
theorem dX8_ask_67 : decode cX8_ask 67 = .ok (.aload_n 0, 1) := by decide +kernel
theorem dX8_ask_68 : decode cX8_ask 68 = .ok (.iconst 0, 1) := by decide +kernel
theorem dX8_ask_69 : decode cX8_ask 69 = .ok (.putfield 383, 3) := by decide +kernel
theorem dX8_ask_72 : decode cX8_ask 72 = .ok (.aload_n 0, 1) := by decide +kernel
theorem dX8_ask_73 : decode cX8_ask 73 = .ok (.iconst 0, 1) := by decide +kernel
theorem dX8_ask_74 : decode cX8_ask 74 = .ok (.putfield 386, 3) := by decide +kernel
theorem dX8_ask_77 : decode cX8_ask 77 = .ok (.aload_n 0, 1) := by decide +kernel
theorem dX8_ask_78 : decode cX8_ask 78 = .ok (.iconst 0, 1) := by decide +kernel
theorem dX8_ask_79 : decode cX8_ask 79 = .ok (.putfield 389, 3) := by decide +kernel
theorem dX8_ask_82 : decode cX8_ask 82 = .ok (.aload_n 0, 1) := by decide +kernel
theorem dX8_ask_83 : decode cX8_ask 83 = .ok (.iconst 0, 1) := by decide +kernel
theorem dX8_ask_84 : decode cX8_ask 84 = .ok (.putfield 392, 3) := by decide +kernel
theorem dX8_ask_87 : decode cX8_ask 87 = .ok (.aload_n 0, 1) := by decide +kernel
theorem dX8_ask_88 : decode cX8_ask 88 = .ok (.invokevirtual 720, 3) := by decide +kernel
theorem dX8_ask_91 : decode cX8_ask 91 = .ok (.istore_n 3, 1) := by decide +kernel
theorem dX8_ask_92 : decode cX8_ask 92 = .ok (.aload_n 0, 1) := by decide +kernel
theorem dX8_ask_93 : decode cX8_ask 93 = .ok (.getfield 290, 3) := by decide +kernel
theorem dX8_ask_96 : decode cX8_ask 96 = .ok (.ifCond .ne 15, 3) := by decide +kernel
theorem dX8_ask_99 : decode cX8_ask 99 = .ok (.iload_n 3, 1) := by decide +kernel
theorem dX8_ask_100 : decode cX8_ask 100 = .ok (.iconst 3, 1) := by decide +kernel
theorem dX8_ask_101 : decode cX8_ask 101 = .ok (.if_icmp .ge 10, 3) := by decide +kernel
theorem dX8_ask_104 : decode cX8_ask 104 = .ok (.aload_n 0, 1) := by decide +kernel
theorem dX8_ask_105 : decode cX8_ask 105 = .ok (.invokevirtual 395, 3) := by decide +kernel
theorem dX8_ask_108 : decode cX8_ask 108 = .ok (.goto 14, 3) := by decide +kernel
theorem dX8_ask_111 : decode cX8_ask 111 = .ok (.aload_n 0, 1) := by decide +kernel
theorem dX8_ask_112 : decode cX8_ask 112 = .ok (.getfield 290, 3) := by decide +kernel
theorem dX8_ask_115 : decode cX8_ask 115 = .ok (.ifCond .ne 7, 3) := by decide +kernel
theorem dX8_ask_118 : decode cX8_ask 118 = .ok (.aload_n 0, 1) := by decide +kernel
theorem dX8_ask_119 : decode cX8_ask 119 = .ok (.invokevirtual 673, 3) := by decide +kernel
theorem dX8_ask_122 : decode cX8_ask 122 = .ok (.aload_n 0, 1) := by decide +kernel
theorem dX8_ask_123 : decode cX8_ask 123 = .ok (.getfield 290, 3) := by decide +kernel
theorem dX8_ask_126 : decode cX8_ask 126 = .ok (.ifCond .ne 20, 3) := by decide +kernel
theorem dX8_ask_129 : decode cX8_ask 129 = .ok (.aload_n 0, 1) := by decide +kernel
theorem dX8_ask_130 : decode cX8_ask 130 = .ok (.invokevirtual 302, 3) := by decide +kernel
theorem dX8_ask_133 : decode cX8_ask 133 = .ok (.iconst (-1), 1) := by decide +kernel
theorem dX8_ask_134 : decode cX8_ask 134 = .ok (.if_icmp .eq 12, 3) := by decide +kernel
theorem dX8_ask_137 : decode cX8_ask 137 = .ok (.aload_n 0, 1) := by decide +kernel
theorem dX8_ask_138 : decode cX8_ask 138 = .ok (.iconst 1, 1) := by decide +kernel
theorem dX8_ask_139 : decode cX8_ask 139 = .ok (.aload_n 0, 1) := by decide +kernel
theorem dX8_ask_140 : decode cX8_ask 140 = .ok (.getfield 296, 3) := by decide +kernel
theorem dX8_ask_143 : decode cX8_ask 143 = .ok (.invokevirtual 320, 3) := by decide +kernel
theorem dX8_ask_146 : decode cX8_ask 146 = .ok (.aload_n 0, 1) := by decide +kernel
theorem dX8_ask_147 : decode cX8_ask 147 = .ok (.aload_n 0, 1) := by decide +kernel
theorem dX8_ask_148 : decode cX8_ask 148 = .ok (.getfield 290, 3) := by decide +kernel
theorem dX8_ask_151 : decode cX8_ask 151 = .ok (.putfield 416, 3) := by decide +kernel
theorem dX8_ask_154 : decode cX8_ask 154 = .ok (.aload_n 0, 1) := by decide +kernel
theorem dX8_ask_155 : decode cX8_ask 155 = .ok (.aload_n 0, 1) := by decide +kernel
theorem dX8_ask_156 : decode cX8_ask 156 = .ok (.getfield 293, 3) := by decide +kernel
theorem dX8_ask_159 : decode cX8_ask 159 = .ok (.putfield 13, 3) := by decide +kernel
theorem dX8_ask_162 : decode cX8_ask 162 = .ok (.aload_n 0, 1) := by decide +kernel
theorem dX8_ask_163 : decode cX8_ask 163 = .ok (.getfield 290, 3) := by decide +kernel
theorem dX8_ask_166 : decode cX8_ask 166 = .ok (.ifCond .eq 7, 3) := by decide +kernel
theorem dX8_ask_169 : decode cX8_ask 169 = .ok (.ldc2_w 718, 3) := by decide +kernel
theorem dX8_ask_172 : decode cX8_ask 172 = .ok (.lreturn, 1) := by decide +kernel
theorem dX8_ask_173 : decode cX8_ask 173 = .ok (.aload_n 0, 1) := by decide +kernel
theorem dX8_ask_174 : decode cX8_ask 174 = .ok (.iload_n 3, 1) := by decide +kernel
theorem dX8_ask_175 : decode cX8_ask 175 = .ok (.iconst 2, 1) := by decide +kernel
theorem dX8_ask_176 : decode cX8_ask 176 = .ok (.if_icmp .ge 9, 3) := by decide +kernel
theorem dX8_ask_179 : decode cX8_ask 179 = .ok (.ldc2_w 713, 3) := by decide +kernel
theorem dX8_ask_182 : decode cX8_ask 182 = .ok (.goto 4, 3) := by decide +kernel
theorem dX8_ask_185 : decode cX8_ask 185 = .ok (.lconst 0, 1) := by decide +kernel
theorem dX8_ask_186 : decode cX8_ask 186 = .ok (.putfield 710, 3) := by decide +kernel
theorem dX8_ask_189 : decode cX8_ask 189 = .ok (.aload_n 0, 1) := by decide +kernel
theorem dX8_ask_190 : decode cX8_ask 190 = .ok (.iconst 1, 1) := by decide +kernel
theorem dX8_ask_191 : decode cX8_ask 191 = .ok (.putfield 715, 3) := by decide +kernel
theorem dX8_ask_194 : decode cX8_ask 194 = .ok (.aload_n 0, 1) := by decide +kernel
theorem dX8_ask_195 : decode cX8_ask 195 = .ok (.iload_n 1, 1) := by decide +kernel
theorem dX8_ask_196 : decode cX8_ask 196 = .ok (.iload_n 2, 1) := by decide +kernel
theorem dX8_ask_197 : decode cX8_ask 197 = .ok (.invokevirtual 528, 3) := by decide +kernel
theorem dX8_ask_200 : decode cX8_ask 200 = .ok (.iconst 0, 1) := by decide +kernel
theorem dX8_ask_201 : decode cX8_ask 201 = .ok (.istore 4, 2) := by decide +kernel
theorem dX8_ask_203 : decode cX8_ask 203 = .ok (.iload 4, 2) := by decide +kernel
theorem dX8_ask_205 : decode cX8_ask 205 = .ok (.aload_n 0, 1) := by decide +kernel
theorem dX8_ask_206 : decode cX8_ask 206 = .ok (.invokevirtual 431, 3) := by decide +kernel
theorem dX8_ask_209 : decode cX8_ask 209 = .ok (.if_icmp .ge 44, 3) := by decide +kernel
theorem dX8_ask_212 : decode cX8_ask 212 = .ok (.aload_n 0, 1) := by decide +kernel
theorem dX8_ask_213 : decode cX8_ask 213 = .ok (.iload 4, 2) := by decide +kernel
theorem dX8_ask_215 : decode cX8_ask 215 = .ok (.putfield 441, 3) := by decide +kernel
theorem dX8_ask_218 : decode cX8_ask 218 = .ok (.aload_n 0, 1) := by decide +kernel
theorem dX8_ask_219 : decode cX8_ask 219 = .ok (.aload_n 0, 1) := by decide +kernel
theorem dX8_ask_220 : decode cX8_ask 220 = .ok (.getfield 148, 3) := by decide +kernel
theorem dX8_ask_223 : decode cX8_ask 223 = .ok (.iload 4, 2) := by decide +kernel
theorem dX8_ask_225 : decode cX8_ask 225 = .ok (.iaload, 1) := by decide +kernel
theorem dX8_ask_226 : decode cX8_ask 226 = .ok (.putfield 444, 3) := by decide +kernel
theorem dX8_ask_229 : decode cX8_ask 229 = .ok (.aload_n 0, 1) := by decide +kernel
theorem dX8_ask_230 : decode cX8_ask 230 = .ok (.iload_n 2, 1) := by decide +kernel
theorem dX8_ask_231 : decode cX8_ask 231 = .ok (.putfield 703, 3) := by decide +kernel
theorem dX8_ask_234 : decode cX8_ask 234 = .ok (.aload_n 0, 1) := by decide +kernel
theorem dX8_ask_235 : decode cX8_ask 235 = .ok (.iload_n 3, 1) := by decide +kernel
theorem dX8_ask_236 : decode cX8_ask 236 = .ok (.aload_n 0, 1) := by decide +kernel
theorem dX8_ask_237 : decode cX8_ask 237 = .ok (.iload 4, 2) := by decide +kernel
theorem dX8_ask_239 : decode cX8_ask 239 = .ok (.invokevirtual 723, 3) := by decide +kernel
theorem dX8_ask_242 : decode cX8_ask 242 = .ok (.iload 4, 2) := by decide +kernel
theorem dX8_ask_244 : decode cX8_ask 244 = .ok (.invokevirtual 726, 3) := by decide +kernel
theorem dX8_ask_247 : decode cX8_ask 247 = .ok (.iinc 4 1, 3) := by decide +kernel
theorem dX8_ask_250 : decode cX8_ask 250 = .ok (.goto (-47), 3) := by decide +kernel
theorem dX8_ask_253 : decode cX8_ask 253 = .ok (.aload_n 0, 1) := by decide +kernel
theorem dX8_ask_254 : decode cX8_ask 254 = .ok (.getfield 710, 3) := by decide +kernel
theorem dX8_ask_257 : decode cX8_ask 257 = .ok (.lreturn, 1) := by decide +kernel
theorem dX8_checked_0 : decode cX8_checked 0 = .ok (.sipush 199, 3) := by decide +kernel
theorem dX8_checked_3 : decode cX8_checked 3 = .ok (.istore_n 2, 1) := by decide +kernel
theorem dX8_checked_4 : decode cX8_checked 4 = .ok (.iconst 0, 1) := by decide +kernel
theorem dX8_checked_5 : decode cX8_checked 5 = .ok (.istore_n 3, 1) := by decide +kernel
theorem dX8_checked_6 : decode cX8_checked 6 = .ok (.iload_n 3, 1) := by decide +kernel
theorem dX8_checked_7 : decode cX8_checked 7 = .ok (.iload_n 1, 1) := by decide +kernel
theorem dX8_checked_8 : decode cX8_checked 8 = .ok (.if_icmp .ge 21, 3) := by decide +kernel
theorem dX8_checked_11 : decode cX8_checked 11 = .ok (.iconst 3, 1) := by decide +kernel
theorem dX8_checked_12 : decode cX8_checked 12 = .ok (.iload_n 2, 1) := by decide +kernel
theorem dX8_checked_13 : decode cX8_checked 13 = .ok (.imul, 1) := by decide +kernel
theorem dX8_checked_14 : decode cX8_checked 14 = .ok (.aload_n 0, 1) := by decide +kernel
theorem dX8_checked_15 : decode cX8_checked 15 = .ok (.iload_n 3, 1) := by decide +kernel
theorem dX8_checked_16 : decode cX8_checked 16 = .ok (.iaload, 1) := by decide +kernel
theorem dX8_checked_17 : decode cX8_checked 17 = .ok (.iadd, 1) := by decide +kernel
theorem dX8_checked_18 : decode cX8_checked 18 = .ok (.sipush 251, 3) := by decide +kernel
theorem dX8_checked_21 : decode cX8_checked 21 = .ok (.irem, 1) := by decide +kernel
theorem dX8_checked_22 : decode cX8_checked 22 = .ok (.istore_n 2, 1) := by decide +kernel
theorem dX8_checked_23 : decode cX8_checked 23 = .ok (.iinc 3 1, 3) := by decide +kernel
theorem dX8_checked_26 : decode cX8_checked 26 = .ok (.goto (-20), 3) := by decide +kernel
theorem dX8_checked_29 : decode cX8_checked 29 = .ok (.iload_n 2, 1) := by decide +kernel
theorem dX8_checked_30 : decode cX8_checked 30 = .ok (.ireturn, 1) := by decide +kernel
theorem dX8_image_0 : decode cX8_image 0 = .ok (.iconst 0, 1) := by decide +kernel
theorem dX8_image_1 : decode cX8_image 1 = .ok (.istore_n 1, 1) := by decide +kernel
theorem dX8_image_2 : decode cX8_image 2 = .ok (.iload_n 1, 1) := by decide +kernel
theorem dX8_image_3 : decode cX8_image 3 = .ok (.iconst 5, 1) := by decide +kernel
theorem dX8_image_4 : decode cX8_image 4 = .ok (.if_icmp .ge 21, 3) := by decide +kernel
theorem dX8_image_7 : decode cX8_image 7 = .ok (.aload_n 0, 1) := by decide +kernel
theorem dX8_image_8 : decode cX8_image 8 = .ok (.getfield 284, 3) := by decide +kernel
theorem dX8_image_11 : decode cX8_image 11 = .ok (.iload_n 1, 1) := by decide +kernel
theorem dX8_image_12 : decode cX8_image 12 = .ok (.aload_n 0, 1) := by decide +kernel
theorem dX8_image_13 : decode cX8_image 13 = .ok (.getfield 199, 3) := by decide +kernel
theorem dX8_image_16 : decode cX8_image 16 = .ok (.iload_n 1, 1) := by decide +kernel
theorem dX8_image_17 : decode cX8_image 17 = .ok (.iaload, 1) := by decide +kernel
theorem dX8_image_18 : decode cX8_image 18 = .ok (.iastore, 1) := by decide +kernel
theorem dX8_image_19 : decode cX8_image 19 = .ok (.iinc 1 1, 3) := by decide +kernel
theorem dX8_image_22 : decode cX8_image 22 = .ok (.goto (-20), 3) := by decide +kernel
theorem dX8_image_25 : decode cX8_image 25 = .ok (.aload_n 0, 1) := by decide +kernel
theorem dX8_image_26 : decode cX8_image 26 = .ok (.getfield 284, 3) := by decide +kernel
theorem dX8_image_29 : decode cX8_image 29 = .ok (.iconst 5, 1) := by decide +kernel
theorem dX8_image_30 : decode cX8_image 30 = .ok (.aload_n 0, 1) := by decide +kernel
theorem dX8_image_31 : decode cX8_image 31 = .ok (.getfield 199, 3) := by decide +kernel
theorem dX8_image_34 : decode cX8_image 34 = .ok (.iconst 5, 1) := by decide +kernel
theorem dX8_image_35 : decode cX8_image 35 = .ok (.iaload, 1) := by decide +kernel
theorem dX8_image_36 : decode cX8_image 36 = .ok (.sipush 256, 3) := by decide +kernel
theorem dX8_image_39 : decode cX8_image 39 = .ok (.idiv, 1) := by decide +kernel
theorem dX8_image_40 : decode cX8_image 40 = .ok (.iastore, 1) := by decide +kernel
theorem dX8_image_41 : decode cX8_image 41 = .ok (.aload_n 0, 1) := by decide +kernel
theorem dX8_image_42 : decode cX8_image 42 = .ok (.getfield 284, 3) := by decide +kernel
theorem dX8_image_45 : decode cX8_image 45 = .ok (.bipush 6, 2) := by decide +kernel
theorem dX8_image_47 : decode cX8_image 47 = .ok (.aload_n 0, 1) := by decide +kernel
theorem dX8_image_48 : decode cX8_image 48 = .ok (.getfield 199, 3) := by decide +kernel
theorem dX8_image_51 : decode cX8_image 51 = .ok (.iconst 5, 1) := by decide +kernel
theorem dX8_image_52 : decode cX8_image 52 = .ok (.iaload, 1) := by decide +kernel
theorem dX8_image_53 : decode cX8_image 53 = .ok (.sipush 256, 3) := by decide +kernel
theorem dX8_image_56 : decode cX8_image 56 = .ok (.irem, 1) := by decide +kernel
theorem dX8_image_57 : decode cX8_image 57 = .ok (.iastore, 1) := by decide +kernel
theorem dX8_image_58 : decode cX8_image 58 = .ok (.aload_n 0, 1) := by decide +kernel
theorem dX8_image_59 : decode cX8_image 59 = .ok (.getfield 284, 3) := by decide +kernel
theorem dX8_image_62 : decode cX8_image 62 = .ok (.bipush 7, 2) := by decide +kernel
theorem dX8_image_64 : decode cX8_image 64 = .ok (.aload_n 0, 1) := by decide +kernel
theorem dX8_image_65 : decode cX8_image 65 = .ok (.getfield 284, 3) := by decide +kernel
theorem dX8_image_68 : decode cX8_image 68 = .ok (.bipush 7, 2) := by decide +kernel
theorem dX8_image_70 : decode cX8_image 70 = .ok (.invokestatic 730, 3) := by decide +kernel
theorem dX8_image_73 : decode cX8_image 73 = .ok (.iastore, 1) := by decide +kernel
theorem dX8_image_74 : decode cX8_image 74 = .ok (.aload_n 0, 1) := by decide +kernel
theorem dX8_image_75 : decode cX8_image 75 = .ok (.bipush 8, 2) := by decide +kernel
theorem dX8_image_77 : decode cX8_image 77 = .ok (.putfield 733, 3) := by decide +kernel
theorem dX8_image_80 : decode cX8_image 80 = .ok (.aload_n 0, 1) := by decide +kernel
theorem dX8_image_81 : decode cX8_image 81 = .ok (.getfield 733, 3) := by decide +kernel
theorem dX8_image_84 : decode cX8_image 84 = .ok (.ireturn, 1) := by decide +kernel
theorem dX8_octet_0 : decode cX8_octet 0 = .ok (.iload_n 1, 1) := by decide +kernel
theorem dX8_octet_1 : decode cX8_octet 1 = .ok (.ifCond .lt 20, 3) := by decide +kernel
theorem dX8_octet_4 : decode cX8_octet 4 = .ok (.iload_n 1, 1) := by decide +kernel
theorem dX8_octet_5 : decode cX8_octet 5 = .ok (.aload_n 0, 1) := by decide +kernel
theorem dX8_octet_6 : decode cX8_octet 6 = .ok (.getfield 733, 3) := by decide +kernel
theorem dX8_octet_9 : decode cX8_octet 9 = .ok (.if_icmp .ge 12, 3) := by decide +kernel
theorem dX8_octet_12 : decode cX8_octet 12 = .ok (.aload_n 0, 1) := by decide +kernel
theorem dX8_octet_13 : decode cX8_octet 13 = .ok (.getfield 284, 3) := by decide +kernel
theorem dX8_octet_16 : decode cX8_octet 16 = .ok (.iload_n 1, 1) := by decide +kernel
theorem dX8_octet_17 : decode cX8_octet 17 = .ok (.iaload, 1) := by decide +kernel
theorem dX8_octet_18 : decode cX8_octet 18 = .ok (.goto 4, 3) := by decide +kernel
theorem dX8_octet_21 : decode cX8_octet 21 = .ok (.iconst (-1), 1) := by decide +kernel
theorem dX8_octet_22 : decode cX8_octet 22 = .ok (.ireturn, 1) := by decide +kernel
theorem dX8_isLength_0 : decode cX8_isLength 0 = .ok (.iconst 0, 1) := by decide +kernel
theorem dX8_isLength_1 : decode cX8_isLength 1 = .ok (.istore_n 2, 1) := by decide +kernel
theorem dX8_isLength_2 : decode cX8_isLength 2 = .ok (.iload_n 2, 1) := by decide +kernel
theorem dX8_isLength_3 : decode cX8_isLength 3 = .ok (.aload_n 0, 1) := by decide +kernel
theorem dX8_isLength_4 : decode cX8_isLength 4 = .ok (.invokevirtual 438, 3) := by decide +kernel
theorem dX8_isLength_7 : decode cX8_isLength 7 = .ok (.if_icmp .ge 24, 3) := by decide +kernel
theorem dX8_isLength_10 : decode cX8_isLength 10 = .ok (.aload_n 0, 1) := by decide +kernel
theorem dX8_isLength_11 : decode cX8_isLength 11 = .ok (.getfield 118, 3) := by decide +kernel
theorem dX8_isLength_14 : decode cX8_isLength 14 = .ok (.bipush 6, 2) := by decide +kernel
theorem dX8_isLength_16 : decode cX8_isLength 16 = .ok (.iload_n 2, 1) := by decide +kernel
theorem dX8_isLength_17 : decode cX8_isLength 17 = .ok (.iadd, 1) := by decide +kernel
theorem dX8_isLength_18 : decode cX8_isLength 18 = .ok (.iaload, 1) := by decide +kernel
theorem dX8_isLength_19 : decode cX8_isLength 19 = .ok (.iload_n 1, 1) := by decide +kernel
theorem dX8_isLength_20 : decode cX8_isLength 20 = .ok (.if_icmp .ne 5, 3) := by decide +kernel
theorem dX8_isLength_23 : decode cX8_isLength 23 = .ok (.iconst 1, 1) := by decide +kernel
theorem dX8_isLength_24 : decode cX8_isLength 24 = .ok (.ireturn, 1) := by decide +kernel
theorem dX8_isLength_25 : decode cX8_isLength 25 = .ok (.iinc 2 1, 3) := by decide +kernel
theorem dX8_isLength_28 : decode cX8_isLength 28 = .ok (.goto (-26), 3) := by decide +kernel
theorem dX8_isLength_31 : decode cX8_isLength 31 = .ok (.iconst 0, 1) := by decide +kernel
theorem dX8_isLength_32 : decode cX8_isLength 32 = .ok (.ireturn, 1) := by decide +kernel
theorem dX8_on_0 : decode cX8_on 0 = .ok (.aload_n 0, 1) := by decide +kernel
theorem dX8_on_1 : decode cX8_on 1 = .ok (.getfield 287, 3) := by decide +kernel
theorem dX8_on_4 : decode cX8_on 4 = .ok (.istore_n 1, 1) := by decide +kernel
theorem dX8_on_5 : decode cX8_on 5 = .ok (.aload_n 0, 1) := by decide +kernel
theorem dX8_on_6 : decode cX8_on 6 = .ok (.iconst 0, 1) := by decide +kernel
theorem dX8_on_7 : decode cX8_on 7 = .ok (.putfield 287, 3) := by decide +kernel
theorem dX8_on_10 : decode cX8_on 10 = .ok (.aload_n 0, 1) := by decide +kernel
theorem dX8_on_11 : decode cX8_on 11 = .ok (.getfield 422, 3) := by decide +kernel
theorem dX8_on_14 : decode cX8_on 14 = .ok (.ifCond .eq 75, 3) := by decide +kernel
theorem dX8_on_17 : decode cX8_on 17 = .ok (.iload_n 1, 1) := by decide +kernel
theorem dX8_on_18 : decode cX8_on 18 = .ok (.bipush 8, 2) := by decide +kernel
theorem dX8_on_20 : decode cX8_on 20 = .ok (.if_icmp .ne 69, 3) := by decide +kernel
theorem dX8_on_23 : decode cX8_on 23 = .ok (.aload_n 0, 1) := by decide +kernel
theorem dX8_on_24 : decode cX8_on 24 = .ok (.getfield 7, 3) := by decide +kernel
theorem dX8_on_27 : decode cX8_on 27 = .ok (.bipush 7, 2) := by decide +kernel
theorem dX8_on_29 : decode cX8_on 29 = .ok (.iaload, 1) := by decide +kernel
theorem dX8_on_30 : decode cX8_on 30 = .ok (.aload_n 0, 1) := by decide +kernel
theorem dX8_on_31 : decode cX8_on 31 = .ok (.getfield 7, 3) := by decide +kernel
theorem dX8_on_34 : decode cX8_on 34 = .ok (.bipush 7, 2) := by decide +kernel
theorem dX8_on_36 : decode cX8_on 36 = .ok (.invokestatic 730, 3) := by decide +kernel
theorem dX8_on_39 : decode cX8_on 39 = .ok (.if_icmp .ne 50, 3) := by decide +kernel
theorem dX8_on_42 : decode cX8_on 42 = .ok (.aload_n 0, 1) := by decide +kernel
theorem dX8_on_43 : decode cX8_on 43 = .ok (.getfield 7, 3) := by decide +kernel
theorem dX8_on_46 : decode cX8_on 46 = .ok (.iconst 0, 1) := by decide +kernel
theorem dX8_on_47 : decode cX8_on 47 = .ok (.iaload, 1) := by decide +kernel
theorem dX8_on_48 : decode cX8_on 48 = .ok (.aload_n 0, 1) := by decide +kernel
theorem dX8_on_49 : decode cX8_on 49 = .ok (.invokevirtual 431, 3) := by decide +kernel
theorem dX8_on_52 : decode cX8_on 52 = .ok (.if_icmp .gt 37, 3) := by decide +kernel
theorem dX8_on_55 : decode cX8_on 55 = .ok (.aload_n 0, 1) := by decide +kernel
theorem dX8_on_56 : decode cX8_on 56 = .ok (.getfield 7, 3) := by decide +kernel
theorem dX8_on_59 : decode cX8_on 59 = .ok (.iconst 3, 1) := by decide +kernel
theorem dX8_on_60 : decode cX8_on 60 = .ok (.iaload, 1) := by decide +kernel
theorem dX8_on_61 : decode cX8_on 61 = .ok (.aload_n 0, 1) := by decide +kernel
theorem dX8_on_62 : decode cX8_on 62 = .ok (.getfield 7, 3) := by decide +kernel
theorem dX8_on_65 : decode cX8_on 65 = .ok (.iconst 0, 1) := by decide +kernel
theorem dX8_on_66 : decode cX8_on 66 = .ok (.iaload, 1) := by decide +kernel
theorem dX8_on_67 : decode cX8_on 67 = .ok (.if_icmp .gt 22, 3) := by decide +kernel
theorem dX8_on_70 : decode cX8_on 70 = .ok (.aload_n 0, 1) := by decide +kernel
theorem dX8_on_71 : decode cX8_on 71 = .ok (.getfield 7, 3) := by decide +kernel
theorem dX8_on_74 : decode cX8_on 74 = .ok (.iconst 4, 1) := by decide +kernel
theorem dX8_on_75 : decode cX8_on 75 = .ok (.iaload, 1) := by decide +kernel
theorem dX8_on_76 : decode cX8_on 76 = .ok (.aload_n 0, 1) := by decide +kernel
theorem dX8_on_77 : decode cX8_on 77 = .ok (.getfield 7, 3) := by decide +kernel
theorem dX8_on_80 : decode cX8_on 80 = .ok (.iconst 0, 1) := by decide +kernel
theorem dX8_on_81 : decode cX8_on 81 = .ok (.iaload, 1) := by decide +kernel
theorem dX8_on_82 : decode cX8_on 82 = .ok (.if_icmp .gt 7, 3) := by decide +kernel
theorem dX8_on_85 : decode cX8_on 85 = .ok (.iconst 1, 1) := by decide +kernel
theorem dX8_on_86 : decode cX8_on 86 = .ok (.goto 4, 3) := by decide +kernel
theorem dX8_on_89 : decode cX8_on 89 = .ok (.iconst 0, 1) := by decide +kernel
theorem dX8_on_90 : decode cX8_on 90 = .ok (.istore_n 2, 1) := by decide +kernel
theorem dX8_on_91 : decode cX8_on 91 = .ok (.iload_n 2, 1) := by decide +kernel
theorem dX8_on_92 : decode cX8_on 92 = .ok (.ifCond .eq 55, 3) := by decide +kernel
theorem dX8_on_95 : decode cX8_on 95 = .ok (.aload_n 0, 1) := by decide +kernel
theorem dX8_on_96 : decode cX8_on 96 = .ok (.aload_n 0, 1) := by decide +kernel
theorem dX8_on_97 : decode cX8_on 97 = .ok (.getfield 7, 3) := by decide +kernel
theorem dX8_on_100 : decode cX8_on 100 = .ok (.iconst 2, 1) := by decide +kernel
theorem dX8_on_101 : decode cX8_on 101 = .ok (.iaload, 1) := by decide +kernel
theorem dX8_on_102 : decode cX8_on 102 = .ok (.invokevirtual 736, 3) := by decide +kernel
theorem dX8_on_105 : decode cX8_on 105 = .ok (.ifCond .eq 42, 3) := by decide +kernel
theorem dX8_on_108 : decode cX8_on 108 = .ok (.aload_n 0, 1) := by decide +kernel
theorem dX8_on_109 : decode cX8_on 109 = .ok (.getfield 7, 3) := by decide +kernel
theorem dX8_on_112 : decode cX8_on 112 = .ok (.iconst 1, 1) := by decide +kernel
theorem dX8_on_113 : decode cX8_on 113 = .ok (.iaload, 1) := by decide +kernel
theorem dX8_on_114 : decode cX8_on 114 = .ok (.aload_n 0, 1) := by decide +kernel
theorem dX8_on_115 : decode cX8_on 115 = .ok (.getfield 7, 3) := by decide +kernel
theorem dX8_on_118 : decode cX8_on 118 = .ok (.iconst 2, 1) := by decide +kernel
theorem dX8_on_119 : decode cX8_on 119 = .ok (.iaload, 1) := by decide +kernel
theorem dX8_on_120 : decode cX8_on 120 = .ok (.if_icmp .gt 27, 3) := by decide +kernel
theorem dX8_on_123 : decode cX8_on 123 = .ok (.sipush 256, 3) := by decide +kernel
theorem dX8_on_126 : decode cX8_on 126 = .ok (.aload_n 0, 1) := by decide +kernel
theorem dX8_on_127 : decode cX8_on 127 = .ok (.getfield 7, 3) := by decide +kernel
theorem dX8_on_130 : decode cX8_on 130 = .ok (.iconst 5, 1) := by decide +kernel
theorem dX8_on_131 : decode cX8_on 131 = .ok (.iaload, 1) := by decide +kernel
theorem dX8_on_132 : decode cX8_on 132 = .ok (.imul, 1) := by decide +kernel
theorem dX8_on_133 : decode cX8_on 133 = .ok (.aload_n 0, 1) := by decide +kernel
theorem dX8_on_134 : decode cX8_on 134 = .ok (.getfield 7, 3) := by decide +kernel
theorem dX8_on_137 : decode cX8_on 137 = .ok (.bipush 6, 2) := by decide +kernel
theorem dX8_on_139 : decode cX8_on 139 = .ok (.iaload, 1) := by decide +kernel
theorem dX8_on_140 : decode cX8_on 140 = .ok (.iadd, 1) := by decide +kernel
theorem dX8_on_141 : decode cX8_on 141 = .ok (.sipush 9999, 3) := by decide +kernel
theorem dX8_on_144 : decode cX8_on 144 = .ok (.if_icmp .le 15, 3) := by decide +kernel
theorem dX8_on_147 : decode cX8_on 147 = .ok (.aload_n 0, 1) := by decide +kernel
theorem dX8_on_148 : decode cX8_on 148 = .ok (.getfield 17, 3) := by decide +kernel
theorem dX8_on_151 : decode cX8_on 151 = .ok (.iconst 5, 1) := by decide +kernel
theorem dX8_on_152 : decode cX8_on 152 = .ok (.dup2, 1) := by decide +kernel
theorem dX8_on_153 : decode cX8_on 153 = .ok (.iaload, 1) := by decide +kernel
theorem dX8_on_154 : decode cX8_on 154 = .ok (.iconst 1, 1) := by decide +kernel
theorem dX8_on_155 : decode cX8_on 155 = .ok (.iadd, 1) := by decide +kernel
theorem dX8_on_156 : decode cX8_on 156 = .ok (.iastore, 1) := by decide +kernel
theorem dX8_on_157 : decode cX8_on 157 = .ok (.iconst 0, 1) := by decide +kernel
theorem dX8_on_158 : decode cX8_on 158 = .ok (.ireturn, 1) := by decide +kernel
theorem dX8_on_159 : decode cX8_on 159 = .ok (.iconst 0, 1) := by decide +kernel
theorem dX8_on_160 : decode cX8_on 160 = .ok (.istore_n 3, 1) := by decide +kernel
theorem dX8_on_161 : decode cX8_on 161 = .ok (.iload_n 3, 1) := by decide +kernel
theorem dX8_on_162 : decode cX8_on 162 = .ok (.iconst 5, 1) := by decide +kernel
theorem dX8_on_163 : decode cX8_on 163 = .ok (.if_icmp .ge 21, 3) := by decide +kernel
theorem dX8_on_166 : decode cX8_on 166 = .ok (.aload_n 0, 1) := by decide +kernel
theorem dX8_on_167 : decode cX8_on 167 = .ok (.getfield 199, 3) := by decide +kernel
theorem dX8_on_170 : decode cX8_on 170 = .ok (.iload_n 3, 1) := by decide +kernel
theorem dX8_on_171 : decode cX8_on 171 = .ok (.aload_n 0, 1) := by decide +kernel
theorem dX8_on_172 : decode cX8_on 172 = .ok (.getfield 7, 3) := by decide +kernel
theorem dX8_on_175 : decode cX8_on 175 = .ok (.iload_n 3, 1) := by decide +kernel
theorem dX8_on_176 : decode cX8_on 176 = .ok (.iaload, 1) := by decide +kernel
theorem dX8_on_177 : decode cX8_on 177 = .ok (.iastore, 1) := by decide +kernel
theorem dX8_on_178 : decode cX8_on 178 = .ok (.iinc 3 1, 3) := by decide +kernel
theorem dX8_on_181 : decode cX8_on 181 = .ok (.goto (-20), 3) := by decide +kernel
theorem dX8_on_184 : decode cX8_on 184 = .ok (.aload_n 0, 1) := by decide +kernel
theorem dX8_on_185 : decode cX8_on 185 = .ok (.getfield 199, 3) := by decide +kernel
theorem dX8_on_188 : decode cX8_on 188 = .ok (.iconst 5, 1) := by decide +kernel
theorem dX8_on_189 : decode cX8_on 189 = .ok (.sipush 256, 3) := by decide +kernel
theorem dX8_on_192 : decode cX8_on 192 = .ok (.aload_n 0, 1) := by decide +kernel
theorem dX8_on_193 : decode cX8_on 193 = .ok (.getfield 7, 3) := by decide +kernel
theorem dX8_on_196 : decode cX8_on 196 = .ok (.iconst 5, 1) := by decide +kernel
theorem dX8_on_197 : decode cX8_on 197 = .ok (.iaload, 1) := by decide +kernel
theorem dX8_on_198 : decode cX8_on 198 = .ok (.imul, 1) := by decide +kernel
theorem dX8_on_199 : decode cX8_on 199 = .ok (.aload_n 0, 1) := by decide +kernel
theorem dX8_on_200 : decode cX8_on 200 = .ok (.getfield 7, 3) := by decide +kernel
theorem dX8_on_203 : decode cX8_on 203 = .ok (.bipush 6, 2) := by decide +kernel
theorem dX8_on_205 : decode cX8_on 205 = .ok (.iaload, 1) := by decide +kernel
theorem dX8_on_206 : decode cX8_on 206 = .ok (.iadd, 1) := by decide +kernel
theorem dX8_on_207 : decode cX8_on 207 = .ok (.iastore, 1) := by decide +kernel
theorem dX8_on_208 : decode cX8_on 208 = .ok (.aload_n 0, 1) := by decide +kernel
theorem dX8_on_209 : decode cX8_on 209 = .ok (.iconst 0, 1) := by decide +kernel
theorem dX8_on_210 : decode cX8_on 210 = .ok (.putfield 425, 3) := by decide +kernel
theorem dX8_on_213 : decode cX8_on 213 = .ok (.iconst 1, 1) := by decide +kernel
theorem dX8_on_214 : decode cX8_on 214 = .ok (.ireturn, 1) := by decide +kernel
theorem dX8_status_0 : decode cX8_status 0 = .ok (.iload_n 1, 1) := by decide +kernel
theorem dX8_status_1 : decode cX8_status 1 = .ok (.i2l, 1) := by decide +kernel
theorem dX8_status_2 : decode cX8_status 2 = .ok (.lconst 0, 1) := by decide +kernel
theorem dX8_status_3 : decode cX8_status 3 = .ok (.ldc2_w 541, 3) := by decide +kernel
theorem dX8_status_6 : decode cX8_status 6 = .ok (.invokestatic 333, 3) := by decide +kernel
theorem dX8_status_9 : decode cX8_status 9 = .ok (.ifCond .eq 12, 3) := by decide +kernel
theorem dX8_status_12 : decode cX8_status 12 = .ok (.aload_n 0, 1) := by decide +kernel
theorem dX8_status_13 : decode cX8_status 13 = .ok (.getfield 17, 3) := by decide +kernel
theorem dX8_status_16 : decode cX8_status 16 = .ok (.iload_n 1, 1) := by decide +kernel
theorem dX8_status_17 : decode cX8_status 17 = .ok (.iaload, 1) := by decide +kernel
theorem dX8_status_18 : decode cX8_status 18 = .ok (.goto 4, 3) := by decide +kernel
theorem dX8_status_21 : decode cX8_status 21 = .ok (.iconst (-1), 1) := by decide +kernel
theorem dX8_status_22 : decode cX8_status 22 = .ok (.ireturn, 1) := by decide +kernel
