theorem dL_law_0 : decode cL_law 0 = .ok (.new 7, 3) := by decide +kernel
theorem dL_law_3 : decode cL_law 3 = .ok (.dup, 1) := by decide +kernel
theorem dL_law_4 : decode cL_law 4 = .ok (.invokespecial 9, 3) := by decide +kernel
theorem dL_law_7 : decode cL_law 7 = .ok (.astore_n 1, 1) := by decide +kernel
theorem dL_law_8 : decode cL_law 8 = .ok (.new 10, 3) := by decide +kernel
theorem dL_law_11 : decode cL_law 11 = .ok (.dup, 1) := by decide +kernel
theorem dL_law_12 : decode cL_law 12 = .ok (.invokespecial 12, 3) := by decide +kernel
theorem dL_law_15 : decode cL_law 15 = .ok (.astore_n 2, 1) := by decide +kernel
theorem dL_law_16 : decode cL_law 16 = .ok (.iconst 0, 1) := by decide +kernel
theorem dL_law_17 : decode cL_law 17 = .ok (.istore_n 3, 1) := by decide +kernel
theorem dX0_init_0 : decode cX0_init 0 = .ok (.aload_n 0, 1) := by decide +kernel
theorem dX0_init_1 : decode cX0_init 1 = .ok (.invokespecial 3, 3) := by decide +kernel
theorem dX0_init_4 : decode cX0_init 4 = .ok (.aload_n 0, 1) := by decide +kernel
theorem dX0_init_5 : decode cX0_init 5 = .ok (.bipush 7, 2) := by decide +kernel
theorem dX0_init_7 : decode cX0_init 7 = .ok (.newarray .long, 2) := by decide +kernel
theorem dX0_init_9 : decode cX0_init 9 = .ok (.putfield 9, 3) := by decide +kernel
theorem dX0_init_12 : decode cX0_init 12 = .ok (.aload_n 0, 1) := by decide +kernel
theorem dX0_init_13 : decode cX0_init 13 = .ok (.bipush (-3), 2) := by decide +kernel
theorem dX0_init_15 : decode cX0_init 15 = .ok (.putfield 15, 3) := by decide +kernel
theorem dX0_init_18 : decode cX0_init 18 = .ok (.return_, 1) := by decide +kernel
theorem dX1_init_0 : decode cX1_init 0 = .ok (.aload_n 0, 1) := by decide +kernel
theorem dX1_init_1 : decode cX1_init 1 = .ok (.invokespecial 3, 3) := by decide +kernel
theorem dX1_init_4 : decode cX1_init 4 = .ok (.aload_n 0, 1) := by decide +kernel
theorem dX1_init_5 : decode cX1_init 5 = .ok (.bipush 10, 2) := by decide +kernel
theorem dX1_init_7 : decode cX1_init 7 = .ok (.newarray .int, 2) := by decide +kernel
theorem dX1_init_9 : decode cX1_init 9 = .ok (.putfield 9, 3) := by decide +kernel
theorem dX1_init_12 : decode cX1_init 12 = .ok (.aload_n 0, 1) := by decide +kernel
theorem dX1_init_13 : decode cX1_init 13 = .ok (.bipush 10, 2) := by decide +kernel
theorem dX1_init_15 : decode cX1_init 15 = .ok (.newarray .int, 2) := by decide +kernel
theorem dX1_init_17 : decode cX1_init 17 = .ok (.putfield 15, 3) := by decide +kernel
theorem dX1_init_20 : decode cX1_init 20 = .ok (.aload_n 0, 1) := by decide +kernel
theorem dX1_init_21 : decode cX1_init 21 = .ok (.bipush 10, 2) := by decide +kernel
theorem dX1_init_23 : decode cX1_init 23 = .ok (.newarray .int, 2) := by decide +kernel
theorem dX1_init_25 : decode cX1_init 25 = .ok (.putfield 18, 3) := by decide +kernel
theorem dX1_init_28 : decode cX1_init 28 = .ok (.aload_n 0, 1) := by decide +kernel
theorem dX1_init_29 : decode cX1_init 29 = .ok (.bipush 10, 2) := by decide +kernel
theorem dX1_init_31 : decode cX1_init 31 = .ok (.newarray .int, 2) := by decide +kernel
theorem dX1_init_33 : decode cX1_init 33 = .ok (.putfield 21, 3) := by decide +kernel
theorem dX1_init_36 : decode cX1_init 36 = .ok (.return_, 1) := by decide +kernel
theorem dX2_init_0 : decode cX2_init 0 = .ok (.aload_n 0, 1) := by decide +kernel
theorem dX2_init_1 : decode cX2_init 1 = .ok (.invokespecial 3, 3) := by decide +kernel
theorem dX2_init_4 : decode cX2_init 4 = .ok (.aload_n 0, 1) := by decide +kernel
theorem dX2_init_5 : decode cX2_init 5 = .ok (.iconst 1, 1) := by decide +kernel
theorem dX2_init_6 : decode cX2_init 6 = .ok (.putfield 9, 3) := by decide +kernel
theorem dX2_init_9 : decode cX2_init 9 = .ok (.aload_n 0, 1) := by decide +kernel
theorem dX2_init_10 : decode cX2_init 10 = .ok (.bipush 120, 2) := by decide +kernel
theorem dX2_init_12 : decode cX2_init 12 = .ok (.newarray .int, 2) := by decide +kernel
theorem dX2_init_14 : decode cX2_init 14 = .ok (.putfield 15, 3) := by decide +kernel
theorem dX2_init_17 : decode cX2_init 17 = .ok (.return_, 1) := by decide +kernel
theorem dX3_init_0 : decode cX3_init 0 = .ok (.aload_n 0, 1) := by decide +kernel
theorem dX3_init_1 : decode cX3_init 1 = .ok (.invokespecial 3, 3) := by decide +kernel
theorem dX3_init_4 : decode cX3_init 4 = .ok (.aload_n 0, 1) := by decide +kernel
theorem dX3_init_5 : decode cX3_init 5 = .ok (.sipush 1600, 3) := by decide +kernel
theorem dX3_init_8 : decode cX3_init 8 = .ok (.newarray .int, 2) := by decide +kernel
theorem dX3_init_10 : decode cX3_init 10 = .ok (.putfield 9, 3) := by decide +kernel
theorem dX3_init_13 : decode cX3_init 13 = .ok (.aload_n 0, 1) := by decide +kernel
theorem dX3_init_14 : decode cX3_init 14 = .ok (.bipush 64, 2) := by decide +kernel
theorem dX3_init_16 : decode cX3_init 16 = .ok (.newarray .int, 2) := by decide +kernel
theorem dX3_init_18 : decode cX3_init 18 = .ok (.putfield 15, 3) := by decide +kernel
theorem dX3_init_21 : decode cX3_init 21 = .ok (.return_, 1) := by decide +kernel
theorem dX4_init_0 : decode cX4_init 0 = .ok (.aload_n 0, 1) := by decide +kernel
theorem dX4_init_1 : decode cX4_init 1 = .ok (.invokespecial 3, 3) := by decide +kernel
theorem dX4_init_4 : decode cX4_init 4 = .ok (.aload_n 0, 1) := by decide +kernel
theorem dX4_init_5 : decode cX4_init 5 = .ok (.bipush 10, 2) := by decide +kernel
theorem dX4_init_7 : decode cX4_init 7 = .ok (.newarray .int, 2) := by decide +kernel
theorem dX4_init_9 : decode cX4_init 9 = .ok (.putfield 9, 3) := by decide +kernel
theorem dX4_init_12 : decode cX4_init 12 = .ok (.aload_n 0, 1) := by decide +kernel
theorem dX4_init_13 : decode cX4_init 13 = .ok (.bipush 10, 2) := by decide +kernel
theorem dX4_init_15 : decode cX4_init 15 = .ok (.newarray .int, 2) := by decide +kernel
theorem dX4_init_17 : decode cX4_init 17 = .ok (.putfield 15, 3) := by decide +kernel
theorem dX4_init_20 : decode cX4_init 20 = .ok (.aload_n 0, 1) := by decide +kernel
theorem dX4_init_21 : decode cX4_init 21 = .ok (.bipush 10, 2) := by decide +kernel
theorem dX4_init_23 : decode cX4_init 23 = .ok (.newarray .int, 2) := by decide +kernel
theorem dX4_init_25 : decode cX4_init 25 = .ok (.putfield 18, 3) := by decide +kernel
theorem dX4_init_28 : decode cX4_init 28 = .ok (.aload_n 0, 1) := by decide +kernel
theorem dX4_init_29 : decode cX4_init 29 = .ok (.bipush 10, 2) := by decide +kernel
theorem dX4_init_31 : decode cX4_init 31 = .ok (.newarray .int, 2) := by decide +kernel
theorem dX4_init_33 : decode cX4_init 33 = .ok (.putfield 21, 3) := by decide +kernel
theorem dX4_init_36 : decode cX4_init 36 = .ok (.aload_n 0, 1) := by decide +kernel
theorem dX4_init_37 : decode cX4_init 37 = .ok (.bipush 10, 2) := by decide +kernel
theorem dX4_init_39 : decode cX4_init 39 = .ok (.newarray .int, 2) := by decide +kernel
theorem dX4_init_41 : decode cX4_init 41 = .ok (.putfield 24, 3) := by decide +kernel
theorem dX4_init_44 : decode cX4_init 44 = .ok (.aload_n 0, 1) := by decide +kernel
theorem dX4_init_45 : decode cX4_init 45 = .ok (.iconst 3, 1) := by decide +kernel
theorem dX4_init_46 : decode cX4_init 46 = .ok (.newarray .int, 2) := by decide +kernel
theorem dX4_init_48 : decode cX4_init 48 = .ok (.putfield 27, 3) := by decide +kernel
theorem dX4_init_51 : decode cX4_init 51 = .ok (.aload_n 0, 1) := by decide +kernel
theorem dX4_init_52 : decode cX4_init 52 = .ok (.iconst 3, 1) := by decide +kernel
theorem dX4_init_53 : decode cX4_init 53 = .ok (.newarray .int, 2) := by decide +kernel
theorem dX4_init_55 : decode cX4_init 55 = .ok (.putfield 30, 3) := by decide +kernel
theorem dX4_init_58 : decode cX4_init 58 = .ok (.aload_n 0, 1) := by decide +kernel
theorem dX4_init_59 : decode cX4_init 59 = .ok (.bipush 50, 2) := by decide +kernel
theorem dX4_init_61 : decode cX4_init 61 = .ok (.newarray .int, 2) := by decide +kernel
theorem dX4_init_63 : decode cX4_init 63 = .ok (.putfield 33, 3) := by decide +kernel
theorem dX4_init_66 : decode cX4_init 66 = .ok (.aload_n 0, 1) := by decide +kernel
theorem dX4_init_67 : decode cX4_init 67 = .ok (.bipush 50, 2) := by decide +kernel
theorem dX4_init_69 : decode cX4_init 69 = .ok (.newarray .int, 2) := by decide +kernel
theorem dX4_init_71 : decode cX4_init 71 = .ok (.putfield 36, 3) := by decide +kernel
theorem dX4_init_74 : decode cX4_init 74 = .ok (.aload_n 0, 1) := by decide +kernel
theorem dX4_init_75 : decode cX4_init 75 = .ok (.bipush 50, 2) := by decide +kernel
theorem dX4_init_77 : decode cX4_init 77 = .ok (.newarray .int, 2) := by decide +kernel
theorem dX4_init_79 : decode cX4_init 79 = .ok (.putfield 39, 3) := by decide +kernel
theorem dX4_init_82 : decode cX4_init 82 = .ok (.aload_n 0, 1) := by decide +kernel
theorem dX4_init_83 : decode cX4_init 83 = .ok (.bipush 50, 2) := by decide +kernel
theorem dX4_init_85 : decode cX4_init 85 = .ok (.newarray .int, 2) := by decide +kernel
theorem dX4_init_87 : decode cX4_init 87 = .ok (.putfield 42, 3) := by decide +kernel
theorem dX4_init_90 : decode cX4_init 90 = .ok (.aload_n 0, 1) := by decide +kernel
theorem dX4_init_91 : decode cX4_init 91 = .ok (.bipush 50, 2) := by decide +kernel
theorem dX4_init_93 : decode cX4_init 93 = .ok (.newarray .int, 2) := by decide +kernel
theorem dX4_init_95 : decode cX4_init 95 = .ok (.putfield 45, 3) := by decide +kernel
theorem dX4_init_98 : decode cX4_init 98 = .ok (.return_, 1) := by decide +kernel
theorem dX5_init_0 : decode cX5_init 0 = .ok (.aload_n 0, 1) := by decide +kernel
theorem dX5_init_1 : decode cX5_init 1 = .ok (.invokespecial 3, 3) := by decide +kernel
theorem dX5_init_4 : decode cX5_init 4 = .ok (.aload_n 0, 1) := by decide +kernel
theorem dX5_init_5 : decode cX5_init 5 = .ok (.iconst 0, 1) := by decide +kernel
theorem dX5_init_6 : decode cX5_init 6 = .ok (.newarray .int, 2) := by decide +kernel
theorem dX5_init_8 : decode cX5_init 8 = .ok (.putfield 9, 3) := by decide +kernel
theorem dX5_init_11 : decode cX5_init 11 = .ok (.aload_n 0, 1) := by decide +kernel
theorem dX5_init_12 : decode cX5_init 12 = .ok (.iconst (-1), 1) := by decide +kernel
theorem dX5_init_13 : decode cX5_init 13 = .ok (.putfield 15, 3) := by decide +kernel
theorem dX5_init_16 : decode cX5_init 16 = .ok (.aload_n 0, 1) := by decide +kernel
theorem dX5_init_17 : decode cX5_init 17 = .ok (.new 19, 3) := by decide +kernel
theorem dX5_init_20 : decode cX5_init 20 = .ok (.dup, 1) := by decide +kernel
theorem dX5_init_21 : decode cX5_init 21 = .ok (.invokespecial 21, 3) := by decide +kernel
theorem dX5_init_24 : decode cX5_init 24 = .ok (.putfield 22, 3) := by decide +kernel
theorem dX5_init_27 : decode cX5_init 27 = .ok (.aload_n 0, 1) := by decide +kernel
theorem dX5_init_28 : decode cX5_init 28 = .ok (.aload_n 0, 1) := by decide +kernel
theorem dX5_init_29 : decode cX5_init 29 = .ok (.getfield 22, 3) := by decide +kernel
theorem dX5_init_32 : decode cX5_init 32 = .ok (.putfield 26, 3) := by decide +kernel
theorem dX5_init_35 : decode cX5_init 35 = .ok (.return_, 1) := by decide +kernel
theorem dX6_init_0 : decode cX6_init 0 = .ok (.aload_n 0, 1) := by decide +kernel
theorem dX6_init_1 : decode cX6_init 1 = .ok (.invokespecial 3, 3) := by decide +kernel
theorem dX6_init_4 : decode cX6_init 4 = .ok (.aload_n 0, 1) := by decide +kernel
theorem dX6_init_5 : decode cX6_init 5 = .ok (.bipush 6, 2) := by decide +kernel
theorem dX6_init_7 : decode cX6_init 7 = .ok (.newarray .int, 2) := by decide +kernel
theorem dX6_init_9 : decode cX6_init 9 = .ok (.putfield 9, 3) := by decide +kernel
theorem dX6_init_12 : decode cX6_init 12 = .ok (.aload_n 0, 1) := by decide +kernel
theorem dX6_init_13 : decode cX6_init 13 = .ok (.bipush 6, 2) := by decide +kernel
theorem dX6_init_15 : decode cX6_init 15 = .ok (.newarray .int, 2) := by decide +kernel
theorem dX6_init_17 : decode cX6_init 17 = .ok (.putfield 15, 3) := by decide +kernel
theorem dX6_init_20 : decode cX6_init 20 = .ok (.aload_n 0, 1) := by decide +kernel
theorem dX6_init_21 : decode cX6_init 21 = .ok (.bipush 10, 2) := by decide +kernel
theorem dX6_init_23 : decode cX6_init 23 = .ok (.newarray .int, 2) := by decide +kernel
theorem dX6_init_25 : decode cX6_init 25 = .ok (.putfield 18, 3) := by decide +kernel
theorem dX6_init_28 : decode cX6_init 28 = .ok (.aload_n 0, 1) := by decide +kernel
theorem dX6_init_29 : decode cX6_init 29 = .ok (.bipush 10, 2) := by decide +kernel
theorem dX6_init_31 : decode cX6_init 31 = .ok (.newarray .int, 2) := by decide +kernel
theorem dX6_init_33 : decode cX6_init 33 = .ok (.putfield 21, 3) := by decide +kernel
theorem dX6_init_36 : decode cX6_init 36 = .ok (.aload_n 0, 1) := by decide +kernel
theorem dX6_init_37 : decode cX6_init 37 = .ok (.bipush 40, 2) := by decide +kernel
theorem dX6_init_39 : decode cX6_init 39 = .ok (.newarray .int, 2) := by decide +kernel
theorem dX6_init_41 : decode cX6_init 41 = .ok (.putfield 24, 3) := by decide +kernel
theorem dX6_init_44 : decode cX6_init 44 = .ok (.aload_n 0, 1) := by decide +kernel
theorem dX6_init_45 : decode cX6_init 45 = .ok (.bipush 10, 2) := by decide +kernel
theorem dX6_init_47 : decode cX6_init 47 = .ok (.newarray .int, 2) := by decide +kernel
theorem dX6_init_49 : decode cX6_init 49 = .ok (.putfield 27, 3) := by decide +kernel
theorem dX6_init_52 : decode cX6_init 52 = .ok (.aload_n 0, 1) := by decide +kernel
theorem dX6_init_53 : decode cX6_init 53 = .ok (.bipush 11, 2) := by decide +kernel
theorem dX6_init_55 : decode cX6_init 55 = .ok (.newarray .int, 2) := by decide +kernel
theorem dX6_init_57 : decode cX6_init 57 = .ok (.putfield 30, 3) := by decide +kernel
theorem dX6_init_60 : decode cX6_init 60 = .ok (.aload_n 0, 1) := by decide +kernel
theorem dX6_init_61 : decode cX6_init 61 = .ok (.new 33, 3) := by decide +kernel
theorem dX6_init_64 : decode cX6_init 64 = .ok (.dup, 1) := by decide +kernel
theorem dX6_init_65 : decode cX6_init 65 = .ok (.invokespecial 35, 3) := by decide +kernel
theorem dX6_init_68 : decode cX6_init 68 = .ok (.putfield 36, 3) := by decide +kernel
theorem dX6_init_71 : decode cX6_init 71 = .ok (.aload_n 0, 1) := by decide +kernel
theorem dX6_init_72 : decode cX6_init 72 = .ok (.iconst 5, 1) := by decide +kernel
theorem dX6_init_73 : decode cX6_init 73 = .ok (.newarray .int, 2) := by decide +kernel
theorem dX6_init_75 : decode cX6_init 75 = .ok (.putfield 40, 3) := by decide +kernel
theorem dX6_init_78 : decode cX6_init 78 = .ok (.aload_n 0, 1) := by decide +kernel
theorem dX6_init_79 : decode cX6_init 79 = .ok (.bipush 84, 2) := by decide +kernel
theorem dX6_init_81 : decode cX6_init 81 = .ok (.newarray .int, 2) := by decide +kernel
theorem dX6_init_83 : decode cX6_init 83 = .ok (.putfield 43, 3) := by decide +kernel
theorem dX6_init_86 : decode cX6_init 86 = .ok (.aload_n 0, 1) := by decide +kernel
theorem dX6_init_87 : decode cX6_init 87 = .ok (.bipush 6, 2) := by decide +kernel
theorem dX6_init_89 : decode cX6_init 89 = .ok (.newarray .int, 2) := by decide +kernel
theorem dX6_init_91 : decode cX6_init 91 = .ok (.putfield 46, 3) := by decide +kernel
theorem dX6_init_94 : decode cX6_init 94 = .ok (.aload_n 0, 1) := by decide +kernel
theorem dX6_init_95 : decode cX6_init 95 = .ok (.bipush 10, 2) := by decide +kernel
theorem dX6_init_97 : decode cX6_init 97 = .ok (.newarray .int, 2) := by decide +kernel
theorem dX6_init_99 : decode cX6_init 99 = .ok (.putfield 49, 3) := by decide +kernel
theorem dX6_init_102 : decode cX6_init 102 = .ok (.return_, 1) := by decide +kernel
theorem dX7_init_0 : decode cX7_init 0 = .ok (.aload_n 0, 1) := by decide +kernel
theorem dX7_init_1 : decode cX7_init 1 = .ok (.invokespecial 1, 3) := by decide +kernel
theorem dX7_init_4 : decode cX7_init 4 = .ok (.aload_n 0, 1) := by decide +kernel
theorem dX7_init_5 : decode cX7_init 5 = .ok (.sipush 1600, 3) := by decide +kernel
theorem dX7_init_8 : decode cX7_init 8 = .ok (.newarray .int, 2) := by decide +kernel
theorem dX7_init_10 : decode cX7_init 10 = .ok (.putfield 9, 3) := by decide +kernel
theorem dX7_init_13 : decode cX7_init 13 = .ok (.aload_n 0, 1) := by decide +kernel
theorem dX7_init_14 : decode cX7_init 14 = .ok (.new 13, 3) := by decide +kernel
theorem dX7_init_17 : decode cX7_init 17 = .ok (.dup, 1) := by decide +kernel
theorem dX7_init_18 : decode cX7_init 18 = .ok (.invokespecial 15, 3) := by decide +kernel
theorem dX7_init_21 : decode cX7_init 21 = .ok (.putfield 16, 3) := by decide +kernel
theorem dX7_init_24 : decode cX7_init 24 = .ok (.aload_n 0, 1) := by decide +kernel
theorem dX7_init_25 : decode cX7_init 25 = .ok (.new 13, 3) := by decide +kernel
theorem dX7_init_28 : decode cX7_init 28 = .ok (.dup, 1) := by decide +kernel
theorem dX7_init_29 : decode cX7_init 29 = .ok (.invokespecial 15, 3) := by decide +kernel
theorem dX7_init_32 : decode cX7_init 32 = .ok (.putfield 20, 3) := by decide +kernel
theorem dX7_init_35 : decode cX7_init 35 = .ok (.aload_n 0, 1) := by decide +kernel
theorem dX7_init_36 : decode cX7_init 36 = .ok (.new 23, 3) := by decide +kernel
theorem dX7_init_39 : decode cX7_init 39 = .ok (.dup, 1) := by decide +kernel
theorem dX7_init_40 : decode cX7_init 40 = .ok (.invokespecial 25, 3) := by decide +kernel
theorem dX7_init_43 : decode cX7_init 43 = .ok (.putfield 26, 3) := by decide +kernel
theorem dX7_init_46 : decode cX7_init 46 = .ok (.aload_n 0, 1) := by decide +kernel
theorem dX7_init_47 : decode cX7_init 47 = .ok (.new 30, 3) := by decide +kernel
theorem dX7_init_50 : decode cX7_init 50 = .ok (.dup, 1) := by decide +kernel
theorem dX7_init_51 : decode cX7_init 51 = .ok (.invokespecial 32, 3) := by decide +kernel
theorem dX7_init_54 : decode cX7_init 54 = .ok (.putfield 33, 3) := by decide +kernel
theorem dX7_init_57 : decode cX7_init 57 = .ok (.aload_n 0, 1) := by decide +kernel
theorem dX7_init_58 : decode cX7_init 58 = .ok (.new 37, 3) := by decide +kernel
theorem dX7_init_61 : decode cX7_init 61 = .ok (.dup, 1) := by decide +kernel
theorem dX7_init_62 : decode cX7_init 62 = .ok (.invokespecial 39, 3) := by decide +kernel
theorem dX7_init_65 : decode cX7_init 65 = .ok (.putfield 40, 3) := by decide +kernel
theorem dX7_init_68 : decode cX7_init 68 = .ok (.aload_n 0, 1) := by decide +kernel
theorem dX7_init_69 : decode cX7_init 69 = .ok (.new 44, 3) := by decide +kernel
theorem dX7_init_72 : decode cX7_init 72 = .ok (.dup, 1) := by decide +kernel
theorem dX7_init_73 : decode cX7_init 73 = .ok (.invokespecial 46, 3) := by decide +kernel
theorem dX7_init_76 : decode cX7_init 76 = .ok (.putfield 47, 3) := by decide +kernel
theorem dX7_init_79 : decode cX7_init 79 = .ok (.aload_n 0, 1) := by decide +kernel
theorem dX7_init_80 : decode cX7_init 80 = .ok (.new 51, 3) := by decide +kernel
theorem dX7_init_83 : decode cX7_init 83 = .ok (.dup, 1) := by decide +kernel
theorem dX7_init_84 : decode cX7_init 84 = .ok (.invokespecial 53, 3) := by decide +kernel
theorem dX7_init_87 : decode cX7_init 87 = .ok (.putfield 54, 3) := by decide +kernel
theorem dX7_init_90 : decode cX7_init 90 = .ok (.aload_n 0, 1) := by decide +kernel
theorem dX7_init_91 : decode cX7_init 91 = .ok (.bipush 40, 2) := by decide +kernel
theorem dX7_init_93 : decode cX7_init 93 = .ok (.newarray .int, 2) := by decide +kernel
theorem dX7_init_95 : decode cX7_init 95 = .ok (.putfield 58, 3) := by decide +kernel
theorem dX7_init_98 : decode cX7_init 98 = .ok (.aload_n 0, 1) := by decide +kernel
theorem dX7_init_99 : decode cX7_init 99 = .ok (.bipush 8, 2) := by decide +kernel
theorem dX7_init_101 : decode cX7_init 101 = .ok (.newarray .int, 2) := by decide +kernel
theorem dX7_init_103 : decode cX7_init 103 = .ok (.putfield 61, 3) := by decide +kernel
theorem dX7_init_106 : decode cX7_init 106 = .ok (.aload_n 0, 1) := by decide +kernel
theorem dX7_init_107 : decode cX7_init 107 = .ok (.bipush 6, 2) := by decide +kernel
theorem dX7_init_109 : decode cX7_init 109 = .ok (.newarray .int, 2) := by decide +kernel
theorem dX7_init_111 : decode cX7_init 111 = .ok (.putfield 64, 3) := by decide +kernel
theorem dX7_init_114 : decode cX7_init 114 = .ok (.aload_n 0, 1) := by decide +kernel
theorem dX7_init_115 : decode cX7_init 115 = .ok (.getfield 16, 3) := by decide +kernel
theorem dX7_init_118 : decode cX7_init 118 = .ok (.invokevirtual 67, 3) := by decide +kernel
theorem dX7_init_121 : decode cX7_init 121 = .ok (.return_, 1) := by decide +kernel
theorem dX8_init_0 : decode cX8_init 0 = .ok (.aload_n 0, 1) := by decide +kernel
theorem dX8_init_1 : decode cX8_init 1 = .ok (.invokespecial 1, 3) := by decide +kernel
theorem dX8_init_4 : decode cX8_init 4 = .ok (.aload_n 0, 1) := by decide +kernel
theorem dX8_init_5 : decode cX8_init 5 = .ok (.sipush 1600, 3) := by decide +kernel
theorem dX8_init_8 : decode cX8_init 8 = .ok (.newarray .int, 2) := by decide +kernel
theorem dX8_init_10 : decode cX8_init 10 = .ok (.putfield 7, 3) := by decide +kernel
theorem dX8_init_13 : decode cX8_init 13 = .ok (.aload_n 0, 1) := by decide +kernel
theorem dX8_init_14 : decode cX8_init 14 = .ok (.iconst (-1), 1) := by decide +kernel
theorem dX8_init_15 : decode cX8_init 15 = .ok (.putfield 13, 3) := by decide +kernel
theorem dX8_init_18 : decode cX8_init 18 = .ok (.aload_n 0, 1) := by decide +kernel
theorem dX8_init_19 : decode cX8_init 19 = .ok (.bipush 6, 2) := by decide +kernel
theorem dX8_init_21 : decode cX8_init 21 = .ok (.newarray .int, 2) := by decide +kernel
theorem dX8_init_23 : decode cX8_init 23 = .ok (.putfield 17, 3) := by decide +kernel
theorem dX8_init_26 : decode cX8_init 26 = .ok (.aload_n 0, 1) := by decide +kernel
theorem dX8_init_27 : decode cX8_init 27 = .ok (.bipush 6, 2) := by decide +kernel
theorem dX8_init_29 : decode cX8_init 29 = .ok (.newarray .char, 2) := by decide +kernel
theorem dX8_init_31 : decode cX8_init 31 = .ok (.dup, 1) := by decide +kernel
theorem dX8_init_32 : decode cX8_init 32 = .ok (.iconst 0, 1) := by decide +kernel
theorem dX8_init_33 : decode cX8_init 33 = .ok (.bipush 98, 2) := by decide +kernel
theorem dX8_init_35 : decode cX8_init 35 = .ok (.castore, 1) := by decide +kernel
theorem dX8_init_36 : decode cX8_init 36 = .ok (.dup, 1) := by decide +kernel
theorem dX8_init_37 : decode cX8_init 37 = .ok (.iconst 1, 1) := by decide +kernel
theorem dX8_init_38 : decode cX8_init 38 = .ok (.bipush 111, 2) := by decide +kernel
theorem dX8_init_40 : decode cX8_init 40 = .ok (.castore, 1) := by decide +kernel
theorem dX8_init_41 : decode cX8_init 41 = .ok (.dup, 1) := by decide +kernel
theorem dX8_init_42 : decode cX8_init 42 = .ok (.iconst 2, 1) := by decide +kernel
theorem dX8_init_43 : decode cX8_init 43 = .ok (.bipush 98, 2) := by decide +kernel
theorem dX8_init_45 : decode cX8_init 45 = .ok (.castore, 1) := by decide +kernel
theorem dX8_init_46 : decode cX8_init 46 = .ok (.dup, 1) := by decide +kernel
theorem dX8_init_47 : decode cX8_init 47 = .ok (.iconst 3, 1) := by decide +kernel
theorem dX8_init_48 : decode cX8_init 48 = .ok (.bipush 98, 2) := by decide +kernel
theorem dX8_init_50 : decode cX8_init 50 = .ok (.castore, 1) := by decide +kernel
theorem dX8_init_51 : decode cX8_init 51 = .ok (.dup, 1) := by decide +kernel
theorem dX8_init_52 : decode cX8_init 52 = .ok (.iconst 4, 1) := by decide +kernel
theorem dX8_init_53 : decode cX8_init 53 = .ok (.bipush 105, 2) := by decide +kernel
theorem dX8_init_55 : decode cX8_init 55 = .ok (.castore, 1) := by decide +kernel
theorem dX8_init_56 : decode cX8_init 56 = .ok (.dup, 1) := by decide +kernel
theorem dX8_init_57 : decode cX8_init 57 = .ok (.iconst 5, 1) := by decide +kernel
theorem dX8_init_58 : decode cX8_init 58 = .ok (.bipush 110, 2) := by decide +kernel
theorem dX8_init_60 : decode cX8_init 60 = .ok (.castore, 1) := by decide +kernel
theorem dX8_init_61 : decode cX8_init 61 = .ok (.putfield 20, 3) := by decide +kernel
theorem dX8_init_64 : decode cX8_init 64 = .ok (.aload_n 0, 1) := by decide +kernel
theorem dX8_init_65 : decode cX8_init 65 = .ok (.iconst 5, 1) := by decide +kernel
theorem dX8_init_66 : decode cX8_init 66 = .ok (.newarray .char, 2) := by decide +kernel
theorem dX8_init_68 : decode cX8_init 68 = .ok (.dup, 1) := by decide +kernel
theorem dX8_init_69 : decode cX8_init 69 = .ok (.iconst 0, 1) := by decide +kernel
theorem dX8_init_70 : decode cX8_init 70 = .ok (.bipush 108, 2) := by decide +kernel
theorem dX8_init_72 : decode cX8_init 72 = .ok (.castore, 1) := by decide +kernel
theorem dX8_init_73 : decode cX8_init 73 = .ok (.dup, 1) := by decide +kernel
theorem dX8_init_74 : decode cX8_init 74 = .ok (.iconst 1, 1) := by decide +kernel
theorem dX8_init_75 : decode cX8_init 75 = .ok (.bipush 97, 2) := by decide +kernel
theorem dX8_init_77 : decode cX8_init 77 = .ok (.castore, 1) := by decide +kernel
theorem dX8_init_78 : decode cX8_init 78 = .ok (.dup, 1) := by decide +kernel
theorem dX8_init_79 : decode cX8_init 79 = .ok (.iconst 2, 1) := by decide +kernel
theorem dX8_init_80 : decode cX8_init 80 = .ok (.bipush 115, 2) := by decide +kernel
theorem dX8_init_82 : decode cX8_init 82 = .ok (.castore, 1) := by decide +kernel
theorem dX8_init_83 : decode cX8_init 83 = .ok (.dup, 1) := by decide +kernel
theorem dX8_init_84 : decode cX8_init 84 = .ok (.iconst 3, 1) := by decide +kernel
theorem dX8_init_85 : decode cX8_init 85 = .ok (.bipush 116, 2) := by decide +kernel
theorem dX8_init_87 : decode cX8_init 87 = .ok (.castore, 1) := by decide +kernel
theorem dX8_init_88 : decode cX8_init 88 = .ok (.dup, 1) := by decide +kernel
theorem dX8_init_89 : decode cX8_init 89 = .ok (.iconst 4, 1) := by decide +kernel
theorem dX8_init_90 : decode cX8_init 90 = .ok (.bipush 115, 2) := by decide +kernel
theorem dX8_init_92 : decode cX8_init 92 = .ok (.castore, 1) := by decide +kernel
theorem dX8_init_93 : decode cX8_init 93 = .ok (.putfield 24, 3) := by decide +kernel
theorem dX8_init_96 : decode cX8_init 96 = .ok (.aload_n 0, 1) := by decide +kernel
theorem dX8_init_97 : decode cX8_init 97 = .ok (.iconst 4, 1) := by decide +kernel
theorem dX8_init_98 : decode cX8_init 98 = .ok (.newarray .char, 2) := by decide +kernel
theorem dX8_init_100 : decode cX8_init 100 = .ok (.dup, 1) := by decide +kernel
theorem dX8_init_101 : decode cX8_init 101 = .ok (.iconst 0, 1) := by decide +kernel
theorem dX8_init_102 : decode cX8_init 102 = .ok (.bipush 111, 2) := by decide +kernel
theorem dX8_init_104 : decode cX8_init 104 = .ok (.castore, 1) := by decide +kernel
theorem dX8_init_105 : decode cX8_init 105 = .ok (.dup, 1) := by decide +kernel
theorem dX8_init_106 : decode cX8_init 106 = .ok (.iconst 1, 1) := by decide +kernel
theorem dX8_init_107 : decode cX8_init 107 = .ok (.bipush 100, 2) := by decide +kernel
theorem dX8_init_109 : decode cX8_init 109 = .ok (.castore, 1) := by decide +kernel
theorem dX8_init_110 : decode cX8_init 110 = .ok (.dup, 1) := by decide +kernel
theorem dX8_init_111 : decode cX8_init 111 = .ok (.iconst 2, 1) := by decide +kernel
theorem dX8_init_112 : decode cX8_init 112 = .ok (.bipush 100, 2) := by decide +kernel
theorem dX8_init_114 : decode cX8_init 114 = .ok (.castore, 1) := by decide +kernel
theorem dX8_init_115 : decode cX8_init 115 = .ok (.dup, 1) := by decide +kernel
theorem dX8_init_116 : decode cX8_init 116 = .ok (.iconst 3, 1) := by decide +kernel
theorem dX8_init_117 : decode cX8_init 117 = .ok (.bipush 115, 2) := by decide +kernel
theorem dX8_init_119 : decode cX8_init 119 = .ok (.castore, 1) := by decide +kernel
theorem dX8_init_120 : decode cX8_init 120 = .ok (.putfield 27, 3) := by decide +kernel
theorem dX8_init_123 : decode cX8_init 123 = .ok (.aload_n 0, 1) := by decide +kernel
theorem dX8_init_124 : decode cX8_init 124 = .ok (.iconst 4, 1) := by decide +kernel
theorem dX8_init_125 : decode cX8_init 125 = .ok (.newarray .char, 2) := by decide +kernel
theorem dX8_init_127 : decode cX8_init 127 = .ok (.dup, 1) := by decide +kernel
theorem dX8_init_128 : decode cX8_init 128 = .ok (.iconst 0, 1) := by decide +kernel
theorem dX8_init_129 : decode cX8_init 129 = .ok (.bipush 115, 2) := by decide +kernel
theorem dX8_init_131 : decode cX8_init 131 = .ok (.castore, 1) := by decide +kernel
theorem dX8_init_132 : decode cX8_init 132 = .ok (.dup, 1) := by decide +kernel
theorem dX8_init_133 : decode cX8_init 133 = .ok (.iconst 1, 1) := by decide +kernel
theorem dX8_init_134 : decode cX8_init 134 = .ok (.bipush 101, 2) := by decide +kernel
theorem dX8_init_136 : decode cX8_init 136 = .ok (.castore, 1) := by decide +kernel
theorem dX8_init_137 : decode cX8_init 137 = .ok (.dup, 1) := by decide +kernel
theorem dX8_init_138 : decode cX8_init 138 = .ok (.iconst 2, 1) := by decide +kernel
theorem dX8_init_139 : decode cX8_init 139 = .ok (.bipush 97, 2) := by decide +kernel
theorem dX8_init_141 : decode cX8_init 141 = .ok (.castore, 1) := by decide +kernel
theorem dX8_init_142 : decode cX8_init 142 = .ok (.dup, 1) := by decide +kernel
theorem dX8_init_143 : decode cX8_init 143 = .ok (.iconst 3, 1) := by decide +kernel
theorem dX8_init_144 : decode cX8_init 144 = .ok (.bipush 109, 2) := by decide +kernel
theorem dX8_init_146 : decode cX8_init 146 = .ok (.castore, 1) := by decide +kernel
theorem dX8_init_147 : decode cX8_init 147 = .ok (.putfield 30, 3) := by decide +kernel
theorem dX8_init_150 : decode cX8_init 150 = .ok (.aload_n 0, 1) := by decide +kernel
theorem dX8_init_151 : decode cX8_init 151 = .ok (.iconst 5, 1) := by decide +kernel
theorem dX8_init_152 : decode cX8_init 152 = .ok (.newarray .char, 2) := by decide +kernel
theorem dX8_init_154 : decode cX8_init 154 = .ok (.dup, 1) := by decide +kernel
theorem dX8_init_155 : decode cX8_init 155 = .ok (.iconst 0, 1) := by decide +kernel
theorem dX8_init_156 : decode cX8_init 156 = .ok (.bipush 116, 2) := by decide +kernel
theorem dX8_init_158 : decode cX8_init 158 = .ok (.castore, 1) := by decide +kernel
theorem dX8_init_159 : decode cX8_init 159 = .ok (.dup, 1) := by decide +kernel
theorem dX8_init_160 : decode cX8_init 160 = .ok (.iconst 1, 1) := by decide +kernel
theorem dX8_init_161 : decode cX8_init 161 = .ok (.bipush 97, 2) := by decide +kernel
theorem dX8_init_163 : decode cX8_init 163 = .ok (.castore, 1) := by decide +kernel
theorem dX8_init_164 : decode cX8_init 164 = .ok (.dup, 1) := by decide +kernel
theorem dX8_init_165 : decode cX8_init 165 = .ok (.iconst 2, 1) := by decide +kernel
theorem dX8_init_166 : decode cX8_init 166 = .ok (.bipush 107, 2) := by decide +kernel
theorem dX8_init_168 : decode cX8_init 168 = .ok (.castore, 1) := by decide +kernel
theorem dX8_init_169 : decode cX8_init 169 = .ok (.dup, 1) := by decide +kernel
theorem dX8_init_170 : decode cX8_init 170 = .ok (.iconst 3, 1) := by decide +kernel
theorem dX8_init_171 : decode cX8_init 171 = .ok (.bipush 101, 2) := by decide +kernel
theorem dX8_init_173 : decode cX8_init 173 = .ok (.castore, 1) := by decide +kernel
theorem dX8_init_174 : decode cX8_init 174 = .ok (.dup, 1) := by decide +kernel
theorem dX8_init_175 : decode cX8_init 175 = .ok (.iconst 4, 1) := by decide +kernel
theorem dX8_init_176 : decode cX8_init 176 = .ok (.bipush 115, 2) := by decide +kernel
theorem dX8_init_178 : decode cX8_init 178 = .ok (.castore, 1) := by decide +kernel
theorem dX8_init_179 : decode cX8_init 179 = .ok (.putfield 33, 3) := by decide +kernel
theorem dX8_init_182 : decode cX8_init 182 = .ok (.aload_n 0, 1) := by decide +kernel
theorem dX8_init_183 : decode cX8_init 183 = .ok (.iconst 5, 1) := by decide +kernel
theorem dX8_init_184 : decode cX8_init 184 = .ok (.newarray .char, 2) := by decide +kernel
theorem dX8_init_186 : decode cX8_init 186 = .ok (.dup, 1) := by decide +kernel
theorem dX8_init_187 : decode cX8_init 187 = .ok (.iconst 0, 1) := by decide +kernel
theorem dX8_init_188 : decode cX8_init 188 = .ok (.bipush 115, 2) := by decide +kernel
theorem dX8_init_190 : decode cX8_init 190 = .ok (.castore, 1) := by decide +kernel
theorem dX8_init_191 : decode cX8_init 191 = .ok (.dup, 1) := by decide +kernel
theorem dX8_init_192 : decode cX8_init 192 = .ok (.iconst 1, 1) := by decide +kernel
theorem dX8_init_193 : decode cX8_init 193 = .ok (.bipush 104, 2) := by decide +kernel
theorem dX8_init_195 : decode cX8_init 195 = .ok (.castore, 1) := by decide +kernel
theorem dX8_init_196 : decode cX8_init 196 = .ok (.dup, 1) := by decide +kernel
theorem dX8_init_197 : decode cX8_init 197 = .ok (.iconst 2, 1) := by decide +kernel
theorem dX8_init_198 : decode cX8_init 198 = .ok (.bipush 111, 2) := by decide +kernel
theorem dX8_init_200 : decode cX8_init 200 = .ok (.castore, 1) := by decide +kernel
theorem dX8_init_201 : decode cX8_init 201 = .ok (.dup, 1) := by decide +kernel
theorem dX8_init_202 : decode cX8_init 202 = .ok (.iconst 3, 1) := by decide +kernel
theorem dX8_init_203 : decode cX8_init 203 = .ok (.bipush 119, 2) := by decide +kernel
theorem dX8_init_205 : decode cX8_init 205 = .ok (.castore, 1) := by decide +kernel
theorem dX8_init_206 : decode cX8_init 206 = .ok (.dup, 1) := by decide +kernel
theorem dX8_init_207 : decode cX8_init 207 = .ok (.iconst 4, 1) := by decide +kernel
theorem dX8_init_208 : decode cX8_init 208 = .ok (.bipush 110, 2) := by decide +kernel
theorem dX8_init_210 : decode cX8_init 210 = .ok (.castore, 1) := by decide +kernel
theorem dX8_init_211 : decode cX8_init 211 = .ok (.putfield 36, 3) := by decide +kernel
theorem dX8_init_214 : decode cX8_init 214 = .ok (.aload_n 0, 1) := by decide +kernel
theorem dX8_init_215 : decode cX8_init 215 = .ok (.iconst 4, 1) := by decide +kernel
theorem dX8_init_216 : decode cX8_init 216 = .ok (.newarray .char, 2) := by decide +kernel
theorem dX8_init_218 : decode cX8_init 218 = .ok (.dup, 1) := by decide +kernel
theorem dX8_init_219 : decode cX8_init 219 = .ok (.iconst 0, 1) := by decide +kernel
theorem dX8_init_220 : decode cX8_init 220 = .ok (.bipush 97, 2) := by decide +kernel
theorem dX8_init_222 : decode cX8_init 222 = .ok (.castore, 1) := by decide +kernel
theorem dX8_init_223 : decode cX8_init 223 = .ok (.dup, 1) := by decide +kernel
theorem dX8_init_224 : decode cX8_init 224 = .ok (.iconst 1, 1) := by decide +kernel
theorem dX8_init_225 : decode cX8_init 225 = .ok (.bipush 110, 2) := by decide +kernel
theorem dX8_init_227 : decode cX8_init 227 = .ok (.castore, 1) := by decide +kernel
theorem dX8_init_228 : decode cX8_init 228 = .ok (.dup, 1) := by decide +kernel
theorem dX8_init_229 : decode cX8_init 229 = .ok (.iconst 2, 1) := by decide +kernel
theorem dX8_init_230 : decode cX8_init 230 = .ok (.bipush 101, 2) := by decide +kernel
theorem dX8_init_232 : decode cX8_init 232 = .ok (.castore, 1) := by decide +kernel
theorem dX8_init_233 : decode cX8_init 233 = .ok (.dup, 1) := by decide +kernel
theorem dX8_init_234 : decode cX8_init 234 = .ok (.iconst 3, 1) := by decide +kernel
theorem dX8_init_235 : decode cX8_init 235 = .ok (.bipush 119, 2) := by decide +kernel
theorem dX8_init_237 : decode cX8_init 237 = .ok (.castore, 1) := by decide +kernel
theorem dX8_init_238 : decode cX8_init 238 = .ok (.putfield 39, 3) := by decide +kernel
theorem dX8_init_241 : decode cX8_init 241 = .ok (.aload_n 0, 1) := by decide +kernel
theorem dX8_init_242 : decode cX8_init 242 = .ok (.iconst 4, 1) := by decide +kernel
theorem dX8_init_243 : decode cX8_init 243 = .ok (.newarray .char, 2) := by decide +kernel
theorem dX8_init_245 : decode cX8_init 245 = .ok (.dup, 1) := by decide +kernel
theorem dX8_init_246 : decode cX8_init 246 = .ok (.iconst 0, 1) := by decide +kernel
theorem dX8_init_247 : decode cX8_init 247 = .ok (.bipush 114, 2) := by decide +kernel
theorem dX8_init_249 : decode cX8_init 249 = .ok (.castore, 1) := by decide +kernel
theorem dX8_init_250 : decode cX8_init 250 = .ok (.dup, 1) := by decide +kernel
theorem dX8_init_251 : decode cX8_init 251 = .ok (.iconst 1, 1) := by decide +kernel
theorem dX8_init_252 : decode cX8_init 252 = .ok (.bipush 117, 2) := by decide +kernel
theorem dX8_init_254 : decode cX8_init 254 = .ok (.castore, 1) := by decide +kernel
theorem dX8_init_255 : decode cX8_init 255 = .ok (.dup, 1) := by decide +kernel
theorem dX8_init_256 : decode cX8_init 256 = .ok (.iconst 2, 1) := by decide +kernel
theorem dX8_init_257 : decode cX8_init 257 = .ok (.bipush 108, 2) := by decide +kernel
theorem dX8_init_259 : decode cX8_init 259 = .ok (.castore, 1) := by decide +kernel
theorem dX8_init_260 : decode cX8_init 260 = .ok (.dup, 1) := by decide +kernel
theorem dX8_init_261 : decode cX8_init 261 = .ok (.iconst 3, 1) := by decide +kernel
theorem dX8_init_262 : decode cX8_init 262 = .ok (.bipush 101, 2) := by decide +kernel
theorem dX8_init_264 : decode cX8_init 264 = .ok (.castore, 1) := by decide +kernel
theorem dX8_init_265 : decode cX8_init 265 = .ok (.putfield 42, 3) := by decide +kernel
theorem dX8_init_268 : decode cX8_init 268 = .ok (.aload_n 0, 1) := by decide +kernel
theorem dX8_init_269 : decode cX8_init 269 = .ok (.iconst 4, 1) := by decide +kernel
theorem dX8_init_270 : decode cX8_init 270 = .ok (.newarray .char, 2) := by decide +kernel
theorem dX8_init_272 : decode cX8_init 272 = .ok (.dup, 1) := by decide +kernel
theorem dX8_init_273 : decode cX8_init 273 = .ok (.iconst 0, 1) := by decide +kernel
theorem dX8_init_274 : decode cX8_init 274 = .ok (.bipush 119, 2) := by decide +kernel
theorem dX8_init_276 : decode cX8_init 276 = .ok (.castore, 1) := by decide +kernel
theorem dX8_init_277 : decode cX8_init 277 = .ok (.dup, 1) := by decide +kernel
theorem dX8_init_278 : decode cX8_init 278 = .ok (.iconst 1, 1) := by decide +kernel
theorem dX8_init_279 : decode cX8_init 279 = .ok (.bipush 104, 2) := by decide +kernel
theorem dX8_init_281 : decode cX8_init 281 = .ok (.castore, 1) := by decide +kernel
theorem dX8_init_282 : decode cX8_init 282 = .ok (.dup, 1) := by decide +kernel
theorem dX8_init_283 : decode cX8_init 283 = .ok (.iconst 2, 1) := by decide +kernel
theorem dX8_init_284 : decode cX8_init 284 = .ok (.bipush 101, 2) := by decide +kernel
theorem dX8_init_286 : decode cX8_init 286 = .ok (.castore, 1) := by decide +kernel
theorem dX8_init_287 : decode cX8_init 287 = .ok (.dup, 1) := by decide +kernel
theorem dX8_init_288 : decode cX8_init 288 = .ok (.iconst 3, 1) := by decide +kernel
theorem dX8_init_289 : decode cX8_init 289 = .ok (.bipush 110, 2) := by decide +kernel
theorem dX8_init_291 : decode cX8_init 291 = .ok (.castore, 1) := by decide +kernel
theorem dX8_init_292 : decode cX8_init 292 = .ok (.putfield 45, 3) := by decide +kernel
theorem dX8_init_295 : decode cX8_init 295 = .ok (.aload_n 0, 1) := by decide +kernel
theorem dX8_init_296 : decode cX8_init 296 = .ok (.iconst 4, 1) := by decide +kernel
theorem dX8_init_297 : decode cX8_init 297 = .ok (.newarray .char, 2) := by decide +kernel
theorem dX8_init_299 : decode cX8_init 299 = .ok (.dup, 1) := by decide +kernel
theorem dX8_init_300 : decode cX8_init 300 = .ok (.iconst 0, 1) := by decide +kernel
theorem dX8_init_301 : decode cX8_init 301 = .ok (.bipush 119, 2) := by decide +kernel
theorem dX8_init_303 : decode cX8_init 303 = .ok (.castore, 1) := by decide +kernel
theorem dX8_init_304 : decode cX8_init 304 = .ok (.dup, 1) := by decide +kernel
theorem dX8_init_305 : decode cX8_init 305 = .ok (.iconst 1, 1) := by decide +kernel
theorem dX8_init_306 : decode cX8_init 306 = .ok (.bipush 105, 2) := by decide +kernel
theorem dX8_init_308 : decode cX8_init 308 = .ok (.castore, 1) := by decide +kernel
theorem dX8_init_309 : decode cX8_init 309 = .ok (.dup, 1) := by decide +kernel
theorem dX8_init_310 : decode cX8_init 310 = .ok (.iconst 2, 1) := by decide +kernel
theorem dX8_init_311 : decode cX8_init 311 = .ok (.bipush 110, 2) := by decide +kernel
theorem dX8_init_313 : decode cX8_init 313 = .ok (.castore, 1) := by decide +kernel
theorem dX8_init_314 : decode cX8_init 314 = .ok (.dup, 1) := by decide +kernel
theorem dX8_init_315 : decode cX8_init 315 = .ok (.iconst 3, 1) := by decide +kernel
theorem dX8_init_316 : decode cX8_init 316 = .ok (.bipush 100, 2) := by decide +kernel
theorem dX8_init_318 : decode cX8_init 318 = .ok (.castore, 1) := by decide +kernel
theorem dX8_init_319 : decode cX8_init 319 = .ok (.putfield 48, 3) := by decide +kernel
theorem dX8_init_322 : decode cX8_init 322 = .ok (.aload_n 0, 1) := by decide +kernel
theorem dX8_init_323 : decode cX8_init 323 = .ok (.iconst 4, 1) := by decide +kernel
theorem dX8_init_324 : decode cX8_init 324 = .ok (.newarray .char, 2) := by decide +kernel
theorem dX8_init_326 : decode cX8_init 326 = .ok (.dup, 1) := by decide +kernel
theorem dX8_init_327 : decode cX8_init 327 = .ok (.iconst 0, 1) := by decide +kernel
theorem dX8_init_328 : decode cX8_init 328 = .ok (.bipush 109, 2) := by decide +kernel
theorem dX8_init_330 : decode cX8_init 330 = .ok (.castore, 1) := by decide +kernel
theorem dX8_init_331 : decode cX8_init 331 = .ok (.dup, 1) := by decide +kernel
theorem dX8_init_332 : decode cX8_init 332 = .ok (.iconst 1, 1) := by decide +kernel
theorem dX8_init_333 : decode cX8_init 333 = .ok (.bipush 101, 2) := by decide +kernel
theorem dX8_init_335 : decode cX8_init 335 = .ok (.castore, 1) := by decide +kernel
theorem dX8_init_336 : decode cX8_init 336 = .ok (.dup, 1) := by decide +kernel
theorem dX8_init_337 : decode cX8_init 337 = .ok (.iconst 2, 1) := by decide +kernel
theorem dX8_init_338 : decode cX8_init 338 = .ok (.bipush 110, 2) := by decide +kernel
theorem dX8_init_340 : decode cX8_init 340 = .ok (.castore, 1) := by decide +kernel
theorem dX8_init_341 : decode cX8_init 341 = .ok (.dup, 1) := by decide +kernel
theorem dX8_init_342 : decode cX8_init 342 = .ok (.iconst 3, 1) := by decide +kernel
theorem dX8_init_343 : decode cX8_init 343 = .ok (.bipush 100, 2) := by decide +kernel
theorem dX8_init_345 : decode cX8_init 345 = .ok (.castore, 1) := by decide +kernel
theorem dX8_init_346 : decode cX8_init 346 = .ok (.putfield 51, 3) := by decide +kernel
theorem dX8_init_349 : decode cX8_init 349 = .ok (.aload_n 0, 1) := by decide +kernel
theorem dX8_init_350 : decode cX8_init 350 = .ok (.iconst 4, 1) := by decide +kernel
theorem dX8_init_351 : decode cX8_init 351 = .ok (.newarray .char, 2) := by decide +kernel
theorem dX8_init_353 : decode cX8_init 353 = .ok (.dup, 1) := by decide +kernel
theorem dX8_init_354 : decode cX8_init 354 = .ok (.iconst 0, 1) := by decide +kernel
theorem dX8_init_355 : decode cX8_init 355 = .ok (.bipush 108, 2) := by decide +kernel
theorem dX8_init_357 : decode cX8_init 357 = .ok (.castore, 1) := by decide +kernel
theorem dX8_init_358 : decode cX8_init 358 = .ok (.dup, 1) := by decide +kernel
theorem dX8_init_359 : decode cX8_init 359 = .ok (.iconst 1, 1) := by decide +kernel
theorem dX8_init_360 : decode cX8_init 360 = .ok (.bipush 111, 2) := by decide +kernel
theorem dX8_init_362 : decode cX8_init 362 = .ok (.castore, 1) := by decide +kernel
theorem dX8_init_363 : decode cX8_init 363 = .ok (.dup, 1) := by decide +kernel
theorem dX8_init_364 : decode cX8_init 364 = .ok (.iconst 2, 1) := by decide +kernel
theorem dX8_init_365 : decode cX8_init 365 = .ok (.bipush 111, 2) := by decide +kernel
theorem dX8_init_367 : decode cX8_init 367 = .ok (.castore, 1) := by decide +kernel
theorem dX8_init_368 : decode cX8_init 368 = .ok (.dup, 1) := by decide +kernel
theorem dX8_init_369 : decode cX8_init 369 = .ok (.iconst 3, 1) := by decide +kernel
theorem dX8_init_370 : decode cX8_init 370 = .ok (.bipush 107, 2) := by decide +kernel
theorem dX8_init_372 : decode cX8_init 372 = .ok (.castore, 1) := by decide +kernel
theorem dX8_init_373 : decode cX8_init 373 = .ok (.putfield 54, 3) := by decide +kernel
theorem dX8_init_376 : decode cX8_init 376 = .ok (.aload_n 0, 1) := by decide +kernel
theorem dX8_init_377 : decode cX8_init 377 = .ok (.iconst 5, 1) := by decide +kernel
theorem dX8_init_378 : decode cX8_init 378 = .ok (.newarray .char, 2) := by decide +kernel
theorem dX8_init_380 : decode cX8_init 380 = .ok (.dup, 1) := by decide +kernel
theorem dX8_init_381 : decode cX8_init 381 = .ok (.iconst 0, 1) := by decide +kernel
theorem dX8_init_382 : decode cX8_init 382 = .ok (.bipush 98, 2) := by decide +kernel
theorem dX8_init_384 : decode cX8_init 384 = .ok (.castore, 1) := by decide +kernel
theorem dX8_init_385 : decode cX8_init 385 = .ok (.dup, 1) := by decide +kernel
theorem dX8_init_386 : decode cX8_init 386 = .ok (.iconst 1, 1) := by decide +kernel
theorem dX8_init_387 : decode cX8_init 387 = .ok (.bipush 97, 2) := by decide +kernel
theorem dX8_init_389 : decode cX8_init 389 = .ok (.castore, 1) := by decide +kernel
theorem dX8_init_390 : decode cX8_init 390 = .ok (.dup, 1) := by decide +kernel
theorem dX8_init_391 : decode cX8_init 391 = .ok (.iconst 2, 1) := by decide +kernel
theorem dX8_init_392 : decode cX8_init 392 = .ok (.bipush 116, 2) := by decide +kernel
theorem dX8_init_394 : decode cX8_init 394 = .ok (.castore, 1) := by decide +kernel
theorem dX8_init_395 : decode cX8_init 395 = .ok (.dup, 1) := by decide +kernel
theorem dX8_init_396 : decode cX8_init 396 = .ok (.iconst 3, 1) := by decide +kernel
theorem dX8_init_397 : decode cX8_init 397 = .ok (.bipush 99, 2) := by decide +kernel
theorem dX8_init_399 : decode cX8_init 399 = .ok (.castore, 1) := by decide +kernel
theorem dX8_init_400 : decode cX8_init 400 = .ok (.dup, 1) := by decide +kernel
theorem dX8_init_401 : decode cX8_init 401 = .ok (.iconst 4, 1) := by decide +kernel
theorem dX8_init_402 : decode cX8_init 402 = .ok (.bipush 104, 2) := by decide +kernel
theorem dX8_init_404 : decode cX8_init 404 = .ok (.castore, 1) := by decide +kernel
theorem dX8_init_405 : decode cX8_init 405 = .ok (.putfield 57, 3) := by decide +kernel
theorem dX8_init_408 : decode cX8_init 408 = .ok (.aload_n 0, 1) := by decide +kernel
theorem dX8_init_409 : decode cX8_init 409 = .ok (.iconst 5, 1) := by decide +kernel
theorem dX8_init_410 : decode cX8_init 410 = .ok (.newarray .char, 2) := by decide +kernel
theorem dX8_init_412 : decode cX8_init 412 = .ok (.dup, 1) := by decide +kernel
theorem dX8_init_413 : decode cX8_init 413 = .ok (.iconst 0, 1) := by decide +kernel
theorem dX8_init_414 : decode cX8_init 414 = .ok (.bipush 97, 2) := by decide +kernel
theorem dX8_init_416 : decode cX8_init 416 = .ok (.castore, 1) := by decide +kernel
theorem dX8_init_417 : decode cX8_init 417 = .ok (.dup, 1) := by decide +kernel
theorem dX8_init_418 : decode cX8_init 418 = .ok (.iconst 1, 1) := by decide +kernel
theorem dX8_init_419 : decode cX8_init 419 = .ok (.bipush 104, 2) := by decide +kernel
theorem dX8_init_421 : decode cX8_init 421 = .ok (.castore, 1) := by decide +kernel
theorem dX8_init_422 : decode cX8_init 422 = .ok (.dup, 1) := by decide +kernel
theorem dX8_init_423 : decode cX8_init 423 = .ok (.iconst 2, 1) := by decide +kernel
theorem dX8_init_424 : decode cX8_init 424 = .ok (.bipush 101, 2) := by decide +kernel
theorem dX8_init_426 : decode cX8_init 426 = .ok (.castore, 1) := by decide +kernel
theorem dX8_init_427 : decode cX8_init 427 = .ok (.dup, 1) := by decide +kernel
theorem dX8_init_428 : decode cX8_init 428 = .ok (.iconst 3, 1) := by decide +kernel
theorem dX8_init_429 : decode cX8_init 429 = .ok (.bipush 97, 2) := by decide +kernel
theorem dX8_init_431 : decode cX8_init 431 = .ok (.castore, 1) := by decide +kernel
theorem dX8_init_432 : decode cX8_init 432 = .ok (.dup, 1) := by decide +kernel
theorem dX8_init_433 : decode cX8_init 433 = .ok (.iconst 4, 1) := by decide +kernel
theorem dX8_init_434 : decode cX8_init 434 = .ok (.bipush 100, 2) := by decide +kernel
theorem dX8_init_436 : decode cX8_init 436 = .ok (.castore, 1) := by decide +kernel
theorem dX8_init_437 : decode cX8_init 437 = .ok (.putfield 60, 3) := by decide +kernel
theorem dX8_init_440 : decode cX8_init 440 = .ok (.aload_n 0, 1) := by decide +kernel
theorem dX8_init_441 : decode cX8_init 441 = .ok (.iconst 5, 1) := by decide +kernel
theorem dX8_init_442 : decode cX8_init 442 = .ok (.newarray .char, 2) := by decide +kernel
theorem dX8_init_444 : decode cX8_init 444 = .ok (.dup, 1) := by decide +kernel
theorem dX8_init_445 : decode cX8_init 445 = .ok (.iconst 0, 1) := by decide +kernel
theorem dX8_init_446 : decode cX8_init 446 = .ok (.bipush 103, 2) := by decide +kernel
theorem dX8_init_448 : decode cX8_init 448 = .ok (.castore, 1) := by decide +kernel
theorem dX8_init_449 : decode cX8_init 449 = .ok (.dup, 1) := by decide +kernel
theorem dX8_init_450 : decode cX8_init 450 = .ok (.iconst 1, 1) := by decide +kernel
theorem dX8_init_451 : decode cX8_init 451 = .ok (.bipush 105, 2) := by decide +kernel
theorem dX8_init_453 : decode cX8_init 453 = .ok (.castore, 1) := by decide +kernel
theorem dX8_init_454 : decode cX8_init 454 = .ok (.dup, 1) := by decide +kernel
theorem dX8_init_455 : decode cX8_init 455 = .ok (.iconst 2, 1) := by decide +kernel
theorem dX8_init_456 : decode cX8_init 456 = .ok (.bipush 114, 2) := by decide +kernel
theorem dX8_init_458 : decode cX8_init 458 = .ok (.castore, 1) := by decide +kernel
theorem dX8_init_459 : decode cX8_init 459 = .ok (.dup, 1) := by decide +kernel
theorem dX8_init_460 : decode cX8_init 460 = .ok (.iconst 3, 1) := by decide +kernel
theorem dX8_init_461 : decode cX8_init 461 = .ok (.bipush 108, 2) := by decide +kernel
theorem dX8_init_463 : decode cX8_init 463 = .ok (.castore, 1) := by decide +kernel
theorem dX8_init_464 : decode cX8_init 464 = .ok (.dup, 1) := by decide +kernel
theorem dX8_init_465 : decode cX8_init 465 = .ok (.iconst 4, 1) := by decide +kernel
theorem dX8_init_466 : decode cX8_init 466 = .ok (.bipush 115, 2) := by decide +kernel
theorem dX8_init_468 : decode cX8_init 468 = .ok (.castore, 1) := by decide +kernel
theorem dX8_init_469 : decode cX8_init 469 = .ok (.putfield 63, 3) := by decide +kernel
theorem dX8_init_472 : decode cX8_init 472 = .ok (.aload_n 0, 1) := by decide +kernel
theorem dX8_init_473 : decode cX8_init 473 = .ok (.iconst 4, 1) := by decide +kernel
theorem dX8_init_474 : decode cX8_init 474 = .ok (.newarray .char, 2) := by decide +kernel
theorem dX8_init_476 : decode cX8_init 476 = .ok (.dup, 1) := by decide +kernel
theorem dX8_init_477 : decode cX8_init 477 = .ok (.iconst 0, 1) := by decide +kernel
theorem dX8_init_478 : decode cX8_init 478 = .ok (.bipush 117, 2) := by decide +kernel
theorem dX8_init_480 : decode cX8_init 480 = .ok (.castore, 1) := by decide +kernel
theorem dX8_init_481 : decode cX8_init 481 = .ok (.dup, 1) := by decide +kernel
theorem dX8_init_482 : decode cX8_init 482 = .ok (.iconst 1, 1) := by decide +kernel
theorem dX8_init_483 : decode cX8_init 483 = .ok (.bipush 115, 2) := by decide +kernel
theorem dX8_init_485 : decode cX8_init 485 = .ok (.castore, 1) := by decide +kernel
theorem dX8_init_486 : decode cX8_init 486 = .ok (.dup, 1) := by decide +kernel
theorem dX8_init_487 : decode cX8_init 487 = .ok (.iconst 2, 1) := by decide +kernel
theorem dX8_init_488 : decode cX8_init 488 = .ok (.bipush 101, 2) := by decide +kernel
theorem dX8_init_490 : decode cX8_init 490 = .ok (.castore, 1) := by decide +kernel
theorem dX8_init_491 : decode cX8_init 491 = .ok (.dup, 1) := by decide +kernel
theorem dX8_init_492 : decode cX8_init 492 = .ok (.iconst 3, 1) := by decide +kernel
theorem dX8_init_493 : decode cX8_init 493 = .ok (.bipush 100, 2) := by decide +kernel
theorem dX8_init_495 : decode cX8_init 495 = .ok (.castore, 1) := by decide +kernel
theorem dX8_init_496 : decode cX8_init 496 = .ok (.putfield 66, 3) := by decide +kernel
theorem dX8_init_499 : decode cX8_init 499 = .ok (.aload_n 0, 1) := by decide +kernel
theorem dX8_init_500 : decode cX8_init 500 = .ok (.iconst 4, 1) := by decide +kernel
theorem dX8_init_501 : decode cX8_init 501 = .ok (.newarray .char, 2) := by decide +kernel
theorem dX8_init_503 : decode cX8_init 503 = .ok (.dup, 1) := by decide +kernel
theorem dX8_init_504 : decode cX8_init 504 = .ok (.iconst 0, 1) := by decide +kernel
theorem dX8_init_505 : decode cX8_init 505 = .ok (.bipush 114, 2) := by decide +kernel
theorem dX8_init_507 : decode cX8_init 507 = .ok (.castore, 1) := by decide +kernel
theorem dX8_init_508 : decode cX8_init 508 = .ok (.dup, 1) := by decide +kernel
theorem dX8_init_509 : decode cX8_init 509 = .ok (.iconst 1, 1) := by decide +kernel
theorem dX8_init_510 : decode cX8_init 510 = .ok (.bipush 101, 2) := by decide +kernel
theorem dX8_init_512 : decode cX8_init 512 = .ok (.castore, 1) := by decide +kernel
theorem dX8_init_513 : decode cX8_init 513 = .ok (.dup, 1) := by decide +kernel
theorem dX8_init_514 : decode cX8_init 514 = .ok (.iconst 2, 1) := by decide +kernel
theorem dX8_init_515 : decode cX8_init 515 = .ok (.bipush 115, 2) := by decide +kernel
theorem dX8_init_517 : decode cX8_init 517 = .ok (.castore, 1) := by decide +kernel
theorem dX8_init_518 : decode cX8_init 518 = .ok (.dup, 1) := by decide +kernel
theorem dX8_init_519 : decode cX8_init 519 = .ok (.iconst 3, 1) := by decide +kernel
theorem dX8_init_520 : decode cX8_init 520 = .ok (.bipush 116, 2) := by decide +kernel
theorem dX8_init_522 : decode cX8_init 522 = .ok (.castore, 1) := by decide +kernel
theorem dX8_init_523 : decode cX8_init 523 = .ok (.putfield 69, 3) := by decide +kernel
theorem dX8_init_526 : decode cX8_init 526 = .ok (.aload_n 0, 1) := by decide +kernel
theorem dX8_init_527 : decode cX8_init 527 = .ok (.bipush 6, 2) := by decide +kernel
theorem dX8_init_529 : decode cX8_init 529 = .ok (.newarray .char, 2) := by decide +kernel
theorem dX8_init_531 : decode cX8_init 531 = .ok (.dup, 1) := by decide +kernel
theorem dX8_init_532 : decode cX8_init 532 = .ok (.iconst 0, 1) := by decide +kernel
theorem dX8_init_533 : decode cX8_init 533 = .ok (.bipush 110, 2) := by decide +kernel
theorem dX8_init_535 : decode cX8_init 535 = .ok (.castore, 1) := by decide +kernel
theorem dX8_init_536 : decode cX8_init 536 = .ok (.dup, 1) := by decide +kernel
theorem dX8_init_537 : decode cX8_init 537 = .ok (.iconst 1, 1) := by decide +kernel
theorem dX8_init_538 : decode cX8_init 538 = .ok (.bipush 117, 2) := by decide +kernel
theorem dX8_init_540 : decode cX8_init 540 = .ok (.castore, 1) := by decide +kernel
theorem dX8_init_541 : decode cX8_init 541 = .ok (.dup, 1) := by decide +kernel
theorem dX8_init_542 : decode cX8_init 542 = .ok (.iconst 2, 1) := by decide +kernel
theorem dX8_init_543 : decode cX8_init 543 = .ok (.bipush 109, 2) := by decide +kernel
theorem dX8_init_545 : decode cX8_init 545 = .ok (.castore, 1) := by decide +kernel
theorem dX8_init_546 : decode cX8_init 546 = .ok (.dup, 1) := by decide +kernel
theorem dX8_init_547 : decode cX8_init 547 = .ok (.iconst 3, 1) := by decide +kernel
theorem dX8_init_548 : decode cX8_init 548 = .ok (.bipush 98, 2) := by decide +kernel
theorem dX8_init_550 : decode cX8_init 550 = .ok (.castore, 1) := by decide +kernel
theorem dX8_init_551 : decode cX8_init 551 = .ok (.dup, 1) := by decide +kernel
theorem dX8_init_552 : decode cX8_init 552 = .ok (.iconst 4, 1) := by decide +kernel
theorem dX8_init_553 : decode cX8_init 553 = .ok (.bipush 101, 2) := by decide +kernel
theorem dX8_init_555 : decode cX8_init 555 = .ok (.castore, 1) := by decide +kernel
theorem dX8_init_556 : decode cX8_init 556 = .ok (.dup, 1) := by decide +kernel
theorem dX8_init_557 : decode cX8_init 557 = .ok (.iconst 5, 1) := by decide +kernel
theorem dX8_init_558 : decode cX8_init 558 = .ok (.bipush 114, 2) := by decide +kernel
theorem dX8_init_560 : decode cX8_init 560 = .ok (.castore, 1) := by decide +kernel
theorem dX8_init_561 : decode cX8_init 561 = .ok (.putfield 72, 3) := by decide +kernel
theorem dX8_init_564 : decode cX8_init 564 = .ok (.aload_n 0, 1) := by decide +kernel
theorem dX8_init_565 : decode cX8_init 565 = .ok (.iconst 5, 1) := by decide +kernel
theorem dX8_init_566 : decode cX8_init 566 = .ok (.newarray .char, 2) := by decide +kernel
theorem dX8_init_568 : decode cX8_init 568 = .ok (.dup, 1) := by decide +kernel
theorem dX8_init_569 : decode cX8_init 569 = .ok (.iconst 0, 1) := by decide +kernel
theorem dX8_init_570 : decode cX8_init 570 = .ok (.bipush 108, 2) := by decide +kernel
theorem dX8_init_572 : decode cX8_init 572 = .ok (.castore, 1) := by decide +kernel
theorem dX8_init_573 : decode cX8_init 573 = .ok (.dup, 1) := by decide +kernel
theorem dX8_init_574 : decode cX8_init 574 = .ok (.iconst 1, 1) := by decide +kernel
theorem dX8_init_575 : decode cX8_init 575 = .ok (.bipush 101, 2) := by decide +kernel
theorem dX8_init_577 : decode cX8_init 577 = .ok (.castore, 1) := by decide +kernel
theorem dX8_init_578 : decode cX8_init 578 = .ok (.dup, 1) := by decide +kernel
theorem dX8_init_579 : decode cX8_init 579 = .ok (.iconst 2, 1) := by decide +kernel
theorem dX8_init_580 : decode cX8_init 580 = .ok (.bipush 97, 2) := by decide +kernel
theorem dX8_init_582 : decode cX8_init 582 = .ok (.castore, 1) := by decide +kernel
theorem dX8_init_583 : decode cX8_init 583 = .ok (.dup, 1) := by decide +kernel
theorem dX8_init_584 : decode cX8_init 584 = .ok (.iconst 3, 1) := by decide +kernel
theorem dX8_init_585 : decode cX8_init 585 = .ok (.bipush 115, 2) := by decide +kernel
theorem dX8_init_587 : decode cX8_init 587 = .ok (.castore, 1) := by decide +kernel
theorem dX8_init_588 : decode cX8_init 588 = .ok (.dup, 1) := by decide +kernel
theorem dX8_init_589 : decode cX8_init 589 = .ok (.iconst 4, 1) := by decide +kernel
theorem dX8_init_590 : decode cX8_init 590 = .ok (.bipush 116, 2) := by decide +kernel
theorem dX8_init_592 : decode cX8_init 592 = .ok (.castore, 1) := by decide +kernel
theorem dX8_init_593 : decode cX8_init 593 = .ok (.putfield 75, 3) := by decide +kernel
theorem dX8_init_596 : decode cX8_init 596 = .ok (.aload_n 0, 1) := by decide +kernel
theorem dX8_init_597 : decode cX8_init 597 = .ok (.iconst 4, 1) := by decide +kernel
theorem dX8_init_598 : decode cX8_init 598 = .ok (.newarray .char, 2) := by decide +kernel
theorem dX8_init_600 : decode cX8_init 600 = .ok (.dup, 1) := by decide +kernel
theorem dX8_init_601 : decode cX8_init 601 = .ok (.iconst 0, 1) := by decide +kernel
theorem dX8_init_602 : decode cX8_init 602 = .ok (.bipush 109, 2) := by decide +kernel
theorem dX8_init_604 : decode cX8_init 604 = .ok (.castore, 1) := by decide +kernel
theorem dX8_init_605 : decode cX8_init 605 = .ok (.dup, 1) := by decide +kernel
theorem dX8_init_606 : decode cX8_init 606 = .ok (.iconst 1, 1) := by decide +kernel
theorem dX8_init_607 : decode cX8_init 607 = .ok (.bipush 111, 2) := by decide +kernel
theorem dX8_init_609 : decode cX8_init 609 = .ok (.castore, 1) := by decide +kernel
theorem dX8_init_610 : decode cX8_init 610 = .ok (.dup, 1) := by decide +kernel
theorem dX8_init_611 : decode cX8_init 611 = .ok (.iconst 2, 1) := by decide +kernel
theorem dX8_init_612 : decode cX8_init 612 = .ok (.bipush 115, 2) := by decide +kernel
theorem dX8_init_614 : decode cX8_init 614 = .ok (.castore, 1) := by decide +kernel
theorem dX8_init_615 : decode cX8_init 615 = .ok (.dup, 1) := by decide +kernel
theorem dX8_init_616 : decode cX8_init 616 = .ok (.iconst 3, 1) := by decide +kernel
theorem dX8_init_617 : decode cX8_init 617 = .ok (.bipush 116, 2) := by decide +kernel
theorem dX8_init_619 : decode cX8_init 619 = .ok (.castore, 1) := by decide +kernel
theorem dX8_init_620 : decode cX8_init 620 = .ok (.putfield 78, 3) := by decide +kernel
theorem dX8_init_623 : decode cX8_init 623 = .ok (.aload_n 0, 1) := by decide +kernel
theorem dX8_init_624 : decode cX8_init 624 = .ok (.iconst 4, 1) := by decide +kernel
theorem dX8_init_625 : decode cX8_init 625 = .ok (.newarray .char, 2) := by decide +kernel
theorem dX8_init_627 : decode cX8_init 627 = .ok (.dup, 1) := by decide +kernel
theorem dX8_init_628 : decode cX8_init 628 = .ok (.iconst 0, 1) := by decide +kernel
theorem dX8_init_629 : decode cX8_init 629 = .ok (.bipush 108, 2) := by decide +kernel
theorem dX8_init_631 : decode cX8_init 631 = .ok (.castore, 1) := by decide +kernel
theorem dX8_init_632 : decode cX8_init 632 = .ok (.dup, 1) := by decide +kernel
theorem dX8_init_633 : decode cX8_init 633 = .ok (.iconst 1, 1) := by decide +kernel
theorem dX8_init_634 : decode cX8_init 634 = .ok (.bipush 101, 2) := by decide +kernel
theorem dX8_init_636 : decode cX8_init 636 = .ok (.castore, 1) := by decide +kernel
theorem dX8_init_637 : decode cX8_init 637 = .ok (.dup, 1) := by decide +kernel
theorem dX8_init_638 : decode cX8_init 638 = .ok (.iconst 2, 1) := by decide +kernel
theorem dX8_init_639 : decode cX8_init 639 = .ok (.bipush 102, 2) := by decide +kernel
theorem dX8_init_641 : decode cX8_init 641 = .ok (.castore, 1) := by decide +kernel
theorem dX8_init_642 : decode cX8_init 642 = .ok (.dup, 1) := by decide +kernel
theorem dX8_init_643 : decode cX8_init 643 = .ok (.iconst 3, 1) := by decide +kernel
theorem dX8_init_644 : decode cX8_init 644 = .ok (.bipush 116, 2) := by decide +kernel
theorem dX8_init_646 : decode cX8_init 646 = .ok (.castore, 1) := by decide +kernel
theorem dX8_init_647 : decode cX8_init 647 = .ok (.putfield 81, 3) := by decide +kernel
theorem dX8_init_650 : decode cX8_init 650 = .ok (.aload_n 0, 1) := by decide +kernel
theorem dX8_init_651 : decode cX8_init 651 = .ok (.bipush 7, 2) := by decide +kernel
theorem dX8_init_653 : decode cX8_init 653 = .ok (.newarray .char, 2) := by decide +kernel
theorem dX8_init_655 : decode cX8_init 655 = .ok (.dup, 1) := by decide +kernel
theorem dX8_init_656 : decode cX8_init 656 = .ok (.iconst 0, 1) := by decide +kernel
theorem dX8_init_657 : decode cX8_init 657 = .ok (.bipush 99, 2) := by decide +kernel
theorem dX8_init_659 : decode cX8_init 659 = .ok (.castore, 1) := by decide +kernel
theorem dX8_init_660 : decode cX8_init 660 = .ok (.dup, 1) := by decide +kernel
theorem dX8_init_661 : decode cX8_init 661 = .ok (.iconst 1, 1) := by decide +kernel
theorem dX8_init_662 : decode cX8_init 662 = .ok (.bipush 104, 2) := by decide +kernel
theorem dX8_init_664 : decode cX8_init 664 = .ok (.castore, 1) := by decide +kernel
theorem dX8_init_665 : decode cX8_init 665 = .ok (.dup, 1) := by decide +kernel
theorem dX8_init_666 : decode cX8_init 666 = .ok (.iconst 2, 1) := by decide +kernel
theorem dX8_init_667 : decode cX8_init 667 = .ok (.bipush 97, 2) := by decide +kernel
theorem dX8_init_669 : decode cX8_init 669 = .ok (.castore, 1) := by decide +kernel
theorem dX8_init_670 : decode cX8_init 670 = .ok (.dup, 1) := by decide +kernel
theorem dX8_init_671 : decode cX8_init 671 = .ok (.iconst 3, 1) := by decide +kernel
theorem dX8_init_672 : decode cX8_init 672 = .ok (.bipush 110, 2) := by decide +kernel
theorem dX8_init_674 : decode cX8_init 674 = .ok (.castore, 1) := by decide +kernel
theorem dX8_init_675 : decode cX8_init 675 = .ok (.dup, 1) := by decide +kernel
theorem dX8_init_676 : decode cX8_init 676 = .ok (.iconst 4, 1) := by decide +kernel
theorem dX8_init_677 : decode cX8_init 677 = .ok (.bipush 103, 2) := by decide +kernel
theorem dX8_init_679 : decode cX8_init 679 = .ok (.castore, 1) := by decide +kernel
theorem dX8_init_680 : decode cX8_init 680 = .ok (.dup, 1) := by decide +kernel
theorem dX8_init_681 : decode cX8_init 681 = .ok (.iconst 5, 1) := by decide +kernel
theorem dX8_init_682 : decode cX8_init 682 = .ok (.bipush 101, 2) := by decide +kernel
theorem dX8_init_684 : decode cX8_init 684 = .ok (.castore, 1) := by decide +kernel
theorem dX8_init_685 : decode cX8_init 685 = .ok (.dup, 1) := by decide +kernel
theorem dX8_init_686 : decode cX8_init 686 = .ok (.bipush 6, 2) := by decide +kernel
theorem dX8_init_688 : decode cX8_init 688 = .ok (.bipush 100, 2) := by decide +kernel
theorem dX8_init_690 : decode cX8_init 690 = .ok (.castore, 1) := by decide +kernel
theorem dX8_init_691 : decode cX8_init 691 = .ok (.putfield 84, 3) := by decide +kernel
theorem dX8_init_694 : decode cX8_init 694 = .ok (.aload_n 0, 1) := by decide +kernel
theorem dX8_init_695 : decode cX8_init 695 = .ok (.bipush 6, 2) := by decide +kernel
theorem dX8_init_697 : decode cX8_init 697 = .ok (.newarray .char, 2) := by decide +kernel
theorem dX8_init_699 : decode cX8_init 699 = .ok (.dup, 1) := by decide +kernel
theorem dX8_init_700 : decode cX8_init 700 = .ok (.iconst 0, 1) := by decide +kernel
theorem dX8_init_701 : decode cX8_init 701 = .ok (.bipush 109, 2) := by decide +kernel
theorem dX8_init_703 : decode cX8_init 703 = .ok (.castore, 1) := by decide +kernel
theorem dX8_init_704 : decode cX8_init 704 = .ok (.dup, 1) := by decide +kernel
theorem dX8_init_705 : decode cX8_init 705 = .ok (.iconst 1, 1) := by decide +kernel
theorem dX8_init_706 : decode cX8_init 706 = .ok (.bipush 101, 2) := by decide +kernel
theorem dX8_init_708 : decode cX8_init 708 = .ok (.castore, 1) := by decide +kernel
theorem dX8_init_709 : decode cX8_init 709 = .ok (.dup, 1) := by decide +kernel
theorem dX8_init_710 : decode cX8_init 710 = .ok (.iconst 2, 1) := by decide +kernel
theorem dX8_init_711 : decode cX8_init 711 = .ok (.bipush 110, 2) := by decide +kernel
theorem dX8_init_713 : decode cX8_init 713 = .ok (.castore, 1) := by decide +kernel
theorem dX8_init_714 : decode cX8_init 714 = .ok (.dup, 1) := by decide +kernel
theorem dX8_init_715 : decode cX8_init 715 = .ok (.iconst 3, 1) := by decide +kernel
theorem dX8_init_716 : decode cX8_init 716 = .ok (.bipush 100, 2) := by decide +kernel
theorem dX8_init_718 : decode cX8_init 718 = .ok (.castore, 1) := by decide +kernel
theorem dX8_init_719 : decode cX8_init 719 = .ok (.dup, 1) := by decide +kernel
theorem dX8_init_720 : decode cX8_init 720 = .ok (.iconst 4, 1) := by decide +kernel
theorem dX8_init_721 : decode cX8_init 721 = .ok (.bipush 101, 2) := by decide +kernel
theorem dX8_init_723 : decode cX8_init 723 = .ok (.castore, 1) := by decide +kernel
theorem dX8_init_724 : decode cX8_init 724 = .ok (.dup, 1) := by decide +kernel
theorem dX8_init_725 : decode cX8_init 725 = .ok (.iconst 5, 1) := by decide +kernel
theorem dX8_init_726 : decode cX8_init 726 = .ok (.bipush 100, 2) := by decide +kernel
theorem dX8_init_728 : decode cX8_init 728 = .ok (.castore, 1) := by decide +kernel
theorem dX8_init_729 : decode cX8_init 729 = .ok (.putfield 87, 3) := by decide +kernel
theorem dX8_init_732 : decode cX8_init 732 = .ok (.aload_n 0, 1) := by decide +kernel
theorem dX8_init_733 : decode cX8_init 733 = .ok (.iconst 5, 1) := by decide +kernel
theorem dX8_init_734 : decode cX8_init 734 = .ok (.newarray .char, 2) := by decide +kernel
theorem dX8_init_736 : decode cX8_init 736 = .ok (.dup, 1) := by decide +kernel
theorem dX8_init_737 : decode cX8_init 737 = .ok (.iconst 0, 1) := by decide +kernel
theorem dX8_init_738 : decode cX8_init 738 = .ok (.bipush 121, 2) := by decide +kernel
theorem dX8_init_740 : decode cX8_init 740 = .ok (.castore, 1) := by decide +kernel
theorem dX8_init_741 : decode cX8_init 741 = .ok (.dup, 1) := by decide +kernel
theorem dX8_init_742 : decode cX8_init 742 = .ok (.iconst 1, 1) := by decide +kernel
theorem dX8_init_743 : decode cX8_init 743 = .ok (.bipush 97, 2) := by decide +kernel
theorem dX8_init_745 : decode cX8_init 745 = .ok (.castore, 1) := by decide +kernel
theorem dX8_init_746 : decode cX8_init 746 = .ok (.dup, 1) := by decide +kernel
theorem dX8_init_747 : decode cX8_init 747 = .ok (.iconst 2, 1) := by decide +kernel
theorem dX8_init_748 : decode cX8_init 748 = .ok (.bipush 114, 2) := by decide +kernel
theorem dX8_init_750 : decode cX8_init 750 = .ok (.castore, 1) := by decide +kernel
theorem dX8_init_751 : decode cX8_init 751 = .ok (.dup, 1) := by decide +kernel
theorem dX8_init_752 : decode cX8_init 752 = .ok (.iconst 3, 1) := by decide +kernel
theorem dX8_init_753 : decode cX8_init 753 = .ok (.bipush 100, 2) := by decide +kernel
theorem dX8_init_755 : decode cX8_init 755 = .ok (.castore, 1) := by decide +kernel
theorem dX8_init_756 : decode cX8_init 756 = .ok (.dup, 1) := by decide +kernel
theorem dX8_init_757 : decode cX8_init 757 = .ok (.iconst 4, 1) := by decide +kernel
theorem dX8_init_758 : decode cX8_init 758 = .ok (.bipush 115, 2) := by decide +kernel
theorem dX8_init_760 : decode cX8_init 760 = .ok (.castore, 1) := by decide +kernel
theorem dX8_init_761 : decode cX8_init 761 = .ok (.putfield 90, 3) := by decide +kernel
theorem dX8_init_764 : decode cX8_init 764 = .ok (.aload_n 0, 1) := by decide +kernel
theorem dX8_init_765 : decode cX8_init 765 = .ok (.iconst 2, 1) := by decide +kernel
theorem dX8_init_766 : decode cX8_init 766 = .ok (.newarray .char, 2) := by decide +kernel
theorem dX8_init_768 : decode cX8_init 768 = .ok (.dup, 1) := by decide +kernel
theorem dX8_init_769 : decode cX8_init 769 = .ok (.iconst 0, 1) := by decide +kernel
theorem dX8_init_770 : decode cX8_init 770 = .ok (.bipush 111, 2) := by decide +kernel
theorem dX8_init_772 : decode cX8_init 772 = .ok (.castore, 1) := by decide +kernel
theorem dX8_init_773 : decode cX8_init 773 = .ok (.dup, 1) := by decide +kernel
theorem dX8_init_774 : decode cX8_init 774 = .ok (.iconst 1, 1) := by decide +kernel
theorem dX8_init_775 : decode cX8_init 775 = .ok (.bipush 114, 2) := by decide +kernel
theorem dX8_init_777 : decode cX8_init 777 = .ok (.castore, 1) := by decide +kernel
theorem dX8_init_778 : decode cX8_init 778 = .ok (.putfield 93, 3) := by decide +kernel
theorem dX8_init_781 : decode cX8_init 781 = .ok (.aload_n 0, 1) := by decide +kernel
theorem dX8_init_782 : decode cX8_init 782 = .ok (.iconst 3, 1) := by decide +kernel
theorem dX8_init_783 : decode cX8_init 783 = .ok (.newarray .char, 2) := by decide +kernel
theorem dX8_init_785 : decode cX8_init 785 = .ok (.dup, 1) := by decide +kernel
theorem dX8_init_786 : decode cX8_init 786 = .ok (.iconst 0, 1) := by decide +kernel
theorem dX8_init_787 : decode cX8_init 787 = .ok (.bipush 97, 2) := by decide +kernel
theorem dX8_init_789 : decode cX8_init 789 = .ok (.castore, 1) := by decide +kernel
theorem dX8_init_790 : decode cX8_init 790 = .ok (.dup, 1) := by decide +kernel
theorem dX8_init_791 : decode cX8_init 791 = .ok (.iconst 1, 1) := by decide +kernel
theorem dX8_init_792 : decode cX8_init 792 = .ok (.bipush 110, 2) := by decide +kernel
theorem dX8_init_794 : decode cX8_init 794 = .ok (.castore, 1) := by decide +kernel
theorem dX8_init_795 : decode cX8_init 795 = .ok (.dup, 1) := by decide +kernel
theorem dX8_init_796 : decode cX8_init 796 = .ok (.iconst 2, 1) := by decide +kernel
theorem dX8_init_797 : decode cX8_init 797 = .ok (.bipush 100, 2) := by decide +kernel
theorem dX8_init_799 : decode cX8_init 799 = .ok (.castore, 1) := by decide +kernel
theorem dX8_init_800 : decode cX8_init 800 = .ok (.putfield 96, 3) := by decide +kernel
theorem dX8_init_803 : decode cX8_init 803 = .ok (.aload_n 0, 1) := by decide +kernel
theorem dX8_init_804 : decode cX8_init 804 = .ok (.iconst 3, 1) := by decide +kernel
theorem dX8_init_805 : decode cX8_init 805 = .ok (.newarray .char, 2) := by decide +kernel
theorem dX8_init_807 : decode cX8_init 807 = .ok (.dup, 1) := by decide +kernel
theorem dX8_init_808 : decode cX8_init 808 = .ok (.iconst 0, 1) := by decide +kernel
theorem dX8_init_809 : decode cX8_init 809 = .ok (.bipush 110, 2) := by decide +kernel
theorem dX8_init_811 : decode cX8_init 811 = .ok (.castore, 1) := by decide +kernel
theorem dX8_init_812 : decode cX8_init 812 = .ok (.dup, 1) := by decide +kernel
theorem dX8_init_813 : decode cX8_init 813 = .ok (.iconst 1, 1) := by decide +kernel
theorem dX8_init_814 : decode cX8_init 814 = .ok (.bipush 111, 2) := by decide +kernel
theorem dX8_init_816 : decode cX8_init 816 = .ok (.castore, 1) := by decide +kernel
theorem dX8_init_817 : decode cX8_init 817 = .ok (.dup, 1) := by decide +kernel
theorem dX8_init_818 : decode cX8_init 818 = .ok (.iconst 2, 1) := by decide +kernel
theorem dX8_init_819 : decode cX8_init 819 = .ok (.bipush 116, 2) := by decide +kernel
theorem dX8_init_821 : decode cX8_init 821 = .ok (.castore, 1) := by decide +kernel
theorem dX8_init_822 : decode cX8_init 822 = .ok (.putfield 99, 3) := by decide +kernel
theorem dX8_init_825 : decode cX8_init 825 = .ok (.aload_n 0, 1) := by decide +kernel
theorem dX8_init_826 : decode cX8_init 826 = .ok (.iconst 3, 1) := by decide +kernel
theorem dX8_init_827 : decode cX8_init 827 = .ok (.newarray .char, 2) := by decide +kernel
theorem dX8_init_829 : decode cX8_init 829 = .ok (.dup, 1) := by decide +kernel
theorem dX8_init_830 : decode cX8_init 830 = .ok (.iconst 0, 1) := by decide +kernel
theorem dX8_init_831 : decode cX8_init 831 = .ok (.bipush 97, 2) := by decide +kernel
theorem dX8_init_833 : decode cX8_init 833 = .ok (.castore, 1) := by decide +kernel
theorem dX8_init_834 : decode cX8_init 834 = .ok (.dup, 1) := by decide +kernel
theorem dX8_init_835 : decode cX8_init 835 = .ok (.iconst 1, 1) := by decide +kernel
theorem dX8_init_836 : decode cX8_init 836 = .ok (.bipush 108, 2) := by decide +kernel
theorem dX8_init_838 : decode cX8_init 838 = .ok (.castore, 1) := by decide +kernel
theorem dX8_init_839 : decode cX8_init 839 = .ok (.dup, 1) := by decide +kernel
theorem dX8_init_840 : decode cX8_init 840 = .ok (.iconst 2, 1) := by decide +kernel
theorem dX8_init_841 : decode cX8_init 841 = .ok (.bipush 108, 2) := by decide +kernel
theorem dX8_init_843 : decode cX8_init 843 = .ok (.castore, 1) := by decide +kernel
theorem dX8_init_844 : decode cX8_init 844 = .ok (.putfield 102, 3) := by decide +kernel
theorem dX8_init_847 : decode cX8_init 847 = .ok (.aload_n 0, 1) := by decide +kernel
theorem dX8_init_848 : decode cX8_init 848 = .ok (.iconst 3, 1) := by decide +kernel
theorem dX8_init_849 : decode cX8_init 849 = .ok (.newarray .char, 2) := by decide +kernel
theorem dX8_init_851 : decode cX8_init 851 = .ok (.dup, 1) := by decide +kernel
theorem dX8_init_852 : decode cX8_init 852 = .ok (.iconst 0, 1) := by decide +kernel
theorem dX8_init_853 : decode cX8_init 853 = .ok (.bipush 109, 2) := by decide +kernel
theorem dX8_init_855 : decode cX8_init 855 = .ok (.castore, 1) := by decide +kernel
theorem dX8_init_856 : decode cX8_init 856 = .ok (.dup, 1) := by decide +kernel
theorem dX8_init_857 : decode cX8_init 857 = .ok (.iconst 1, 1) := by decide +kernel
theorem dX8_init_858 : decode cX8_init 858 = .ok (.bipush 105, 2) := by decide +kernel
theorem dX8_init_860 : decode cX8_init 860 = .ok (.castore, 1) := by decide +kernel
theorem dX8_init_861 : decode cX8_init 861 = .ok (.dup, 1) := by decide +kernel
theorem dX8_init_862 : decode cX8_init 862 = .ok (.iconst 2, 1) := by decide +kernel
theorem dX8_init_863 : decode cX8_init 863 = .ok (.bipush 110, 2) := by decide +kernel
theorem dX8_init_865 : decode cX8_init 865 = .ok (.castore, 1) := by decide +kernel
theorem dX8_init_866 : decode cX8_init 866 = .ok (.putfield 105, 3) := by decide +kernel
theorem dX8_init_869 : decode cX8_init 869 = .ok (.aload_n 0, 1) := by decide +kernel
theorem dX8_init_870 : decode cX8_init 870 = .ok (.iconst 3, 1) := by decide +kernel
theorem dX8_init_871 : decode cX8_init 871 = .ok (.newarray .char, 2) := by decide +kernel
theorem dX8_init_873 : decode cX8_init 873 = .ok (.dup, 1) := by decide +kernel
theorem dX8_init_874 : decode cX8_init 874 = .ok (.iconst 0, 1) := by decide +kernel
theorem dX8_init_875 : decode cX8_init 875 = .ok (.bipush 109, 2) := by decide +kernel
theorem dX8_init_877 : decode cX8_init 877 = .ok (.castore, 1) := by decide +kernel
theorem dX8_init_878 : decode cX8_init 878 = .ok (.dup, 1) := by decide +kernel
theorem dX8_init_879 : decode cX8_init 879 = .ok (.iconst 1, 1) := by decide +kernel
theorem dX8_init_880 : decode cX8_init 880 = .ok (.bipush 97, 2) := by decide +kernel
theorem dX8_init_882 : decode cX8_init 882 = .ok (.castore, 1) := by decide +kernel
theorem dX8_init_883 : decode cX8_init 883 = .ok (.dup, 1) := by decide +kernel
theorem dX8_init_884 : decode cX8_init 884 = .ok (.iconst 2, 1) := by decide +kernel
theorem dX8_init_885 : decode cX8_init 885 = .ok (.bipush 120, 2) := by decide +kernel
theorem dX8_init_887 : decode cX8_init 887 = .ok (.castore, 1) := by decide +kernel
theorem dX8_init_888 : decode cX8_init 888 = .ok (.putfield 108, 3) := by decide +kernel
theorem dX8_init_891 : decode cX8_init 891 = .ok (.aload_n 0, 1) := by decide +kernel
theorem dX8_init_892 : decode cX8_init 892 = .ok (.bipush 6, 2) := by decide +kernel
theorem dX8_init_894 : decode cX8_init 894 = .ok (.newarray .int, 2) := by decide +kernel
theorem dX8_init_896 : decode cX8_init 896 = .ok (.putfield 111, 3) := by decide +kernel
theorem dX8_init_899 : decode cX8_init 899 = .ok (.aload_n 0, 1) := by decide +kernel
theorem dX8_init_900 : decode cX8_init 900 = .ok (.bipush 40, 2) := by decide +kernel
theorem dX8_init_902 : decode cX8_init 902 = .ok (.newarray .long, 2) := by decide +kernel
theorem dX8_init_904 : decode cX8_init 904 = .ok (.putfield 114, 3) := by decide +kernel
theorem dX8_init_907 : decode cX8_init 907 = .ok (.aload_n 0, 1) := by decide +kernel
theorem dX8_init_908 : decode cX8_init 908 = .ok (.bipush 12, 2) := by decide +kernel
theorem dX8_init_910 : decode cX8_init 910 = .ok (.newarray .int, 2) := by decide +kernel
theorem dX8_init_912 : decode cX8_init 912 = .ok (.putfield 118, 3) := by decide +kernel
theorem dX8_init_915 : decode cX8_init 915 = .ok (.aload_n 0, 1) := by decide +kernel
theorem dX8_init_916 : decode cX8_init 916 = .ok (.bipush 12, 2) := by decide +kernel
theorem dX8_init_918 : decode cX8_init 918 = .ok (.newarray .int, 2) := by decide +kernel
theorem dX8_init_920 : decode cX8_init 920 = .ok (.putfield 121, 3) := by decide +kernel
theorem dX8_init_923 : decode cX8_init 923 = .ok (.aload_n 0, 1) := by decide +kernel
theorem dX8_init_924 : decode cX8_init 924 = .ok (.sipush 140, 3) := by decide +kernel
theorem dX8_init_927 : decode cX8_init 927 = .ok (.newarray .int, 2) := by decide +kernel
theorem dX8_init_929 : decode cX8_init 929 = .ok (.putfield 124, 3) := by decide +kernel
theorem dX8_init_932 : decode cX8_init 932 = .ok (.aload_n 0, 1) := by decide +kernel
theorem dX8_init_933 : decode cX8_init 933 = .ok (.bipush 12, 2) := by decide +kernel
theorem dX8_init_935 : decode cX8_init 935 = .ok (.newarray .int, 2) := by decide +kernel
theorem dX8_init_937 : decode cX8_init 937 = .ok (.dup, 1) := by decide +kernel
theorem dX8_init_938 : decode cX8_init 938 = .ok (.iconst 0, 1) := by decide +kernel
theorem dX8_init_939 : decode cX8_init 939 = .ok (.iconst 2, 1) := by decide +kernel
theorem dX8_init_940 : decode cX8_init 940 = .ok (.iastore, 1) := by decide +kernel
theorem dX8_init_941 : decode cX8_init 941 = .ok (.dup, 1) := by decide +kernel
theorem dX8_init_942 : decode cX8_init 942 = .ok (.iconst 1, 1) := by decide +kernel
theorem dX8_init_943 : decode cX8_init 943 = .ok (.bipush 9, 2) := by decide +kernel
theorem dX8_init_945 : decode cX8_init 945 = .ok (.iastore, 1) := by decide +kernel
theorem dX8_init_946 : decode cX8_init 946 = .ok (.dup, 1) := by decide +kernel
theorem dX8_init_947 : decode cX8_init 947 = .ok (.iconst 2, 1) := by decide +kernel
theorem dX8_init_948 : decode cX8_init 948 = .ok (.iconst 1, 1) := by decide +kernel
theorem dX8_init_949 : decode cX8_init 949 = .ok (.iastore, 1) := by decide +kernel
theorem dX8_init_950 : decode cX8_init 950 = .ok (.dup, 1) := by decide +kernel
theorem dX8_init_951 : decode cX8_init 951 = .ok (.iconst 3, 1) := by decide +kernel
theorem dX8_init_952 : decode cX8_init 952 = .ok (.bipush 9, 2) := by decide +kernel
theorem dX8_init_954 : decode cX8_init 954 = .ok (.iastore, 1) := by decide +kernel
theorem dX8_init_955 : decode cX8_init 955 = .ok (.dup, 1) := by decide +kernel
theorem dX8_init_956 : decode cX8_init 956 = .ok (.iconst 4, 1) := by decide +kernel
theorem dX8_init_957 : decode cX8_init 957 = .ok (.iconst 5, 1) := by decide +kernel
theorem dX8_init_958 : decode cX8_init 958 = .ok (.iastore, 1) := by decide +kernel
theorem dX8_init_959 : decode cX8_init 959 = .ok (.dup, 1) := by decide +kernel
theorem dX8_init_960 : decode cX8_init 960 = .ok (.iconst 5, 1) := by decide +kernel
theorem dX8_init_961 : decode cX8_init 961 = .ok (.iconst 1, 1) := by decide +kernel
theorem dX8_init_962 : decode cX8_init 962 = .ok (.iastore, 1) := by decide +kernel
theorem dX8_init_963 : decode cX8_init 963 = .ok (.dup, 1) := by decide +kernel
theorem dX8_init_964 : decode cX8_init 964 = .ok (.bipush 6, 2) := by decide +kernel
theorem dX8_init_966 : decode cX8_init 966 = .ok (.iconst 2, 1) := by decide +kernel
theorem dX8_init_967 : decode cX8_init 967 = .ok (.iastore, 1) := by decide +kernel
theorem dX8_init_968 : decode cX8_init 968 = .ok (.dup, 1) := by decide +kernel
theorem dX8_init_969 : decode cX8_init 969 = .ok (.bipush 7, 2) := by decide +kernel
theorem dX8_init_971 : decode cX8_init 971 = .ok (.bipush 9, 2) := by decide +kernel
theorem dX8_init_973 : decode cX8_init 973 = .ok (.iastore, 1) := by decide +kernel
theorem dX8_init_974 : decode cX8_init 974 = .ok (.dup, 1) := by decide +kernel
theorem dX8_init_975 : decode cX8_init 975 = .ok (.bipush 8, 2) := by decide +kernel
theorem dX8_init_977 : decode cX8_init 977 = .ok (.iconst 1, 1) := by decide +kernel
theorem dX8_init_978 : decode cX8_init 978 = .ok (.iastore, 1) := by decide +kernel
theorem dX8_init_979 : decode cX8_init 979 = .ok (.dup, 1) := by decide +kernel
theorem dX8_init_980 : decode cX8_init 980 = .ok (.bipush 9, 2) := by decide +kernel
theorem dX8_init_982 : decode cX8_init 982 = .ok (.bipush 9, 2) := by decide +kernel
theorem dX8_init_984 : decode cX8_init 984 = .ok (.iastore, 1) := by decide +kernel
theorem dX8_init_985 : decode cX8_init 985 = .ok (.dup, 1) := by decide +kernel
theorem dX8_init_986 : decode cX8_init 986 = .ok (.bipush 10, 2) := by decide +kernel
theorem dX8_init_988 : decode cX8_init 988 = .ok (.iconst 5, 1) := by decide +kernel
theorem dX8_init_989 : decode cX8_init 989 = .ok (.iastore, 1) := by decide +kernel
theorem dX8_init_990 : decode cX8_init 990 = .ok (.dup, 1) := by decide +kernel
theorem dX8_init_991 : decode cX8_init 991 = .ok (.bipush 11, 2) := by decide +kernel
theorem dX8_init_993 : decode cX8_init 993 = .ok (.iconst 1, 1) := by decide +kernel
theorem dX8_init_994 : decode cX8_init 994 = .ok (.iastore, 1) := by decide +kernel
theorem dX8_init_995 : decode cX8_init 995 = .ok (.putfield 127, 3) := by decide +kernel
theorem dX8_init_998 : decode cX8_init 998 = .ok (.aload_n 0, 1) := by decide +kernel
theorem dX8_init_999 : decode cX8_init 999 = .ok (.bipush 8, 2) := by decide +kernel
theorem dX8_init_1001 : decode cX8_init 1001 = .ok (.newarray .int, 2) := by decide +kernel
theorem dX8_init_1003 : decode cX8_init 1003 = .ok (.putfield 130, 3) := by decide +kernel
theorem dX8_init_1006 : decode cX8_init 1006 = .ok (.aload_n 0, 1) := by decide +kernel
theorem dX8_init_1007 : decode cX8_init 1007 = .ok (.bipush 8, 2) := by decide +kernel
theorem dX8_init_1009 : decode cX8_init 1009 = .ok (.newarray .int, 2) := by decide +kernel
theorem dX8_init_1011 : decode cX8_init 1011 = .ok (.putfield 133, 3) := by decide +kernel
theorem dX8_init_1014 : decode cX8_init 1014 = .ok (.aload_n 0, 1) := by decide +kernel
theorem dX8_init_1015 : decode cX8_init 1015 = .ok (.sipush 3200, 3) := by decide +kernel
theorem dX8_init_1018 : decode cX8_init 1018 = .ok (.newarray .int, 2) := by decide +kernel
theorem dX8_init_1020 : decode cX8_init 1020 = .ok (.putfield 136, 3) := by decide +kernel
theorem dX8_init_1023 : decode cX8_init 1023 = .ok (.aload_n 0, 1) := by decide +kernel
theorem dX8_init_1024 : decode cX8_init 1024 = .ok (.bipush 7, 2) := by decide +kernel
theorem dX8_init_1026 : decode cX8_init 1026 = .ok (.newarray .long, 2) := by decide +kernel
theorem dX8_init_1028 : decode cX8_init 1028 = .ok (.putfield 139, 3) := by decide +kernel
theorem dX8_init_1031 : decode cX8_init 1031 = .ok (.aload_n 0, 1) := by decide +kernel
theorem dX8_init_1032 : decode cX8_init 1032 = .ok (.bipush 7, 2) := by decide +kernel
theorem dX8_init_1034 : decode cX8_init 1034 = .ok (.newarray .long, 2) := by decide +kernel
theorem dX8_init_1036 : decode cX8_init 1036 = .ok (.putfield 142, 3) := by decide +kernel
theorem dX8_init_1039 : decode cX8_init 1039 = .ok (.aload_n 0, 1) := by decide +kernel
theorem dX8_init_1040 : decode cX8_init 1040 = .ok (.sipush 700, 3) := by decide +kernel
theorem dX8_init_1043 : decode cX8_init 1043 = .ok (.newarray .long, 2) := by decide +kernel
theorem dX8_init_1045 : decode cX8_init 1045 = .ok (.putfield 145, 3) := by decide +kernel
theorem dX8_init_1048 : decode cX8_init 1048 = .ok (.aload_n 0, 1) := by decide +kernel
theorem dX8_init_1049 : decode cX8_init 1049 = .ok (.bipush 10, 2) := by decide +kernel
theorem dX8_init_1051 : decode cX8_init 1051 = .ok (.newarray .int, 2) := by decide +kernel
theorem dX8_init_1053 : decode cX8_init 1053 = .ok (.putfield 148, 3) := by decide +kernel
theorem dX8_init_1056 : decode cX8_init 1056 = .ok (.aload_n 0, 1) := by decide +kernel
theorem dX8_init_1057 : decode cX8_init 1057 = .ok (.bipush 10, 2) := by decide +kernel
theorem dX8_init_1059 : decode cX8_init 1059 = .ok (.newarray .int, 2) := by decide +kernel
theorem dX8_init_1061 : decode cX8_init 1061 = .ok (.putfield 151, 3) := by decide +kernel
theorem dX8_init_1064 : decode cX8_init 1064 = .ok (.aload_n 0, 1) := by decide +kernel
theorem dX8_init_1065 : decode cX8_init 1065 = .ok (.bipush 10, 2) := by decide +kernel
theorem dX8_init_1067 : decode cX8_init 1067 = .ok (.newarray .int, 2) := by decide +kernel
theorem dX8_init_1069 : decode cX8_init 1069 = .ok (.putfield 154, 3) := by decide +kernel
theorem dX8_init_1072 : decode cX8_init 1072 = .ok (.aload_n 0, 1) := by decide +kernel
theorem dX8_init_1073 : decode cX8_init 1073 = .ok (.bipush 10, 2) := by decide +kernel
theorem dX8_init_1075 : decode cX8_init 1075 = .ok (.newarray .int, 2) := by decide +kernel
theorem dX8_init_1077 : decode cX8_init 1077 = .ok (.putfield 157, 3) := by decide +kernel
theorem dX8_init_1080 : decode cX8_init 1080 = .ok (.aload_n 0, 1) := by decide +kernel
theorem dX8_init_1081 : decode cX8_init 1081 = .ok (.bipush 10, 2) := by decide +kernel
theorem dX8_init_1083 : decode cX8_init 1083 = .ok (.newarray .int, 2) := by decide +kernel
theorem dX8_init_1085 : decode cX8_init 1085 = .ok (.putfield 160, 3) := by decide +kernel
theorem dX8_init_1088 : decode cX8_init 1088 = .ok (.aload_n 0, 1) := by decide +kernel
theorem dX8_init_1089 : decode cX8_init 1089 = .ok (.bipush 10, 2) := by decide +kernel
theorem dX8_init_1091 : decode cX8_init 1091 = .ok (.newarray .int, 2) := by decide +kernel
theorem dX8_init_1093 : decode cX8_init 1093 = .ok (.putfield 163, 3) := by decide +kernel
theorem dX8_init_1096 : decode cX8_init 1096 = .ok (.aload_n 0, 1) := by decide +kernel
theorem dX8_init_1097 : decode cX8_init 1097 = .ok (.bipush 51, 2) := by decide +kernel
theorem dX8_init_1099 : decode cX8_init 1099 = .ok (.newarray .int, 2) := by decide +kernel
theorem dX8_init_1101 : decode cX8_init 1101 = .ok (.putfield 166, 3) := by decide +kernel
theorem dX8_init_1104 : decode cX8_init 1104 = .ok (.aload_n 0, 1) := by decide +kernel
theorem dX8_init_1105 : decode cX8_init 1105 = .ok (.bipush 51, 2) := by decide +kernel
theorem dX8_init_1107 : decode cX8_init 1107 = .ok (.newarray .int, 2) := by decide +kernel
theorem dX8_init_1109 : decode cX8_init 1109 = .ok (.putfield 169, 3) := by decide +kernel
theorem dX8_init_1112 : decode cX8_init 1112 = .ok (.aload_n 0, 1) := by decide +kernel
theorem dX8_init_1113 : decode cX8_init 1113 = .ok (.bipush 51, 2) := by decide +kernel
theorem dX8_init_1115 : decode cX8_init 1115 = .ok (.newarray .int, 2) := by decide +kernel
theorem dX8_init_1117 : decode cX8_init 1117 = .ok (.putfield 172, 3) := by decide +kernel
theorem dX8_init_1120 : decode cX8_init 1120 = .ok (.aload_n 0, 1) := by decide +kernel
theorem dX8_init_1121 : decode cX8_init 1121 = .ok (.bipush 51, 2) := by decide +kernel
theorem dX8_init_1123 : decode cX8_init 1123 = .ok (.newarray .int, 2) := by decide +kernel
theorem dX8_init_1125 : decode cX8_init 1125 = .ok (.putfield 175, 3) := by decide +kernel
theorem dX8_init_1128 : decode cX8_init 1128 = .ok (.aload_n 0, 1) := by decide +kernel
theorem dX8_init_1129 : decode cX8_init 1129 = .ok (.bipush 51, 2) := by decide +kernel
theorem dX8_init_1131 : decode cX8_init 1131 = .ok (.newarray .int, 2) := by decide +kernel
theorem dX8_init_1133 : decode cX8_init 1133 = .ok (.putfield 178, 3) := by decide +kernel
theorem dX8_init_1136 : decode cX8_init 1136 = .ok (.aload_n 0, 1) := by decide +kernel
theorem dX8_init_1137 : decode cX8_init 1137 = .ok (.bipush 51, 2) := by decide +kernel
theorem dX8_init_1139 : decode cX8_init 1139 = .ok (.newarray .int, 2) := by decide +kernel
theorem dX8_init_1141 : decode cX8_init 1141 = .ok (.putfield 181, 3) := by decide +kernel
theorem dX8_init_1144 : decode cX8_init 1144 = .ok (.aload_n 0, 1) := by decide +kernel
theorem dX8_init_1145 : decode cX8_init 1145 = .ok (.bipush 10, 2) := by decide +kernel
theorem dX8_init_1147 : decode cX8_init 1147 = .ok (.newarray .int, 2) := by decide +kernel
theorem dX8_init_1149 : decode cX8_init 1149 = .ok (.putfield 184, 3) := by decide +kernel
theorem dX8_init_1152 : decode cX8_init 1152 = .ok (.aload_n 0, 1) := by decide +kernel
theorem dX8_init_1153 : decode cX8_init 1153 = .ok (.bipush 10, 2) := by decide +kernel
theorem dX8_init_1155 : decode cX8_init 1155 = .ok (.newarray .int, 2) := by decide +kernel
theorem dX8_init_1157 : decode cX8_init 1157 = .ok (.putfield 187, 3) := by decide +kernel
theorem dX8_init_1160 : decode cX8_init 1160 = .ok (.aload_n 0, 1) := by decide +kernel
theorem dX8_init_1161 : decode cX8_init 1161 = .ok (.iconst 3, 1) := by decide +kernel
theorem dX8_init_1162 : decode cX8_init 1162 = .ok (.newarray .int, 2) := by decide +kernel
theorem dX8_init_1164 : decode cX8_init 1164 = .ok (.putfield 190, 3) := by decide +kernel
theorem dX8_init_1167 : decode cX8_init 1167 = .ok (.aload_n 0, 1) := by decide +kernel
theorem dX8_init_1168 : decode cX8_init 1168 = .ok (.iconst 3, 1) := by decide +kernel
theorem dX8_init_1169 : decode cX8_init 1169 = .ok (.newarray .int, 2) := by decide +kernel
theorem dX8_init_1171 : decode cX8_init 1171 = .ok (.putfield 193, 3) := by decide +kernel
theorem dX8_init_1174 : decode cX8_init 1174 = .ok (.aload_n 0, 1) := by decide +kernel
theorem dX8_init_1175 : decode cX8_init 1175 = .ok (.bipush 100, 2) := by decide +kernel
theorem dX8_init_1177 : decode cX8_init 1177 = .ok (.newarray .int, 2) := by decide +kernel
theorem dX8_init_1179 : decode cX8_init 1179 = .ok (.putfield 196, 3) := by decide +kernel
theorem dX8_init_1182 : decode cX8_init 1182 = .ok (.aload_n 0, 1) := by decide +kernel
theorem dX8_init_1183 : decode cX8_init 1183 = .ok (.bipush 6, 2) := by decide +kernel
theorem dX8_init_1185 : decode cX8_init 1185 = .ok (.newarray .int, 2) := by decide +kernel
theorem dX8_init_1187 : decode cX8_init 1187 = .ok (.putfield 199, 3) := by decide +kernel
theorem dX8_init_1190 : decode cX8_init 1190 = .ok (.aload_n 0, 1) := by decide +kernel
theorem dX8_init_1191 : decode cX8_init 1191 = .ok (.bipush 120, 2) := by decide +kernel
theorem dX8_init_1193 : decode cX8_init 1193 = .ok (.newarray .int, 2) := by decide +kernel
theorem dX8_init_1195 : decode cX8_init 1195 = .ok (.putfield 202, 3) := by decide +kernel
theorem dX8_init_1198 : decode cX8_init 1198 = .ok (.aload_n 0, 1) := by decide +kernel
theorem dX8_init_1199 : decode cX8_init 1199 = .ok (.lconst 1, 1) := by decide +kernel
theorem dX8_init_1200 : decode cX8_init 1200 = .ok (.putfield 205, 3) := by decide +kernel
theorem dX8_init_1203 : decode cX8_init 1203 = .ok (.aload_n 0, 1) := by decide +kernel
theorem dX8_init_1204 : decode cX8_init 1204 = .ok (.bipush 40, 2) := by decide +kernel
theorem dX8_init_1206 : decode cX8_init 1206 = .ok (.newarray .int, 2) := by decide +kernel
theorem dX8_init_1208 : decode cX8_init 1208 = .ok (.putfield 209, 3) := by decide +kernel
theorem dX8_init_1211 : decode cX8_init 1211 = .ok (.aload_n 0, 1) := by decide +kernel
theorem dX8_init_1212 : decode cX8_init 1212 = .ok (.iconst 5, 1) := by decide +kernel
theorem dX8_init_1213 : decode cX8_init 1213 = .ok (.newarray .char, 2) := by decide +kernel
theorem dX8_init_1215 : decode cX8_init 1215 = .ok (.dup, 1) := by decide +kernel
theorem dX8_init_1216 : decode cX8_init 1216 = .ok (.iconst 0, 1) := by decide +kernel
theorem dX8_init_1217 : decode cX8_init 1217 = .ok (.bipush 102, 2) := by decide +kernel
theorem dX8_init_1219 : decode cX8_init 1219 = .ok (.castore, 1) := by decide +kernel
theorem dX8_init_1220 : decode cX8_init 1220 = .ok (.dup, 1) := by decide +kernel
theorem dX8_init_1221 : decode cX8_init 1221 = .ok (.iconst 1, 1) := by decide +kernel
theorem dX8_init_1222 : decode cX8_init 1222 = .ok (.bipush 105, 2) := by decide +kernel
theorem dX8_init_1224 : decode cX8_init 1224 = .ok (.castore, 1) := by decide +kernel
theorem dX8_init_1225 : decode cX8_init 1225 = .ok (.dup, 1) := by decide +kernel
theorem dX8_init_1226 : decode cX8_init 1226 = .ok (.iconst 2, 1) := by decide +kernel
theorem dX8_init_1227 : decode cX8_init 1227 = .ok (.bipush 114, 2) := by decide +kernel
theorem dX8_init_1229 : decode cX8_init 1229 = .ok (.castore, 1) := by decide +kernel
theorem dX8_init_1230 : decode cX8_init 1230 = .ok (.dup, 1) := by decide +kernel
theorem dX8_init_1231 : decode cX8_init 1231 = .ok (.iconst 3, 1) := by decide +kernel
theorem dX8_init_1232 : decode cX8_init 1232 = .ok (.bipush 115, 2) := by decide +kernel
theorem dX8_init_1234 : decode cX8_init 1234 = .ok (.castore, 1) := by decide +kernel
theorem dX8_init_1235 : decode cX8_init 1235 = .ok (.dup, 1) := by decide +kernel
theorem dX8_init_1236 : decode cX8_init 1236 = .ok (.iconst 4, 1) := by decide +kernel
theorem dX8_init_1237 : decode cX8_init 1237 = .ok (.bipush 116, 2) := by decide +kernel
theorem dX8_init_1239 : decode cX8_init 1239 = .ok (.castore, 1) := by decide +kernel
theorem dX8_init_1240 : decode cX8_init 1240 = .ok (.putfield 212, 3) := by decide +kernel
theorem dX8_init_1243 : decode cX8_init 1243 = .ok (.aload_n 0, 1) := by decide +kernel
theorem dX8_init_1244 : decode cX8_init 1244 = .ok (.iconst 4, 1) := by decide +kernel
theorem dX8_init_1245 : decode cX8_init 1245 = .ok (.newarray .char, 2) := by decide +kernel
theorem dX8_init_1247 : decode cX8_init 1247 = .ok (.dup, 1) := by decide +kernel
theorem dX8_init_1248 : decode cX8_init 1248 = .ok (.iconst 0, 1) := by decide +kernel
theorem dX8_init_1249 : decode cX8_init 1249 = .ok (.bipush 108, 2) := by decide +kernel
theorem dX8_init_1251 : decode cX8_init 1251 = .ok (.castore, 1) := by decide +kernel
theorem dX8_init_1252 : decode cX8_init 1252 = .ok (.dup, 1) := by decide +kernel
theorem dX8_init_1253 : decode cX8_init 1253 = .ok (.iconst 1, 1) := by decide +kernel
theorem dX8_init_1254 : decode cX8_init 1254 = .ok (.bipush 97, 2) := by decide +kernel
theorem dX8_init_1256 : decode cX8_init 1256 = .ok (.castore, 1) := by decide +kernel
theorem dX8_init_1257 : decode cX8_init 1257 = .ok (.dup, 1) := by decide +kernel
theorem dX8_init_1258 : decode cX8_init 1258 = .ok (.iconst 2, 1) := by decide +kernel
theorem dX8_init_1259 : decode cX8_init 1259 = .ok (.bipush 115, 2) := by decide +kernel
theorem dX8_init_1261 : decode cX8_init 1261 = .ok (.castore, 1) := by decide +kernel
theorem dX8_init_1262 : decode cX8_init 1262 = .ok (.dup, 1) := by decide +kernel
theorem dX8_init_1263 : decode cX8_init 1263 = .ok (.iconst 3, 1) := by decide +kernel
theorem dX8_init_1264 : decode cX8_init 1264 = .ok (.bipush 116, 2) := by decide +kernel
theorem dX8_init_1266 : decode cX8_init 1266 = .ok (.castore, 1) := by decide +kernel
theorem dX8_init_1267 : decode cX8_init 1267 = .ok (.putfield 215, 3) := by decide +kernel
theorem dX8_init_1270 : decode cX8_init 1270 = .ok (.aload_n 0, 1) := by decide +kernel
theorem dX8_init_1271 : decode cX8_init 1271 = .ok (.iconst 5, 1) := by decide +kernel
theorem dX8_init_1272 : decode cX8_init 1272 = .ok (.newarray .char, 2) := by decide +kernel
theorem dX8_init_1274 : decode cX8_init 1274 = .ok (.dup, 1) := by decide +kernel
theorem dX8_init_1275 : decode cX8_init 1275 = .ok (.iconst 0, 1) := by decide +kernel
theorem dX8_init_1276 : decode cX8_init 1276 = .ok (.bipush 111, 2) := by decide +kernel
theorem dX8_init_1278 : decode cX8_init 1278 = .ok (.castore, 1) := by decide +kernel
theorem dX8_init_1279 : decode cX8_init 1279 = .ok (.dup, 1) := by decide +kernel
theorem dX8_init_1280 : decode cX8_init 1280 = .ok (.iconst 1, 1) := by decide +kernel
theorem dX8_init_1281 : decode cX8_init 1281 = .ok (.bipush 102, 2) := by decide +kernel
theorem dX8_init_1283 : decode cX8_init 1283 = .ok (.castore, 1) := by decide +kernel
theorem dX8_init_1284 : decode cX8_init 1284 = .ok (.dup, 1) := by decide +kernel
theorem dX8_init_1285 : decode cX8_init 1285 = .ok (.iconst 2, 1) := by decide +kernel
theorem dX8_init_1286 : decode cX8_init 1286 = .ok (.bipush 116, 2) := by decide +kernel
theorem dX8_init_1288 : decode cX8_init 1288 = .ok (.castore, 1) := by decide +kernel
theorem dX8_init_1289 : decode cX8_init 1289 = .ok (.dup, 1) := by decide +kernel
theorem dX8_init_1290 : decode cX8_init 1290 = .ok (.iconst 3, 1) := by decide +kernel
theorem dX8_init_1291 : decode cX8_init 1291 = .ok (.bipush 101, 2) := by decide +kernel
theorem dX8_init_1293 : decode cX8_init 1293 = .ok (.castore, 1) := by decide +kernel
theorem dX8_init_1294 : decode cX8_init 1294 = .ok (.dup, 1) := by decide +kernel
theorem dX8_init_1295 : decode cX8_init 1295 = .ok (.iconst 4, 1) := by decide +kernel
theorem dX8_init_1296 : decode cX8_init 1296 = .ok (.bipush 110, 2) := by decide +kernel
theorem dX8_init_1298 : decode cX8_init 1298 = .ok (.castore, 1) := by decide +kernel
theorem dX8_init_1299 : decode cX8_init 1299 = .ok (.putfield 218, 3) := by decide +kernel
theorem dX8_init_1302 : decode cX8_init 1302 = .ok (.aload_n 0, 1) := by decide +kernel
theorem dX8_init_1303 : decode cX8_init 1303 = .ok (.iconst 5, 1) := by decide +kernel
theorem dX8_init_1304 : decode cX8_init 1304 = .ok (.newarray .char, 2) := by decide +kernel
theorem dX8_init_1306 : decode cX8_init 1306 = .ok (.dup, 1) := by decide +kernel
theorem dX8_init_1307 : decode cX8_init 1307 = .ok (.iconst 0, 1) := by decide +kernel
theorem dX8_init_1308 : decode cX8_init 1308 = .ok (.bipush 116, 2) := by decide +kernel
theorem dX8_init_1310 : decode cX8_init 1310 = .ok (.castore, 1) := by decide +kernel
theorem dX8_init_1311 : decode cX8_init 1311 = .ok (.dup, 1) := by decide +kernel
theorem dX8_init_1312 : decode cX8_init 1312 = .ok (.iconst 1, 1) := by decide +kernel
theorem dX8_init_1313 : decode cX8_init 1313 = .ok (.bipush 111, 2) := by decide +kernel
theorem dX8_init_1315 : decode cX8_init 1315 = .ok (.castore, 1) := by decide +kernel
theorem dX8_init_1316 : decode cX8_init 1316 = .ok (.dup, 1) := by decide +kernel
theorem dX8_init_1317 : decode cX8_init 1317 = .ok (.iconst 2, 1) := by decide +kernel
theorem dX8_init_1318 : decode cX8_init 1318 = .ok (.bipush 116, 2) := by decide +kernel
theorem dX8_init_1320 : decode cX8_init 1320 = .ok (.castore, 1) := by decide +kernel
theorem dX8_init_1321 : decode cX8_init 1321 = .ok (.dup, 1) := by decide +kernel
theorem dX8_init_1322 : decode cX8_init 1322 = .ok (.iconst 3, 1) := by decide +kernel
theorem dX8_init_1323 : decode cX8_init 1323 = .ok (.bipush 97, 2) := by decide +kernel
theorem dX8_init_1325 : decode cX8_init 1325 = .ok (.castore, 1) := by decide +kernel
theorem dX8_init_1326 : decode cX8_init 1326 = .ok (.dup, 1) := by decide +kernel
theorem dX8_init_1327 : decode cX8_init 1327 = .ok (.iconst 4, 1) := by decide +kernel
theorem dX8_init_1328 : decode cX8_init 1328 = .ok (.bipush 108, 2) := by decide +kernel
theorem dX8_init_1330 : decode cX8_init 1330 = .ok (.castore, 1) := by decide +kernel
theorem dX8_init_1331 : decode cX8_init 1331 = .ok (.putfield 221, 3) := by decide +kernel
theorem dX8_init_1334 : decode cX8_init 1334 = .ok (.aload_n 0, 1) := by decide +kernel
theorem dX8_init_1335 : decode cX8_init 1335 = .ok (.iconst 4, 1) := by decide +kernel
theorem dX8_init_1336 : decode cX8_init 1336 = .ok (.newarray .char, 2) := by decide +kernel
theorem dX8_init_1338 : decode cX8_init 1338 = .ok (.dup, 1) := by decide +kernel
theorem dX8_init_1339 : decode cX8_init 1339 = .ok (.iconst 0, 1) := by decide +kernel
theorem dX8_init_1340 : decode cX8_init 1340 = .ok (.bipush 109, 2) := by decide +kernel
theorem dX8_init_1342 : decode cX8_init 1342 = .ok (.castore, 1) := by decide +kernel
theorem dX8_init_1343 : decode cX8_init 1343 = .ok (.dup, 1) := by decide +kernel
theorem dX8_init_1344 : decode cX8_init 1344 = .ok (.iconst 1, 1) := by decide +kernel
theorem dX8_init_1345 : decode cX8_init 1345 = .ok (.bipush 111, 2) := by decide +kernel
theorem dX8_init_1347 : decode cX8_init 1347 = .ok (.castore, 1) := by decide +kernel
theorem dX8_init_1348 : decode cX8_init 1348 = .ok (.dup, 1) := by decide +kernel
theorem dX8_init_1349 : decode cX8_init 1349 = .ok (.iconst 2, 1) := by decide +kernel
theorem dX8_init_1350 : decode cX8_init 1350 = .ok (.bipush 115, 2) := by decide +kernel
theorem dX8_init_1352 : decode cX8_init 1352 = .ok (.castore, 1) := by decide +kernel
theorem dX8_init_1353 : decode cX8_init 1353 = .ok (.dup, 1) := by decide +kernel
theorem dX8_init_1354 : decode cX8_init 1354 = .ok (.iconst 3, 1) := by decide +kernel
theorem dX8_init_1355 : decode cX8_init 1355 = .ok (.bipush 116, 2) := by decide +kernel
theorem dX8_init_1357 : decode cX8_init 1357 = .ok (.castore, 1) := by decide +kernel
theorem dX8_init_1358 : decode cX8_init 1358 = .ok (.putfield 224, 3) := by decide +kernel
theorem dX8_init_1361 : decode cX8_init 1361 = .ok (.aload_n 0, 1) := by decide +kernel
theorem dX8_init_1362 : decode cX8_init 1362 = .ok (.iconst 5, 1) := by decide +kernel
theorem dX8_init_1363 : decode cX8_init 1363 = .ok (.newarray .char, 2) := by decide +kernel
theorem dX8_init_1365 : decode cX8_init 1365 = .ok (.dup, 1) := by decide +kernel
theorem dX8_init_1366 : decode cX8_init 1366 = .ok (.iconst 0, 1) := by decide +kernel
theorem dX8_init_1367 : decode cX8_init 1367 = .ok (.bipush 108, 2) := by decide +kernel
theorem dX8_init_1369 : decode cX8_init 1369 = .ok (.castore, 1) := by decide +kernel
theorem dX8_init_1370 : decode cX8_init 1370 = .ok (.dup, 1) := by decide +kernel
theorem dX8_init_1371 : decode cX8_init 1371 = .ok (.iconst 1, 1) := by decide +kernel
theorem dX8_init_1372 : decode cX8_init 1372 = .ok (.bipush 101, 2) := by decide +kernel
theorem dX8_init_1374 : decode cX8_init 1374 = .ok (.castore, 1) := by decide +kernel
theorem dX8_init_1375 : decode cX8_init 1375 = .ok (.dup, 1) := by decide +kernel
theorem dX8_init_1376 : decode cX8_init 1376 = .ok (.iconst 2, 1) := by decide +kernel
theorem dX8_init_1377 : decode cX8_init 1377 = .ok (.bipush 97, 2) := by decide +kernel
theorem dX8_init_1379 : decode cX8_init 1379 = .ok (.castore, 1) := by decide +kernel
theorem dX8_init_1380 : decode cX8_init 1380 = .ok (.dup, 1) := by decide +kernel
theorem dX8_init_1381 : decode cX8_init 1381 = .ok (.iconst 3, 1) := by decide +kernel
theorem dX8_init_1382 : decode cX8_init 1382 = .ok (.bipush 115, 2) := by decide +kernel
theorem dX8_init_1384 : decode cX8_init 1384 = .ok (.castore, 1) := by decide +kernel
theorem dX8_init_1385 : decode cX8_init 1385 = .ok (.dup, 1) := by decide +kernel
theorem dX8_init_1386 : decode cX8_init 1386 = .ok (.iconst 4, 1) := by decide +kernel
theorem dX8_init_1387 : decode cX8_init 1387 = .ok (.bipush 116, 2) := by decide +kernel
theorem dX8_init_1389 : decode cX8_init 1389 = .ok (.castore, 1) := by decide +kernel
theorem dX8_init_1390 : decode cX8_init 1390 = .ok (.putfield 227, 3) := by decide +kernel
theorem dX8_init_1393 : decode cX8_init 1393 = .ok (.aload_n 0, 1) := by decide +kernel
theorem dX8_init_1394 : decode cX8_init 1394 = .ok (.iconst 3, 1) := by decide +kernel
theorem dX8_init_1395 : decode cX8_init 1395 = .ok (.newarray .char, 2) := by decide +kernel
theorem dX8_init_1397 : decode cX8_init 1397 = .ok (.dup, 1) := by decide +kernel
theorem dX8_init_1398 : decode cX8_init 1398 = .ok (.iconst 0, 1) := by decide +kernel
theorem dX8_init_1399 : decode cX8_init 1399 = .ok (.bipush 110, 2) := by decide +kernel
theorem dX8_init_1401 : decode cX8_init 1401 = .ok (.castore, 1) := by decide +kernel
theorem dX8_init_1402 : decode cX8_init 1402 = .ok (.dup, 1) := by decide +kernel
theorem dX8_init_1403 : decode cX8_init 1403 = .ok (.iconst 1, 1) := by decide +kernel
theorem dX8_init_1404 : decode cX8_init 1404 = .ok (.bipush 111, 2) := by decide +kernel
theorem dX8_init_1406 : decode cX8_init 1406 = .ok (.castore, 1) := by decide +kernel
theorem dX8_init_1407 : decode cX8_init 1407 = .ok (.dup, 1) := by decide +kernel
theorem dX8_init_1408 : decode cX8_init 1408 = .ok (.iconst 2, 1) := by decide +kernel
theorem dX8_init_1409 : decode cX8_init 1409 = .ok (.bipush 116, 2) := by decide +kernel
theorem dX8_init_1411 : decode cX8_init 1411 = .ok (.castore, 1) := by decide +kernel
theorem dX8_init_1412 : decode cX8_init 1412 = .ok (.putfield 230, 3) := by decide +kernel
theorem dX8_init_1415 : decode cX8_init 1415 = .ok (.aload_n 0, 1) := by decide +kernel
theorem dX8_init_1416 : decode cX8_init 1416 = .ok (.iconst 3, 1) := by decide +kernel
theorem dX8_init_1417 : decode cX8_init 1417 = .ok (.newarray .char, 2) := by decide +kernel
theorem dX8_init_1419 : decode cX8_init 1419 = .ok (.dup, 1) := by decide +kernel
theorem dX8_init_1420 : decode cX8_init 1420 = .ok (.iconst 0, 1) := by decide +kernel
theorem dX8_init_1421 : decode cX8_init 1421 = .ok (.bipush 97, 2) := by decide +kernel
theorem dX8_init_1423 : decode cX8_init 1423 = .ok (.castore, 1) := by decide +kernel
theorem dX8_init_1424 : decode cX8_init 1424 = .ok (.dup, 1) := by decide +kernel
theorem dX8_init_1425 : decode cX8_init 1425 = .ok (.iconst 1, 1) := by decide +kernel
theorem dX8_init_1426 : decode cX8_init 1426 = .ok (.bipush 110, 2) := by decide +kernel
theorem dX8_init_1428 : decode cX8_init 1428 = .ok (.castore, 1) := by decide +kernel
theorem dX8_init_1429 : decode cX8_init 1429 = .ok (.dup, 1) := by decide +kernel
theorem dX8_init_1430 : decode cX8_init 1430 = .ok (.iconst 2, 1) := by decide +kernel
theorem dX8_init_1431 : decode cX8_init 1431 = .ok (.bipush 100, 2) := by decide +kernel
theorem dX8_init_1433 : decode cX8_init 1433 = .ok (.castore, 1) := by decide +kernel
theorem dX8_init_1434 : decode cX8_init 1434 = .ok (.putfield 233, 3) := by decide +kernel
theorem dX8_init_1437 : decode cX8_init 1437 = .ok (.aload_n 0, 1) := by decide +kernel
theorem dX8_init_1438 : decode cX8_init 1438 = .ok (.iconst 2, 1) := by decide +kernel
theorem dX8_init_1439 : decode cX8_init 1439 = .ok (.newarray .char, 2) := by decide +kernel
theorem dX8_init_1441 : decode cX8_init 1441 = .ok (.dup, 1) := by decide +kernel
theorem dX8_init_1442 : decode cX8_init 1442 = .ok (.iconst 0, 1) := by decide +kernel
theorem dX8_init_1443 : decode cX8_init 1443 = .ok (.bipush 111, 2) := by decide +kernel
theorem dX8_init_1445 : decode cX8_init 1445 = .ok (.castore, 1) := by decide +kernel
theorem dX8_init_1446 : decode cX8_init 1446 = .ok (.dup, 1) := by decide +kernel
theorem dX8_init_1447 : decode cX8_init 1447 = .ok (.iconst 1, 1) := by decide +kernel
theorem dX8_init_1448 : decode cX8_init 1448 = .ok (.bipush 114, 2) := by decide +kernel
theorem dX8_init_1450 : decode cX8_init 1450 = .ok (.castore, 1) := by decide +kernel
theorem dX8_init_1451 : decode cX8_init 1451 = .ok (.putfield 236, 3) := by decide +kernel
theorem dX8_init_1454 : decode cX8_init 1454 = .ok (.aload_n 0, 1) := by decide +kernel
theorem dX8_init_1455 : decode cX8_init 1455 = .ok (.iconst 3, 1) := by decide +kernel
theorem dX8_init_1456 : decode cX8_init 1456 = .ok (.newarray .char, 2) := by decide +kernel
theorem dX8_init_1458 : decode cX8_init 1458 = .ok (.dup, 1) := by decide +kernel
theorem dX8_init_1459 : decode cX8_init 1459 = .ok (.iconst 0, 1) := by decide +kernel
theorem dX8_init_1460 : decode cX8_init 1460 = .ok (.bipush 97, 2) := by decide +kernel
theorem dX8_init_1462 : decode cX8_init 1462 = .ok (.castore, 1) := by decide +kernel
theorem dX8_init_1463 : decode cX8_init 1463 = .ok (.dup, 1) := by decide +kernel
theorem dX8_init_1464 : decode cX8_init 1464 = .ok (.iconst 1, 1) := by decide +kernel
theorem dX8_init_1465 : decode cX8_init 1465 = .ok (.bipush 108, 2) := by decide +kernel
theorem dX8_init_1467 : decode cX8_init 1467 = .ok (.castore, 1) := by decide +kernel
theorem dX8_init_1468 : decode cX8_init 1468 = .ok (.dup, 1) := by decide +kernel
theorem dX8_init_1469 : decode cX8_init 1469 = .ok (.iconst 2, 1) := by decide +kernel
theorem dX8_init_1470 : decode cX8_init 1470 = .ok (.bipush 108, 2) := by decide +kernel
theorem dX8_init_1472 : decode cX8_init 1472 = .ok (.castore, 1) := by decide +kernel
theorem dX8_init_1473 : decode cX8_init 1473 = .ok (.putfield 239, 3) := by decide +kernel
theorem dX8_init_1476 : decode cX8_init 1476 = .ok (.aload_n 0, 1) := by decide +kernel
theorem dX8_init_1477 : decode cX8_init 1477 = .ok (.iconst 3, 1) := by decide +kernel
theorem dX8_init_1478 : decode cX8_init 1478 = .ok (.newarray .char, 2) := by decide +kernel
theorem dX8_init_1480 : decode cX8_init 1480 = .ok (.dup, 1) := by decide +kernel
theorem dX8_init_1481 : decode cX8_init 1481 = .ok (.iconst 0, 1) := by decide +kernel
theorem dX8_init_1482 : decode cX8_init 1482 = .ok (.bipush 109, 2) := by decide +kernel
theorem dX8_init_1484 : decode cX8_init 1484 = .ok (.castore, 1) := by decide +kernel
theorem dX8_init_1485 : decode cX8_init 1485 = .ok (.dup, 1) := by decide +kernel
theorem dX8_init_1486 : decode cX8_init 1486 = .ok (.iconst 1, 1) := by decide +kernel
theorem dX8_init_1487 : decode cX8_init 1487 = .ok (.bipush 105, 2) := by decide +kernel
theorem dX8_init_1489 : decode cX8_init 1489 = .ok (.castore, 1) := by decide +kernel
theorem dX8_init_1490 : decode cX8_init 1490 = .ok (.dup, 1) := by decide +kernel
theorem dX8_init_1491 : decode cX8_init 1491 = .ok (.iconst 2, 1) := by decide +kernel
theorem dX8_init_1492 : decode cX8_init 1492 = .ok (.bipush 110, 2) := by decide +kernel
theorem dX8_init_1494 : decode cX8_init 1494 = .ok (.castore, 1) := by decide +kernel
theorem dX8_init_1495 : decode cX8_init 1495 = .ok (.putfield 242, 3) := by decide +kernel
theorem dX8_init_1498 : decode cX8_init 1498 = .ok (.aload_n 0, 1) := by decide +kernel
theorem dX8_init_1499 : decode cX8_init 1499 = .ok (.iconst 3, 1) := by decide +kernel
theorem dX8_init_1500 : decode cX8_init 1500 = .ok (.newarray .char, 2) := by decide +kernel
theorem dX8_init_1502 : decode cX8_init 1502 = .ok (.dup, 1) := by decide +kernel
theorem dX8_init_1503 : decode cX8_init 1503 = .ok (.iconst 0, 1) := by decide +kernel
theorem dX8_init_1504 : decode cX8_init 1504 = .ok (.bipush 109, 2) := by decide +kernel
theorem dX8_init_1506 : decode cX8_init 1506 = .ok (.castore, 1) := by decide +kernel
theorem dX8_init_1507 : decode cX8_init 1507 = .ok (.dup, 1) := by decide +kernel
theorem dX8_init_1508 : decode cX8_init 1508 = .ok (.iconst 1, 1) := by decide +kernel
theorem dX8_init_1509 : decode cX8_init 1509 = .ok (.bipush 97, 2) := by decide +kernel
theorem dX8_init_1511 : decode cX8_init 1511 = .ok (.castore, 1) := by decide +kernel
theorem dX8_init_1512 : decode cX8_init 1512 = .ok (.dup, 1) := by decide +kernel
theorem dX8_init_1513 : decode cX8_init 1513 = .ok (.iconst 2, 1) := by decide +kernel
theorem dX8_init_1514 : decode cX8_init 1514 = .ok (.bipush 120, 2) := by decide +kernel
theorem dX8_init_1516 : decode cX8_init 1516 = .ok (.castore, 1) := by decide +kernel
theorem dX8_init_1517 : decode cX8_init 1517 = .ok (.putfield 245, 3) := by decide +kernel
theorem dX8_init_1520 : decode cX8_init 1520 = .ok (.aload_n 0, 1) := by decide +kernel
theorem dX8_init_1521 : decode cX8_init 1521 = .ok (.iconst 5, 1) := by decide +kernel
theorem dX8_init_1522 : decode cX8_init 1522 = .ok (.newarray .char, 2) := by decide +kernel
theorem dX8_init_1524 : decode cX8_init 1524 = .ok (.dup, 1) := by decide +kernel
theorem dX8_init_1525 : decode cX8_init 1525 = .ok (.iconst 0, 1) := by decide +kernel
theorem dX8_init_1526 : decode cX8_init 1526 = .ok (.bipush 116, 2) := by decide +kernel
theorem dX8_init_1528 : decode cX8_init 1528 = .ok (.castore, 1) := by decide +kernel
theorem dX8_init_1529 : decode cX8_init 1529 = .ok (.dup, 1) := by decide +kernel
theorem dX8_init_1530 : decode cX8_init 1530 = .ok (.iconst 1, 1) := by decide +kernel
theorem dX8_init_1531 : decode cX8_init 1531 = .ok (.bipush 97, 2) := by decide +kernel
theorem dX8_init_1533 : decode cX8_init 1533 = .ok (.castore, 1) := by decide +kernel
theorem dX8_init_1534 : decode cX8_init 1534 = .ok (.dup, 1) := by decide +kernel
theorem dX8_init_1535 : decode cX8_init 1535 = .ok (.iconst 2, 1) := by decide +kernel
theorem dX8_init_1536 : decode cX8_init 1536 = .ok (.bipush 107, 2) := by decide +kernel
theorem dX8_init_1538 : decode cX8_init 1538 = .ok (.castore, 1) := by decide +kernel
theorem dX8_init_1539 : decode cX8_init 1539 = .ok (.dup, 1) := by decide +kernel
theorem dX8_init_1540 : decode cX8_init 1540 = .ok (.iconst 3, 1) := by decide +kernel
theorem dX8_init_1541 : decode cX8_init 1541 = .ok (.bipush 101, 2) := by decide +kernel
theorem dX8_init_1543 : decode cX8_init 1543 = .ok (.castore, 1) := by decide +kernel
theorem dX8_init_1544 : decode cX8_init 1544 = .ok (.dup, 1) := by decide +kernel
theorem dX8_init_1545 : decode cX8_init 1545 = .ok (.iconst 4, 1) := by decide +kernel
theorem dX8_init_1546 : decode cX8_init 1546 = .ok (.bipush 115, 2) := by decide +kernel
theorem dX8_init_1548 : decode cX8_init 1548 = .ok (.castore, 1) := by decide +kernel
theorem dX8_init_1549 : decode cX8_init 1549 = .ok (.putfield 248, 3) := by decide +kernel
theorem dX8_init_1552 : decode cX8_init 1552 = .ok (.aload_n 0, 1) := by decide +kernel
theorem dX8_init_1553 : decode cX8_init 1553 = .ok (.iconst 5, 1) := by decide +kernel
theorem dX8_init_1554 : decode cX8_init 1554 = .ok (.newarray .char, 2) := by decide +kernel
theorem dX8_init_1556 : decode cX8_init 1556 = .ok (.dup, 1) := by decide +kernel
theorem dX8_init_1557 : decode cX8_init 1557 = .ok (.iconst 0, 1) := by decide +kernel
theorem dX8_init_1558 : decode cX8_init 1558 = .ok (.bipush 115, 2) := by decide +kernel
theorem dX8_init_1560 : decode cX8_init 1560 = .ok (.castore, 1) := by decide +kernel
theorem dX8_init_1561 : decode cX8_init 1561 = .ok (.dup, 1) := by decide +kernel
theorem dX8_init_1562 : decode cX8_init 1562 = .ok (.iconst 1, 1) := by decide +kernel
theorem dX8_init_1563 : decode cX8_init 1563 = .ok (.bipush 104, 2) := by decide +kernel
theorem dX8_init_1565 : decode cX8_init 1565 = .ok (.castore, 1) := by decide +kernel
theorem dX8_init_1566 : decode cX8_init 1566 = .ok (.dup, 1) := by decide +kernel
theorem dX8_init_1567 : decode cX8_init 1567 = .ok (.iconst 2, 1) := by decide +kernel
theorem dX8_init_1568 : decode cX8_init 1568 = .ok (.bipush 111, 2) := by decide +kernel
theorem dX8_init_1570 : decode cX8_init 1570 = .ok (.castore, 1) := by decide +kernel
theorem dX8_init_1571 : decode cX8_init 1571 = .ok (.dup, 1) := by decide +kernel
theorem dX8_init_1572 : decode cX8_init 1572 = .ok (.iconst 3, 1) := by decide +kernel
theorem dX8_init_1573 : decode cX8_init 1573 = .ok (.bipush 119, 2) := by decide +kernel
theorem dX8_init_1575 : decode cX8_init 1575 = .ok (.castore, 1) := by decide +kernel
theorem dX8_init_1576 : decode cX8_init 1576 = .ok (.dup, 1) := by decide +kernel
theorem dX8_init_1577 : decode cX8_init 1577 = .ok (.iconst 4, 1) := by decide +kernel
theorem dX8_init_1578 : decode cX8_init 1578 = .ok (.bipush 110, 2) := by decide +kernel
theorem dX8_init_1580 : decode cX8_init 1580 = .ok (.castore, 1) := by decide +kernel
theorem dX8_init_1581 : decode cX8_init 1581 = .ok (.putfield 251, 3) := by decide +kernel
theorem dX8_init_1584 : decode cX8_init 1584 = .ok (.aload_n 0, 1) := by decide +kernel
theorem dX8_init_1585 : decode cX8_init 1585 = .ok (.iconst 4, 1) := by decide +kernel
theorem dX8_init_1586 : decode cX8_init 1586 = .ok (.newarray .char, 2) := by decide +kernel
theorem dX8_init_1588 : decode cX8_init 1588 = .ok (.dup, 1) := by decide +kernel
theorem dX8_init_1589 : decode cX8_init 1589 = .ok (.iconst 0, 1) := by decide +kernel
theorem dX8_init_1590 : decode cX8_init 1590 = .ok (.bipush 117, 2) := by decide +kernel
theorem dX8_init_1592 : decode cX8_init 1592 = .ok (.castore, 1) := by decide +kernel
theorem dX8_init_1593 : decode cX8_init 1593 = .ok (.dup, 1) := by decide +kernel
theorem dX8_init_1594 : decode cX8_init 1594 = .ok (.iconst 1, 1) := by decide +kernel
theorem dX8_init_1595 : decode cX8_init 1595 = .ok (.bipush 115, 2) := by decide +kernel
theorem dX8_init_1597 : decode cX8_init 1597 = .ok (.castore, 1) := by decide +kernel
theorem dX8_init_1598 : decode cX8_init 1598 = .ok (.dup, 1) := by decide +kernel
theorem dX8_init_1599 : decode cX8_init 1599 = .ok (.iconst 2, 1) := by decide +kernel
theorem dX8_init_1600 : decode cX8_init 1600 = .ok (.bipush 101, 2) := by decide +kernel
theorem dX8_init_1602 : decode cX8_init 1602 = .ok (.castore, 1) := by decide +kernel
theorem dX8_init_1603 : decode cX8_init 1603 = .ok (.dup, 1) := by decide +kernel
theorem dX8_init_1604 : decode cX8_init 1604 = .ok (.iconst 3, 1) := by decide +kernel
theorem dX8_init_1605 : decode cX8_init 1605 = .ok (.bipush 100, 2) := by decide +kernel
theorem dX8_init_1607 : decode cX8_init 1607 = .ok (.castore, 1) := by decide +kernel
theorem dX8_init_1608 : decode cX8_init 1608 = .ok (.putfield 254, 3) := by decide +kernel
theorem dX8_init_1611 : decode cX8_init 1611 = .ok (.aload_n 0, 1) := by decide +kernel
theorem dX8_init_1612 : decode cX8_init 1612 = .ok (.bipush 6, 2) := by decide +kernel
theorem dX8_init_1614 : decode cX8_init 1614 = .ok (.newarray .char, 2) := by decide +kernel
theorem dX8_init_1616 : decode cX8_init 1616 = .ok (.dup, 1) := by decide +kernel
theorem dX8_init_1617 : decode cX8_init 1617 = .ok (.iconst 0, 1) := by decide +kernel
theorem dX8_init_1618 : decode cX8_init 1618 = .ok (.bipush 110, 2) := by decide +kernel
theorem dX8_init_1620 : decode cX8_init 1620 = .ok (.castore, 1) := by decide +kernel
theorem dX8_init_1621 : decode cX8_init 1621 = .ok (.dup, 1) := by decide +kernel
theorem dX8_init_1622 : decode cX8_init 1622 = .ok (.iconst 1, 1) := by decide +kernel
theorem dX8_init_1623 : decode cX8_init 1623 = .ok (.bipush 117, 2) := by decide +kernel
theorem dX8_init_1625 : decode cX8_init 1625 = .ok (.castore, 1) := by decide +kernel
theorem dX8_init_1626 : decode cX8_init 1626 = .ok (.dup, 1) := by decide +kernel
theorem dX8_init_1627 : decode cX8_init 1627 = .ok (.iconst 2, 1) := by decide +kernel
theorem dX8_init_1628 : decode cX8_init 1628 = .ok (.bipush 109, 2) := by decide +kernel
theorem dX8_init_1630 : decode cX8_init 1630 = .ok (.castore, 1) := by decide +kernel
theorem dX8_init_1631 : decode cX8_init 1631 = .ok (.dup, 1) := by decide +kernel
theorem dX8_init_1632 : decode cX8_init 1632 = .ok (.iconst 3, 1) := by decide +kernel
theorem dX8_init_1633 : decode cX8_init 1633 = .ok (.bipush 98, 2) := by decide +kernel
theorem dX8_init_1635 : decode cX8_init 1635 = .ok (.castore, 1) := by decide +kernel
theorem dX8_init_1636 : decode cX8_init 1636 = .ok (.dup, 1) := by decide +kernel
theorem dX8_init_1637 : decode cX8_init 1637 = .ok (.iconst 4, 1) := by decide +kernel
theorem dX8_init_1638 : decode cX8_init 1638 = .ok (.bipush 101, 2) := by decide +kernel
theorem dX8_init_1640 : decode cX8_init 1640 = .ok (.castore, 1) := by decide +kernel
theorem dX8_init_1641 : decode cX8_init 1641 = .ok (.dup, 1) := by decide +kernel
theorem dX8_init_1642 : decode cX8_init 1642 = .ok (.iconst 5, 1) := by decide +kernel
theorem dX8_init_1643 : decode cX8_init 1643 = .ok (.bipush 114, 2) := by decide +kernel
theorem dX8_init_1645 : decode cX8_init 1645 = .ok (.castore, 1) := by decide +kernel
theorem dX8_init_1646 : decode cX8_init 1646 = .ok (.putfield 257, 3) := by decide +kernel
theorem dX8_init_1649 : decode cX8_init 1649 = .ok (.aload_n 0, 1) := by decide +kernel
theorem dX8_init_1650 : decode cX8_init 1650 = .ok (.iconst 4, 1) := by decide +kernel
theorem dX8_init_1651 : decode cX8_init 1651 = .ok (.newarray .char, 2) := by decide +kernel
theorem dX8_init_1653 : decode cX8_init 1653 = .ok (.dup, 1) := by decide +kernel
theorem dX8_init_1654 : decode cX8_init 1654 = .ok (.iconst 0, 1) := by decide +kernel
theorem dX8_init_1655 : decode cX8_init 1655 = .ok (.bipush 114, 2) := by decide +kernel
theorem dX8_init_1657 : decode cX8_init 1657 = .ok (.castore, 1) := by decide +kernel
theorem dX8_init_1658 : decode cX8_init 1658 = .ok (.dup, 1) := by decide +kernel
theorem dX8_init_1659 : decode cX8_init 1659 = .ok (.iconst 1, 1) := by decide +kernel
theorem dX8_init_1660 : decode cX8_init 1660 = .ok (.bipush 101, 2) := by decide +kernel
theorem dX8_init_1662 : decode cX8_init 1662 = .ok (.castore, 1) := by decide +kernel
theorem dX8_init_1663 : decode cX8_init 1663 = .ok (.dup, 1) := by decide +kernel
theorem dX8_init_1664 : decode cX8_init 1664 = .ok (.iconst 2, 1) := by decide +kernel
theorem dX8_init_1665 : decode cX8_init 1665 = .ok (.bipush 115, 2) := by decide +kernel
theorem dX8_init_1667 : decode cX8_init 1667 = .ok (.castore, 1) := by decide +kernel
theorem dX8_init_1668 : decode cX8_init 1668 = .ok (.dup, 1) := by decide +kernel
theorem dX8_init_1669 : decode cX8_init 1669 = .ok (.iconst 3, 1) := by decide +kernel
theorem dX8_init_1670 : decode cX8_init 1670 = .ok (.bipush 116, 2) := by decide +kernel
theorem dX8_init_1672 : decode cX8_init 1672 = .ok (.castore, 1) := by decide +kernel
theorem dX8_init_1673 : decode cX8_init 1673 = .ok (.putfield 260, 3) := by decide +kernel
theorem dX8_init_1676 : decode cX8_init 1676 = .ok (.aload_n 0, 1) := by decide +kernel
theorem dX8_init_1677 : decode cX8_init 1677 = .ok (.iconst 4, 1) := by decide +kernel
theorem dX8_init_1678 : decode cX8_init 1678 = .ok (.newarray .char, 2) := by decide +kernel
theorem dX8_init_1680 : decode cX8_init 1680 = .ok (.dup, 1) := by decide +kernel
theorem dX8_init_1681 : decode cX8_init 1681 = .ok (.iconst 0, 1) := by decide +kernel
theorem dX8_init_1682 : decode cX8_init 1682 = .ok (.bipush 108, 2) := by decide +kernel
theorem dX8_init_1684 : decode cX8_init 1684 = .ok (.castore, 1) := by decide +kernel
theorem dX8_init_1685 : decode cX8_init 1685 = .ok (.dup, 1) := by decide +kernel
theorem dX8_init_1686 : decode cX8_init 1686 = .ok (.iconst 1, 1) := by decide +kernel
theorem dX8_init_1687 : decode cX8_init 1687 = .ok (.bipush 101, 2) := by decide +kernel
theorem dX8_init_1689 : decode cX8_init 1689 = .ok (.castore, 1) := by decide +kernel
theorem dX8_init_1690 : decode cX8_init 1690 = .ok (.dup, 1) := by decide +kernel
theorem dX8_init_1691 : decode cX8_init 1691 = .ok (.iconst 2, 1) := by decide +kernel
theorem dX8_init_1692 : decode cX8_init 1692 = .ok (.bipush 102, 2) := by decide +kernel
theorem dX8_init_1694 : decode cX8_init 1694 = .ok (.castore, 1) := by decide +kernel
theorem dX8_init_1695 : decode cX8_init 1695 = .ok (.dup, 1) := by decide +kernel
theorem dX8_init_1696 : decode cX8_init 1696 = .ok (.iconst 3, 1) := by decide +kernel
theorem dX8_init_1697 : decode cX8_init 1697 = .ok (.bipush 116, 2) := by decide +kernel
theorem dX8_init_1699 : decode cX8_init 1699 = .ok (.castore, 1) := by decide +kernel
theorem dX8_init_1700 : decode cX8_init 1700 = .ok (.putfield 263, 3) := by decide +kernel
theorem dX8_init_1703 : decode cX8_init 1703 = .ok (.aload_n 0, 1) := by decide +kernel
theorem dX8_init_1704 : decode cX8_init 1704 = .ok (.bipush 7, 2) := by decide +kernel
theorem dX8_init_1706 : decode cX8_init 1706 = .ok (.newarray .char, 2) := by decide +kernel
theorem dX8_init_1708 : decode cX8_init 1708 = .ok (.dup, 1) := by decide +kernel
theorem dX8_init_1709 : decode cX8_init 1709 = .ok (.iconst 0, 1) := by decide +kernel
theorem dX8_init_1710 : decode cX8_init 1710 = .ok (.bipush 99, 2) := by decide +kernel
theorem dX8_init_1712 : decode cX8_init 1712 = .ok (.castore, 1) := by decide +kernel
theorem dX8_init_1713 : decode cX8_init 1713 = .ok (.dup, 1) := by decide +kernel
theorem dX8_init_1714 : decode cX8_init 1714 = .ok (.iconst 1, 1) := by decide +kernel
theorem dX8_init_1715 : decode cX8_init 1715 = .ok (.bipush 104, 2) := by decide +kernel
theorem dX8_init_1717 : decode cX8_init 1717 = .ok (.castore, 1) := by decide +kernel
theorem dX8_init_1718 : decode cX8_init 1718 = .ok (.dup, 1) := by decide +kernel
theorem dX8_init_1719 : decode cX8_init 1719 = .ok (.iconst 2, 1) := by decide +kernel
theorem dX8_init_1720 : decode cX8_init 1720 = .ok (.bipush 97, 2) := by decide +kernel
theorem dX8_init_1722 : decode cX8_init 1722 = .ok (.castore, 1) := by decide +kernel
theorem dX8_init_1723 : decode cX8_init 1723 = .ok (.dup, 1) := by decide +kernel
theorem dX8_init_1724 : decode cX8_init 1724 = .ok (.iconst 3, 1) := by decide +kernel
theorem dX8_init_1725 : decode cX8_init 1725 = .ok (.bipush 110, 2) := by decide +kernel
theorem dX8_init_1727 : decode cX8_init 1727 = .ok (.castore, 1) := by decide +kernel
theorem dX8_init_1728 : decode cX8_init 1728 = .ok (.dup, 1) := by decide +kernel
theorem dX8_init_1729 : decode cX8_init 1729 = .ok (.iconst 4, 1) := by decide +kernel
theorem dX8_init_1730 : decode cX8_init 1730 = .ok (.bipush 103, 2) := by decide +kernel
theorem dX8_init_1732 : decode cX8_init 1732 = .ok (.castore, 1) := by decide +kernel
theorem dX8_init_1733 : decode cX8_init 1733 = .ok (.dup, 1) := by decide +kernel
theorem dX8_init_1734 : decode cX8_init 1734 = .ok (.iconst 5, 1) := by decide +kernel
theorem dX8_init_1735 : decode cX8_init 1735 = .ok (.bipush 101, 2) := by decide +kernel
theorem dX8_init_1737 : decode cX8_init 1737 = .ok (.castore, 1) := by decide +kernel
theorem dX8_init_1738 : decode cX8_init 1738 = .ok (.dup, 1) := by decide +kernel
theorem dX8_init_1739 : decode cX8_init 1739 = .ok (.bipush 6, 2) := by decide +kernel
theorem dX8_init_1741 : decode cX8_init 1741 = .ok (.bipush 100, 2) := by decide +kernel
theorem dX8_init_1743 : decode cX8_init 1743 = .ok (.castore, 1) := by decide +kernel
theorem dX8_init_1744 : decode cX8_init 1744 = .ok (.putfield 266, 3) := by decide +kernel
theorem dX8_init_1747 : decode cX8_init 1747 = .ok (.aload_n 0, 1) := by decide +kernel
theorem dX8_init_1748 : decode cX8_init 1748 = .ok (.bipush 6, 2) := by decide +kernel
theorem dX8_init_1750 : decode cX8_init 1750 = .ok (.newarray .char, 2) := by decide +kernel
theorem dX8_init_1752 : decode cX8_init 1752 = .ok (.dup, 1) := by decide +kernel
theorem dX8_init_1753 : decode cX8_init 1753 = .ok (.iconst 0, 1) := by decide +kernel
theorem dX8_init_1754 : decode cX8_init 1754 = .ok (.bipush 109, 2) := by decide +kernel
theorem dX8_init_1756 : decode cX8_init 1756 = .ok (.castore, 1) := by decide +kernel
theorem dX8_init_1757 : decode cX8_init 1757 = .ok (.dup, 1) := by decide +kernel
theorem dX8_init_1758 : decode cX8_init 1758 = .ok (.iconst 1, 1) := by decide +kernel
theorem dX8_init_1759 : decode cX8_init 1759 = .ok (.bipush 101, 2) := by decide +kernel
theorem dX8_init_1761 : decode cX8_init 1761 = .ok (.castore, 1) := by decide +kernel
theorem dX8_init_1762 : decode cX8_init 1762 = .ok (.dup, 1) := by decide +kernel
theorem dX8_init_1763 : decode cX8_init 1763 = .ok (.iconst 2, 1) := by decide +kernel
theorem dX8_init_1764 : decode cX8_init 1764 = .ok (.bipush 110, 2) := by decide +kernel
theorem dX8_init_1766 : decode cX8_init 1766 = .ok (.castore, 1) := by decide +kernel
theorem dX8_init_1767 : decode cX8_init 1767 = .ok (.dup, 1) := by decide +kernel
theorem dX8_init_1768 : decode cX8_init 1768 = .ok (.iconst 3, 1) := by decide +kernel
theorem dX8_init_1769 : decode cX8_init 1769 = .ok (.bipush 100, 2) := by decide +kernel
theorem dX8_init_1771 : decode cX8_init 1771 = .ok (.castore, 1) := by decide +kernel
theorem dX8_init_1772 : decode cX8_init 1772 = .ok (.dup, 1) := by decide +kernel
theorem dX8_init_1773 : decode cX8_init 1773 = .ok (.iconst 4, 1) := by decide +kernel
theorem dX8_init_1774 : decode cX8_init 1774 = .ok (.bipush 101, 2) := by decide +kernel
theorem dX8_init_1776 : decode cX8_init 1776 = .ok (.castore, 1) := by decide +kernel
theorem dX8_init_1777 : decode cX8_init 1777 = .ok (.dup, 1) := by decide +kernel
theorem dX8_init_1778 : decode cX8_init 1778 = .ok (.iconst 5, 1) := by decide +kernel
theorem dX8_init_1779 : decode cX8_init 1779 = .ok (.bipush 100, 2) := by decide +kernel
theorem dX8_init_1781 : decode cX8_init 1781 = .ok (.castore, 1) := by decide +kernel
theorem dX8_init_1782 : decode cX8_init 1782 = .ok (.putfield 269, 3) := by decide +kernel
theorem dX8_init_1785 : decode cX8_init 1785 = .ok (.aload_n 0, 1) := by decide +kernel
theorem dX8_init_1786 : decode cX8_init 1786 = .ok (.iconst 5, 1) := by decide +kernel
theorem dX8_init_1787 : decode cX8_init 1787 = .ok (.newarray .char, 2) := by decide +kernel
theorem dX8_init_1789 : decode cX8_init 1789 = .ok (.dup, 1) := by decide +kernel
theorem dX8_init_1790 : decode cX8_init 1790 = .ok (.iconst 0, 1) := by decide +kernel
theorem dX8_init_1791 : decode cX8_init 1791 = .ok (.bipush 121, 2) := by decide +kernel
theorem dX8_init_1793 : decode cX8_init 1793 = .ok (.castore, 1) := by decide +kernel
theorem dX8_init_1794 : decode cX8_init 1794 = .ok (.dup, 1) := by decide +kernel
theorem dX8_init_1795 : decode cX8_init 1795 = .ok (.iconst 1, 1) := by decide +kernel
theorem dX8_init_1796 : decode cX8_init 1796 = .ok (.bipush 97, 2) := by decide +kernel
theorem dX8_init_1798 : decode cX8_init 1798 = .ok (.castore, 1) := by decide +kernel
theorem dX8_init_1799 : decode cX8_init 1799 = .ok (.dup, 1) := by decide +kernel
theorem dX8_init_1800 : decode cX8_init 1800 = .ok (.iconst 2, 1) := by decide +kernel
theorem dX8_init_1801 : decode cX8_init 1801 = .ok (.bipush 114, 2) := by decide +kernel
theorem dX8_init_1803 : decode cX8_init 1803 = .ok (.castore, 1) := by decide +kernel
theorem dX8_init_1804 : decode cX8_init 1804 = .ok (.dup, 1) := by decide +kernel
theorem dX8_init_1805 : decode cX8_init 1805 = .ok (.iconst 3, 1) := by decide +kernel
theorem dX8_init_1806 : decode cX8_init 1806 = .ok (.bipush 100, 2) := by decide +kernel
theorem dX8_init_1808 : decode cX8_init 1808 = .ok (.castore, 1) := by decide +kernel
theorem dX8_init_1809 : decode cX8_init 1809 = .ok (.dup, 1) := by decide +kernel
theorem dX8_init_1810 : decode cX8_init 1810 = .ok (.iconst 4, 1) := by decide +kernel
theorem dX8_init_1811 : decode cX8_init 1811 = .ok (.bipush 115, 2) := by decide +kernel
theorem dX8_init_1813 : decode cX8_init 1813 = .ok (.castore, 1) := by decide +kernel
theorem dX8_init_1814 : decode cX8_init 1814 = .ok (.putfield 272, 3) := by decide +kernel
theorem dX8_init_1817 : decode cX8_init 1817 = .ok (.aload_n 0, 1) := by decide +kernel
theorem dX8_init_1818 : decode cX8_init 1818 = .ok (.sipush 1700, 3) := by decide +kernel
theorem dX8_init_1821 : decode cX8_init 1821 = .ok (.newarray .int, 2) := by decide +kernel
theorem dX8_init_1823 : decode cX8_init 1823 = .ok (.putfield 275, 3) := by decide +kernel
theorem dX8_init_1826 : decode cX8_init 1826 = .ok (.aload_n 0, 1) := by decide +kernel
theorem dX8_init_1827 : decode cX8_init 1827 = .ok (.sipush 1700, 3) := by decide +kernel
theorem dX8_init_1830 : decode cX8_init 1830 = .ok (.newarray .int, 2) := by decide +kernel
theorem dX8_init_1832 : decode cX8_init 1832 = .ok (.putfield 278, 3) := by decide +kernel
theorem dX8_init_1835 : decode cX8_init 1835 = .ok (.aload_n 0, 1) := by decide +kernel
theorem dX8_init_1836 : decode cX8_init 1836 = .ok (.sipush 1700, 3) := by decide +kernel
theorem dX8_init_1839 : decode cX8_init 1839 = .ok (.newarray .long, 2) := by decide +kernel
theorem dX8_init_1841 : decode cX8_init 1841 = .ok (.putfield 281, 3) := by decide +kernel
theorem dX8_init_1844 : decode cX8_init 1844 = .ok (.aload_n 0, 1) := by decide +kernel
theorem dX8_init_1845 : decode cX8_init 1845 = .ok (.bipush 8, 2) := by decide +kernel
theorem dX8_init_1847 : decode cX8_init 1847 = .ok (.newarray .int, 2) := by decide +kernel
theorem dX8_init_1849 : decode cX8_init 1849 = .ok (.putfield 284, 3) := by decide +kernel
theorem dX8_init_1852 : decode cX8_init 1852 = .ok (.return_, 1) := by decide +kernel
