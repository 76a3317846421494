theorem dX6_clear_0 : decode cX6_clear 0 = .ok (.aload_n 0, 1) := by decide +kernel
theorem dX6_clear_1 : decode cX6_clear 1 = .ok (.iconst 0, 1) := by decide +kernel
theorem dX6_clear_2 : decode cX6_clear 2 = .ok (.putfield 52, 3) := by decide +kernel
theorem dX6_clear_5 : decode cX6_clear 5 = .ok (.aload_n 0, 1) := by decide +kernel
theorem dX6_clear_6 : decode cX6_clear 6 = .ok (.iconst 0, 1) := by decide +kernel
theorem dX6_clear_7 : decode cX6_clear 7 = .ok (.putfield 56, 3) := by decide +kernel
theorem dX6_clear_10 : decode cX6_clear 10 = .ok (.aload_n 0, 1) := by decide +kernel
theorem dX6_clear_11 : decode cX6_clear 11 = .ok (.iconst 0, 1) := by decide +kernel
theorem dX6_clear_12 : decode cX6_clear 12 = .ok (.putfield 59, 3) := by decide +kernel
theorem dX6_clear_15 : decode cX6_clear 15 = .ok (.aload_n 0, 1) := by decide +kernel
theorem dX6_clear_16 : decode cX6_clear 16 = .ok (.iconst 0, 1) := by decide +kernel
theorem dX6_clear_17 : decode cX6_clear 17 = .ok (.putfield 62, 3) := by decide +kernel
theorem dX6_clear_20 : decode cX6_clear 20 = .ok (.aload_n 0, 1) := by decide +kernel
theorem dX6_clear_21 : decode cX6_clear 21 = .ok (.getfield 36, 3) := by decide +kernel
theorem dX6_clear_24 : decode cX6_clear 24 = .ok (.iconst 0, 1) := by decide +kernel
theorem dX6_clear_25 : decode cX6_clear 25 = .ok (.putfield 65, 3) := by decide +kernel
theorem dX6_clear_28 : decode cX6_clear 28 = .ok (.getstatic 68, 3) := by decide +kernel
theorem dX6_clear_31 : decode cX6_clear 31 = .ok (.iconst 0, 1) := by decide +kernel
theorem dX6_clear_32 : decode cX6_clear 32 = .ok (.aload_n 0, 1) := by decide +kernel
theorem dX6_clear_33 : decode cX6_clear 33 = .ok (.getfield 46, 3) := by decide +kernel
theorem dX6_clear_36 : decode cX6_clear 36 = .ok (.iconst 0, 1) := by decide +kernel
theorem dX6_clear_37 : decode cX6_clear 37 = .ok (.aload_n 0, 1) := by decide +kernel
theorem dX6_clear_38 : decode cX6_clear 38 = .ok (.getfield 46, 3) := by decide +kernel
theorem dX6_clear_41 : decode cX6_clear 41 = .ok (.arraylength, 1) := by decide +kernel
theorem dX6_clear_42 : decode cX6_clear 42 = .ok (.invokestatic 71, 3) := by decide +kernel
theorem dX6_clear_45 : decode cX6_clear 45 = .ok (.return_, 1) := by decide +kernel
theorem dX6_addLength_0 : decode cX6_addLength 0 = .ok (.aload_n 0, 1) := by decide +kernel
theorem dX6_addLength_1 : decode cX6_addLength 1 = .ok (.getfield 52, 3) := by decide +kernel
theorem dX6_addLength_4 : decode cX6_addLength 4 = .ok (.bipush 6, 2) := by decide +kernel
theorem dX6_addLength_6 : decode cX6_addLength 6 = .ok (.if_icmp .ge 33, 3) := by decide +kernel
theorem dX6_addLength_9 : decode cX6_addLength 9 = .ok (.aload_n 0, 1) := by decide +kernel
theorem dX6_addLength_10 : decode cX6_addLength 10 = .ok (.getfield 9, 3) := by decide +kernel
theorem dX6_addLength_13 : decode cX6_addLength 13 = .ok (.aload_n 0, 1) := by decide +kernel
theorem dX6_addLength_14 : decode cX6_addLength 14 = .ok (.getfield 52, 3) := by decide +kernel
theorem dX6_addLength_17 : decode cX6_addLength 17 = .ok (.iload_n 1, 1) := by decide +kernel
theorem dX6_addLength_18 : decode cX6_addLength 18 = .ok (.iastore, 1) := by decide +kernel
theorem dX6_addLength_19 : decode cX6_addLength 19 = .ok (.aload_n 0, 1) := by decide +kernel
theorem dX6_addLength_20 : decode cX6_addLength 20 = .ok (.getfield 15, 3) := by decide +kernel
theorem dX6_addLength_23 : decode cX6_addLength 23 = .ok (.aload_n 0, 1) := by decide +kernel
theorem dX6_addLength_24 : decode cX6_addLength 24 = .ok (.getfield 52, 3) := by decide +kernel
theorem dX6_addLength_27 : decode cX6_addLength 27 = .ok (.iload_n 2, 1) := by decide +kernel
theorem dX6_addLength_28 : decode cX6_addLength 28 = .ok (.iastore, 1) := by decide +kernel
theorem dX6_addLength_29 : decode cX6_addLength 29 = .ok (.aload_n 0, 1) := by decide +kernel
theorem dX6_addLength_30 : decode cX6_addLength 30 = .ok (.dup, 1) := by decide +kernel
theorem dX6_addLength_31 : decode cX6_addLength 31 = .ok (.getfield 52, 3) := by decide +kernel
theorem dX6_addLength_34 : decode cX6_addLength 34 = .ok (.iconst 1, 1) := by decide +kernel
theorem dX6_addLength_35 : decode cX6_addLength 35 = .ok (.iadd, 1) := by decide +kernel
theorem dX6_addLength_36 : decode cX6_addLength 36 = .ok (.putfield 52, 3) := by decide +kernel
theorem dX6_addLength_39 : decode cX6_addLength 39 = .ok (.return_, 1) := by decide +kernel
theorem dX6_addSeam_0 : decode cX6_addSeam 0 = .ok (.aload_n 0, 1) := by decide +kernel
theorem dX6_addSeam_1 : decode cX6_addSeam 1 = .ok (.getfield 56, 3) := by decide +kernel
theorem dX6_addSeam_4 : decode cX6_addSeam 4 = .ok (.bipush 10, 2) := by decide +kernel
theorem dX6_addSeam_6 : decode cX6_addSeam 6 = .ok (.if_icmp .ge 65, 3) := by decide +kernel
theorem dX6_addSeam_9 : decode cX6_addSeam 9 = .ok (.aload_n 0, 1) := by decide +kernel
theorem dX6_addSeam_10 : decode cX6_addSeam 10 = .ok (.getfield 18, 3) := by decide +kernel
theorem dX6_addSeam_13 : decode cX6_addSeam 13 = .ok (.aload_n 0, 1) := by decide +kernel
theorem dX6_addSeam_14 : decode cX6_addSeam 14 = .ok (.getfield 56, 3) := by decide +kernel
theorem dX6_addSeam_17 : decode cX6_addSeam 17 = .ok (.iload_n 1, 1) := by decide +kernel
theorem dX6_addSeam_18 : decode cX6_addSeam 18 = .ok (.iastore, 1) := by decide +kernel
theorem dX6_addSeam_19 : decode cX6_addSeam 19 = .ok (.aload_n 0, 1) := by decide +kernel
theorem dX6_addSeam_20 : decode cX6_addSeam 20 = .ok (.getfield 21, 3) := by decide +kernel
theorem dX6_addSeam_23 : decode cX6_addSeam 23 = .ok (.aload_n 0, 1) := by decide +kernel
theorem dX6_addSeam_24 : decode cX6_addSeam 24 = .ok (.getfield 56, 3) := by decide +kernel
theorem dX6_addSeam_27 : decode cX6_addSeam 27 = .ok (.iload_n 2, 1) := by decide +kernel
theorem dX6_addSeam_28 : decode cX6_addSeam 28 = .ok (.iastore, 1) := by decide +kernel
theorem dX6_addSeam_29 : decode cX6_addSeam 29 = .ok (.aload_n 0, 1) := by decide +kernel
theorem dX6_addSeam_30 : decode cX6_addSeam 30 = .ok (.getfield 27, 3) := by decide +kernel
theorem dX6_addSeam_33 : decode cX6_addSeam 33 = .ok (.aload_n 0, 1) := by decide +kernel
theorem dX6_addSeam_34 : decode cX6_addSeam 34 = .ok (.getfield 56, 3) := by decide +kernel
theorem dX6_addSeam_37 : decode cX6_addSeam 37 = .ok (.iload_n 3, 1) := by decide +kernel
theorem dX6_addSeam_38 : decode cX6_addSeam 38 = .ok (.iastore, 1) := by decide +kernel
theorem dX6_addSeam_39 : decode cX6_addSeam 39 = .ok (.aload_n 0, 1) := by decide +kernel
theorem dX6_addSeam_40 : decode cX6_addSeam 40 = .ok (.getfield 30, 3) := by decide +kernel
theorem dX6_addSeam_43 : decode cX6_addSeam 43 = .ok (.aload_n 0, 1) := by decide +kernel
theorem dX6_addSeam_44 : decode cX6_addSeam 44 = .ok (.getfield 56, 3) := by decide +kernel
theorem dX6_addSeam_47 : decode cX6_addSeam 47 = .ok (.iconst 1, 1) := by decide +kernel
theorem dX6_addSeam_48 : decode cX6_addSeam 48 = .ok (.iadd, 1) := by decide +kernel
theorem dX6_addSeam_49 : decode cX6_addSeam 49 = .ok (.aload_n 0, 1) := by decide +kernel
theorem dX6_addSeam_50 : decode cX6_addSeam 50 = .ok (.getfield 30, 3) := by decide +kernel
theorem dX6_addSeam_53 : decode cX6_addSeam 53 = .ok (.aload_n 0, 1) := by decide +kernel
theorem dX6_addSeam_54 : decode cX6_addSeam 54 = .ok (.getfield 56, 3) := by decide +kernel
theorem dX6_addSeam_57 : decode cX6_addSeam 57 = .ok (.iaload, 1) := by decide +kernel
theorem dX6_addSeam_58 : decode cX6_addSeam 58 = .ok (.iload_n 1, 1) := by decide +kernel
theorem dX6_addSeam_59 : decode cX6_addSeam 59 = .ok (.iadd, 1) := by decide +kernel
theorem dX6_addSeam_60 : decode cX6_addSeam 60 = .ok (.iastore, 1) := by decide +kernel
theorem dX6_addSeam_61 : decode cX6_addSeam 61 = .ok (.aload_n 0, 1) := by decide +kernel
theorem dX6_addSeam_62 : decode cX6_addSeam 62 = .ok (.dup, 1) := by decide +kernel
theorem dX6_addSeam_63 : decode cX6_addSeam 63 = .ok (.getfield 56, 3) := by decide +kernel
theorem dX6_addSeam_66 : decode cX6_addSeam 66 = .ok (.iconst 1, 1) := by decide +kernel
theorem dX6_addSeam_67 : decode cX6_addSeam 67 = .ok (.iadd, 1) := by decide +kernel
theorem dX6_addSeam_68 : decode cX6_addSeam 68 = .ok (.putfield 56, 3) := by decide +kernel
theorem dX6_addSeam_71 : decode cX6_addSeam 71 = .ok (.return_, 1) := by decide +kernel
theorem dX6_addRule_0 : decode cX6_addRule 0 = .ok (.aload_n 0, 1) := by decide +kernel
theorem dX6_addRule_1 : decode cX6_addRule 1 = .ok (.getfield 59, 3) := by decide +kernel
theorem dX6_addRule_4 : decode cX6_addRule 4 = .ok (.iconst 4, 1) := by decide +kernel
theorem dX6_addRule_5 : decode cX6_addRule 5 = .ok (.if_icmp .ge 29, 3) := by decide +kernel
theorem dX6_addRule_8 : decode cX6_addRule 8 = .ok (.aload_n 0, 1) := by decide +kernel
theorem dX6_addRule_9 : decode cX6_addRule 9 = .ok (.dup, 1) := by decide +kernel
theorem dX6_addRule_10 : decode cX6_addRule 10 = .ok (.getfield 59, 3) := by decide +kernel
theorem dX6_addRule_13 : decode cX6_addRule 13 = .ok (.iconst 1, 1) := by decide +kernel
theorem dX6_addRule_14 : decode cX6_addRule 14 = .ok (.iadd, 1) := by decide +kernel
theorem dX6_addRule_15 : decode cX6_addRule 15 = .ok (.putfield 59, 3) := by decide +kernel
theorem dX6_addRule_18 : decode cX6_addRule 18 = .ok (.aload_n 0, 1) := by decide +kernel
theorem dX6_addRule_19 : decode cX6_addRule 19 = .ok (.getfield 40, 3) := by decide +kernel
theorem dX6_addRule_22 : decode cX6_addRule 22 = .ok (.aload_n 0, 1) := by decide +kernel
theorem dX6_addRule_23 : decode cX6_addRule 23 = .ok (.getfield 59, 3) := by decide +kernel
theorem dX6_addRule_26 : decode cX6_addRule 26 = .ok (.aload_n 0, 1) := by decide +kernel
theorem dX6_addRule_27 : decode cX6_addRule 27 = .ok (.getfield 36, 3) := by decide +kernel
theorem dX6_addRule_30 : decode cX6_addRule 30 = .ok (.getfield 65, 3) := by decide +kernel
theorem dX6_addRule_33 : decode cX6_addRule 33 = .ok (.iastore, 1) := by decide +kernel
theorem dX6_addRule_34 : decode cX6_addRule 34 = .ok (.return_, 1) := by decide +kernel
theorem dX6_isNamed_0 : decode cX6_isNamed 0 = .ok (.iconst 0, 1) := by decide +kernel
theorem dX6_isNamed_1 : decode cX6_isNamed 1 = .ok (.istore_n 2, 1) := by decide +kernel
theorem dX6_isNamed_2 : decode cX6_isNamed 2 = .ok (.iload_n 2, 1) := by decide +kernel
theorem dX6_isNamed_3 : decode cX6_isNamed 3 = .ok (.bipush 14, 2) := by decide +kernel
theorem dX6_isNamed_5 : decode cX6_isNamed 5 = .ok (.if_icmp .ge 63, 3) := by decide +kernel
theorem dX6_isNamed_8 : decode cX6_isNamed 8 = .ok (.iload_n 2, 1) := by decide +kernel
theorem dX6_isNamed_9 : decode cX6_isNamed 9 = .ok (.bipush 10, 2) := by decide +kernel
theorem dX6_isNamed_11 : decode cX6_isNamed 11 = .ok (.if_icmp .ge 19, 3) := by decide +kernel
theorem dX6_isNamed_14 : decode cX6_isNamed 14 = .ok (.iload_n 2, 1) := by decide +kernel
theorem dX6_isNamed_15 : decode cX6_isNamed 15 = .ok (.aload_n 0, 1) := by decide +kernel
theorem dX6_isNamed_16 : decode cX6_isNamed 16 = .ok (.getfield 56, 3) := by decide +kernel
theorem dX6_isNamed_19 : decode cX6_isNamed 19 = .ok (.if_icmp .ge 7, 3) := by decide +kernel
theorem dX6_isNamed_22 : decode cX6_isNamed 22 = .ok (.iconst 1, 1) := by decide +kernel
theorem dX6_isNamed_23 : decode cX6_isNamed 23 = .ok (.goto 23, 3) := by decide +kernel
theorem dX6_isNamed_26 : decode cX6_isNamed 26 = .ok (.iconst 0, 1) := by decide +kernel
theorem dX6_isNamed_27 : decode cX6_isNamed 27 = .ok (.goto 19, 3) := by decide +kernel
theorem dX6_isNamed_30 : decode cX6_isNamed 30 = .ok (.iload_n 2, 1) := by decide +kernel
theorem dX6_isNamed_31 : decode cX6_isNamed 31 = .ok (.bipush 10, 2) := by decide +kernel
theorem dX6_isNamed_33 : decode cX6_isNamed 33 = .ok (.isub, 1) := by decide +kernel
theorem dX6_isNamed_34 : decode cX6_isNamed 34 = .ok (.aload_n 0, 1) := by decide +kernel
theorem dX6_isNamed_35 : decode cX6_isNamed 35 = .ok (.getfield 59, 3) := by decide +kernel
theorem dX6_isNamed_38 : decode cX6_isNamed 38 = .ok (.if_icmp .ge 7, 3) := by decide +kernel
theorem dX6_isNamed_41 : decode cX6_isNamed 41 = .ok (.iconst 1, 1) := by decide +kernel
theorem dX6_isNamed_42 : decode cX6_isNamed 42 = .ok (.goto 4, 3) := by decide +kernel
theorem dX6_isNamed_45 : decode cX6_isNamed 45 = .ok (.iconst 0, 1) := by decide +kernel
theorem dX6_isNamed_46 : decode cX6_isNamed 46 = .ok (.istore_n 3, 1) := by decide +kernel
theorem dX6_isNamed_47 : decode cX6_isNamed 47 = .ok (.iload_n 3, 1) := by decide +kernel
theorem dX6_isNamed_48 : decode cX6_isNamed 48 = .ok (.ifCond .eq 14, 3) := by decide +kernel
theorem dX6_isNamed_51 : decode cX6_isNamed 51 = .ok (.aload_n 0, 1) := by decide +kernel
theorem dX6_isNamed_52 : decode cX6_isNamed 52 = .ok (.iload_n 1, 1) := by decide +kernel
theorem dX6_isNamed_53 : decode cX6_isNamed 53 = .ok (.iload_n 2, 1) := by decide +kernel
theorem dX6_isNamed_54 : decode cX6_isNamed 54 = .ok (.invokevirtual 77, 3) := by decide +kernel
theorem dX6_isNamed_57 : decode cX6_isNamed 57 = .ok (.ifCond .eq 5, 3) := by decide +kernel
theorem dX6_isNamed_60 : decode cX6_isNamed 60 = .ok (.iconst 1, 1) := by decide +kernel
theorem dX6_isNamed_61 : decode cX6_isNamed 61 = .ok (.ireturn, 1) := by decide +kernel
theorem dX6_isNamed_62 : decode cX6_isNamed 62 = .ok (.iinc 2 1, 3) := by decide +kernel
theorem dX6_isNamed_65 : decode cX6_isNamed 65 = .ok (.goto (-63), 3) := by decide +kernel
theorem dX6_isNamed_68 : decode cX6_isNamed 68 = .ok (.iconst 0, 1) := by decide +kernel
theorem dX6_isNamed_69 : decode cX6_isNamed 69 = .ok (.ireturn, 1) := by decide +kernel
theorem dX6_sameLetters_0 : decode cX6_sameLetters 0 = .ok (.iconst 0, 1) := by decide +kernel
theorem dX6_sameLetters_1 : decode cX6_sameLetters 1 = .ok (.istore_n 3, 1) := by decide +kernel
theorem dX6_sameLetters_2 : decode cX6_sameLetters 2 = .ok (.iload_n 3, 1) := by decide +kernel
theorem dX6_sameLetters_3 : decode cX6_sameLetters 3 = .ok (.bipush 6, 2) := by decide +kernel
theorem dX6_sameLetters_5 : decode cX6_sameLetters 5 = .ok (.if_icmp .ge 36, 3) := by decide +kernel
theorem dX6_sameLetters_8 : decode cX6_sameLetters 8 = .ok (.aload_n 0, 1) := by decide +kernel
theorem dX6_sameLetters_9 : decode cX6_sameLetters 9 = .ok (.getfield 43, 3) := by decide +kernel
theorem dX6_sameLetters_12 : decode cX6_sameLetters 12 = .ok (.iload_n 1, 1) := by decide +kernel
theorem dX6_sameLetters_13 : decode cX6_sameLetters 13 = .ok (.bipush 6, 2) := by decide +kernel
theorem dX6_sameLetters_15 : decode cX6_sameLetters 15 = .ok (.imul, 1) := by decide +kernel
theorem dX6_sameLetters_16 : decode cX6_sameLetters 16 = .ok (.iload_n 3, 1) := by decide +kernel
theorem dX6_sameLetters_17 : decode cX6_sameLetters 17 = .ok (.iadd, 1) := by decide +kernel
theorem dX6_sameLetters_18 : decode cX6_sameLetters 18 = .ok (.iaload, 1) := by decide +kernel
theorem dX6_sameLetters_19 : decode cX6_sameLetters 19 = .ok (.aload_n 0, 1) := by decide +kernel
theorem dX6_sameLetters_20 : decode cX6_sameLetters 20 = .ok (.getfield 43, 3) := by decide +kernel
theorem dX6_sameLetters_23 : decode cX6_sameLetters 23 = .ok (.iload_n 2, 1) := by decide +kernel
theorem dX6_sameLetters_24 : decode cX6_sameLetters 24 = .ok (.bipush 6, 2) := by decide +kernel
theorem dX6_sameLetters_26 : decode cX6_sameLetters 26 = .ok (.imul, 1) := by decide +kernel
theorem dX6_sameLetters_27 : decode cX6_sameLetters 27 = .ok (.iload_n 3, 1) := by decide +kernel
theorem dX6_sameLetters_28 : decode cX6_sameLetters 28 = .ok (.iadd, 1) := by decide +kernel
theorem dX6_sameLetters_29 : decode cX6_sameLetters 29 = .ok (.iaload, 1) := by decide +kernel
theorem dX6_sameLetters_30 : decode cX6_sameLetters 30 = .ok (.if_icmp .eq 5, 3) := by decide +kernel
theorem dX6_sameLetters_33 : decode cX6_sameLetters 33 = .ok (.iconst 0, 1) := by decide +kernel
theorem dX6_sameLetters_34 : decode cX6_sameLetters 34 = .ok (.ireturn, 1) := by decide +kernel
theorem dX6_sameLetters_35 : decode cX6_sameLetters 35 = .ok (.iinc 3 1, 3) := by decide +kernel
theorem dX6_sameLetters_38 : decode cX6_sameLetters 38 = .ok (.goto (-36), 3) := by decide +kernel
theorem dX6_sameLetters_41 : decode cX6_sameLetters 41 = .ok (.iconst 1, 1) := by decide +kernel
theorem dX6_sameLetters_42 : decode cX6_sameLetters 42 = .ok (.ireturn, 1) := by decide +kernel
theorem dX6_hasLength_0 : decode cX6_hasLength 0 = .ok (.iconst 0, 1) := by decide +kernel
theorem dX6_hasLength_1 : decode cX6_hasLength 1 = .ok (.istore_n 2, 1) := by decide +kernel
theorem dX6_hasLength_2 : decode cX6_hasLength 2 = .ok (.iload_n 2, 1) := by decide +kernel
theorem dX6_hasLength_3 : decode cX6_hasLength 3 = .ok (.aload_n 0, 1) := by decide +kernel
theorem dX6_hasLength_4 : decode cX6_hasLength 4 = .ok (.getfield 52, 3) := by decide +kernel
theorem dX6_hasLength_7 : decode cX6_hasLength 7 = .ok (.if_icmp .ge 21, 3) := by decide +kernel
theorem dX6_hasLength_10 : decode cX6_hasLength 10 = .ok (.aload_n 0, 1) := by decide +kernel
theorem dX6_hasLength_11 : decode cX6_hasLength 11 = .ok (.getfield 9, 3) := by decide +kernel
theorem dX6_hasLength_14 : decode cX6_hasLength 14 = .ok (.iload_n 2, 1) := by decide +kernel
theorem dX6_hasLength_15 : decode cX6_hasLength 15 = .ok (.iaload, 1) := by decide +kernel
theorem dX6_hasLength_16 : decode cX6_hasLength 16 = .ok (.iload_n 1, 1) := by decide +kernel
theorem dX6_hasLength_17 : decode cX6_hasLength 17 = .ok (.if_icmp .ne 5, 3) := by decide +kernel
theorem dX6_hasLength_20 : decode cX6_hasLength 20 = .ok (.iconst 1, 1) := by decide +kernel
theorem dX6_hasLength_21 : decode cX6_hasLength 21 = .ok (.ireturn, 1) := by decide +kernel
theorem dX6_hasLength_22 : decode cX6_hasLength 22 = .ok (.iinc 2 1, 3) := by decide +kernel
theorem dX6_hasLength_25 : decode cX6_hasLength 25 = .ok (.goto (-23), 3) := by decide +kernel
theorem dX6_hasLength_28 : decode cX6_hasLength 28 = .ok (.iconst 0, 1) := by decide +kernel
theorem dX6_hasLength_29 : decode cX6_hasLength 29 = .ok (.ireturn, 1) := by decide +kernel
theorem dX6_knows_0 : decode cX6_knows 0 = .ok (.aload_n 0, 1) := by decide +kernel
theorem dX6_knows_1 : decode cX6_knows 1 = .ok (.getfield 62, 3) := by decide +kernel
theorem dX6_knows_4 : decode cX6_knows 4 = .ok (.ifCond .le 35, 3) := by decide +kernel
theorem dX6_knows_7 : decode cX6_knows 7 = .ok (.iload_n 1, 1) := by decide +kernel
theorem dX6_knows_8 : decode cX6_knows 8 = .ok (.ifCond .lt 31, 3) := by decide +kernel
theorem dX6_knows_11 : decode cX6_knows 11 = .ok (.iload_n 1, 1) := by decide +kernel
theorem dX6_knows_12 : decode cX6_knows 12 = .ok (.iconst 4, 1) := by decide +kernel
theorem dX6_knows_13 : decode cX6_knows 13 = .ok (.aload_n 0, 1) := by decide +kernel
theorem dX6_knows_14 : decode cX6_knows 14 = .ok (.getfield 59, 3) := by decide +kernel
theorem dX6_knows_17 : decode cX6_knows 17 = .ok (.iadd, 1) := by decide +kernel
theorem dX6_knows_18 : decode cX6_knows 18 = .ok (.if_icmp .ge 21, 3) := by decide +kernel
theorem dX6_knows_21 : decode cX6_knows 21 = .ok (.iload_n 1, 1) := by decide +kernel
theorem dX6_knows_22 : decode cX6_knows 22 = .ok (.iconst 3, 1) := by decide +kernel
theorem dX6_knows_23 : decode cX6_knows 23 = .ok (.if_icmp .ne 12, 3) := by decide +kernel
theorem dX6_knows_26 : decode cX6_knows 26 = .ok (.aload_n 0, 1) := by decide +kernel
theorem dX6_knows_27 : decode cX6_knows 27 = .ok (.getfield 56, 3) := by decide +kernel
theorem dX6_knows_30 : decode cX6_knows 30 = .ok (.bipush 6, 2) := by decide +kernel
theorem dX6_knows_32 : decode cX6_knows 32 = .ok (.if_icmp .gt 7, 3) := by decide +kernel
theorem dX6_knows_35 : decode cX6_knows 35 = .ok (.iconst 1, 1) := by decide +kernel
theorem dX6_knows_36 : decode cX6_knows 36 = .ok (.goto 4, 3) := by decide +kernel
theorem dX6_knows_39 : decode cX6_knows 39 = .ok (.iconst 0, 1) := by decide +kernel
theorem dX6_knows_40 : decode cX6_knows 40 = .ok (.ireturn, 1) := by decide +kernel
theorem dX6_longest_0 : decode cX6_longest 0 = .ok (.iconst 0, 1) := by decide +kernel
theorem dX6_longest_1 : decode cX6_longest 1 = .ok (.istore_n 1, 1) := by decide +kernel
theorem dX6_longest_2 : decode cX6_longest 2 = .ok (.iconst 0, 1) := by decide +kernel
theorem dX6_longest_3 : decode cX6_longest 3 = .ok (.istore_n 2, 1) := by decide +kernel
theorem dX6_longest_4 : decode cX6_longest 4 = .ok (.iload_n 2, 1) := by decide +kernel
theorem dX6_longest_5 : decode cX6_longest 5 = .ok (.aload_n 0, 1) := by decide +kernel
theorem dX6_longest_6 : decode cX6_longest 6 = .ok (.getfield 56, 3) := by decide +kernel
theorem dX6_longest_9 : decode cX6_longest 9 = .ok (.if_icmp .ge 20, 3) := by decide +kernel
theorem dX6_longest_12 : decode cX6_longest 12 = .ok (.iload_n 1, 1) := by decide +kernel
theorem dX6_longest_13 : decode cX6_longest 13 = .ok (.aload_n 0, 1) := by decide +kernel
theorem dX6_longest_14 : decode cX6_longest 14 = .ok (.getfield 18, 3) := by decide +kernel
theorem dX6_longest_17 : decode cX6_longest 17 = .ok (.iload_n 2, 1) := by decide +kernel
theorem dX6_longest_18 : decode cX6_longest 18 = .ok (.iaload, 1) := by decide +kernel
theorem dX6_longest_19 : decode cX6_longest 19 = .ok (.invokestatic 81, 3) := by decide +kernel
theorem dX6_longest_22 : decode cX6_longest 22 = .ok (.istore_n 1, 1) := by decide +kernel
theorem dX6_longest_23 : decode cX6_longest 23 = .ok (.iinc 2 1, 3) := by decide +kernel
theorem dX6_longest_26 : decode cX6_longest 26 = .ok (.goto (-22), 3) := by decide +kernel
theorem dX6_longest_29 : decode cX6_longest 29 = .ok (.iload_n 1, 1) := by decide +kernel
theorem dX6_longest_30 : decode cX6_longest 30 = .ok (.ireturn, 1) := by decide +kernel
theorem dX6_leastLength_0 : decode cX6_leastLength 0 = .ok (.bipush 99, 2) := by decide +kernel
theorem dX6_leastLength_2 : decode cX6_leastLength 2 = .ok (.istore_n 1, 1) := by decide +kernel
theorem dX6_leastLength_3 : decode cX6_leastLength 3 = .ok (.iconst 0, 1) := by decide +kernel
theorem dX6_leastLength_4 : decode cX6_leastLength 4 = .ok (.istore_n 2, 1) := by decide +kernel
theorem dX6_leastLength_5 : decode cX6_leastLength 5 = .ok (.iload_n 2, 1) := by decide +kernel
theorem dX6_leastLength_6 : decode cX6_leastLength 6 = .ok (.aload_n 0, 1) := by decide +kernel
theorem dX6_leastLength_7 : decode cX6_leastLength 7 = .ok (.getfield 52, 3) := by decide +kernel
theorem dX6_leastLength_10 : decode cX6_leastLength 10 = .ok (.if_icmp .ge 20, 3) := by decide +kernel
theorem dX6_leastLength_13 : decode cX6_leastLength 13 = .ok (.iload_n 1, 1) := by decide +kernel
theorem dX6_leastLength_14 : decode cX6_leastLength 14 = .ok (.aload_n 0, 1) := by decide +kernel
theorem dX6_leastLength_15 : decode cX6_leastLength 15 = .ok (.getfield 9, 3) := by decide +kernel
theorem dX6_leastLength_18 : decode cX6_leastLength 18 = .ok (.iload_n 2, 1) := by decide +kernel
theorem dX6_leastLength_19 : decode cX6_leastLength 19 = .ok (.iaload, 1) := by decide +kernel
theorem dX6_leastLength_20 : decode cX6_leastLength 20 = .ok (.invokestatic 87, 3) := by decide +kernel
theorem dX6_leastLength_23 : decode cX6_leastLength 23 = .ok (.istore_n 1, 1) := by decide +kernel
theorem dX6_leastLength_24 : decode cX6_leastLength 24 = .ok (.iinc 2 1, 3) := by decide +kernel
theorem dX6_leastLength_27 : decode cX6_leastLength 27 = .ok (.goto (-22), 3) := by decide +kernel
theorem dX6_leastLength_30 : decode cX6_leastLength 30 = .ok (.iload_n 1, 1) := by decide +kernel
theorem dX6_leastLength_31 : decode cX6_leastLength 31 = .ok (.ireturn, 1) := by decide +kernel
theorem dX6_greatestLength_0 : decode cX6_greatestLength 0 = .ok (.iconst 0, 1) := by decide +kernel
theorem dX6_greatestLength_1 : decode cX6_greatestLength 1 = .ok (.istore_n 1, 1) := by decide +kernel
theorem dX6_greatestLength_2 : decode cX6_greatestLength 2 = .ok (.iconst 0, 1) := by decide +kernel
theorem dX6_greatestLength_3 : decode cX6_greatestLength 3 = .ok (.istore_n 2, 1) := by decide +kernel
theorem dX6_greatestLength_4 : decode cX6_greatestLength 4 = .ok (.iload_n 2, 1) := by decide +kernel
theorem dX6_greatestLength_5 : decode cX6_greatestLength 5 = .ok (.aload_n 0, 1) := by decide +kernel
theorem dX6_greatestLength_6 : decode cX6_greatestLength 6 = .ok (.getfield 52, 3) := by decide +kernel
theorem dX6_greatestLength_9 : decode cX6_greatestLength 9 = .ok (.if_icmp .ge 20, 3) := by decide +kernel
theorem dX6_greatestLength_12 : decode cX6_greatestLength 12 = .ok (.iload_n 1, 1) := by decide +kernel
theorem dX6_greatestLength_13 : decode cX6_greatestLength 13 = .ok (.aload_n 0, 1) := by decide +kernel
theorem dX6_greatestLength_14 : decode cX6_greatestLength 14 = .ok (.getfield 9, 3) := by decide +kernel
theorem dX6_greatestLength_17 : decode cX6_greatestLength 17 = .ok (.iload_n 2, 1) := by decide +kernel
theorem dX6_greatestLength_18 : decode cX6_greatestLength 18 = .ok (.iaload, 1) := by decide +kernel
theorem dX6_greatestLength_19 : decode cX6_greatestLength 19 = .ok (.invokestatic 81, 3) := by decide +kernel
theorem dX6_greatestLength_22 : decode cX6_greatestLength 22 = .ok (.istore_n 1, 1) := by decide +kernel
theorem dX6_greatestLength_23 : decode cX6_greatestLength 23 = .ok (.iinc 2 1, 3) := by decide +kernel
theorem dX6_greatestLength_26 : decode cX6_greatestLength 26 = .ok (.goto (-22), 3) := by decide +kernel
theorem dX6_greatestLength_29 : decode cX6_greatestLength 29 = .ok (.iload_n 1, 1) := by decide +kernel
theorem dX6_greatestLength_30 : decode cX6_greatestLength 30 = .ok (.ireturn, 1) := by decide +kernel
theorem dX6_oddsOf_0 : decode cX6_oddsOf 0 = .ok (.iconst 0, 1) := by decide +kernel
theorem dX6_oddsOf_1 : decode cX6_oddsOf 1 = .ok (.istore_n 2, 1) := by decide +kernel
theorem dX6_oddsOf_2 : decode cX6_oddsOf 2 = .ok (.iconst 0, 1) := by decide +kernel
theorem dX6_oddsOf_3 : decode cX6_oddsOf 3 = .ok (.istore_n 3, 1) := by decide +kernel
theorem dX6_oddsOf_4 : decode cX6_oddsOf 4 = .ok (.iload_n 3, 1) := by decide +kernel
theorem dX6_oddsOf_5 : decode cX6_oddsOf 5 = .ok (.aload_n 0, 1) := by decide +kernel
theorem dX6_oddsOf_6 : decode cX6_oddsOf 6 = .ok (.getfield 52, 3) := by decide +kernel
theorem dX6_oddsOf_9 : decode cX6_oddsOf 9 = .ok (.if_icmp .ge 32, 3) := by decide +kernel
theorem dX6_oddsOf_12 : decode cX6_oddsOf 12 = .ok (.iload_n 2, 1) := by decide +kernel
theorem dX6_oddsOf_13 : decode cX6_oddsOf 13 = .ok (.aload_n 0, 1) := by decide +kernel
theorem dX6_oddsOf_14 : decode cX6_oddsOf 14 = .ok (.getfield 9, 3) := by decide +kernel
theorem dX6_oddsOf_17 : decode cX6_oddsOf 17 = .ok (.iload_n 3, 1) := by decide +kernel
theorem dX6_oddsOf_18 : decode cX6_oddsOf 18 = .ok (.iaload, 1) := by decide +kernel
theorem dX6_oddsOf_19 : decode cX6_oddsOf 19 = .ok (.iload_n 1, 1) := by decide +kernel
theorem dX6_oddsOf_20 : decode cX6_oddsOf 20 = .ok (.if_icmp .lt 12, 3) := by decide +kernel
theorem dX6_oddsOf_23 : decode cX6_oddsOf 23 = .ok (.aload_n 0, 1) := by decide +kernel
theorem dX6_oddsOf_24 : decode cX6_oddsOf 24 = .ok (.getfield 15, 3) := by decide +kernel
theorem dX6_oddsOf_27 : decode cX6_oddsOf 27 = .ok (.iload_n 3, 1) := by decide +kernel
theorem dX6_oddsOf_28 : decode cX6_oddsOf 28 = .ok (.iaload, 1) := by decide +kernel
theorem dX6_oddsOf_29 : decode cX6_oddsOf 29 = .ok (.goto 4, 3) := by decide +kernel
theorem dX6_oddsOf_32 : decode cX6_oddsOf 32 = .ok (.iconst 0, 1) := by decide +kernel
theorem dX6_oddsOf_33 : decode cX6_oddsOf 33 = .ok (.iadd, 1) := by decide +kernel
theorem dX6_oddsOf_34 : decode cX6_oddsOf 34 = .ok (.istore_n 2, 1) := by decide +kernel
theorem dX6_oddsOf_35 : decode cX6_oddsOf 35 = .ok (.iinc 3 1, 3) := by decide +kernel
theorem dX6_oddsOf_38 : decode cX6_oddsOf 38 = .ok (.goto (-34), 3) := by decide +kernel
theorem dX6_oddsOf_41 : decode cX6_oddsOf 41 = .ok (.iload_n 2, 1) := by decide +kernel
theorem dX6_oddsOf_42 : decode cX6_oddsOf 42 = .ok (.ireturn, 1) := by decide +kernel
theorem dX6_lengthBy_0 : decode cX6_lengthBy 0 = .ok (.iconst 0, 1) := by decide +kernel
theorem dX6_lengthBy_1 : decode cX6_lengthBy 1 = .ok (.istore_n 2, 1) := by decide +kernel
theorem dX6_lengthBy_2 : decode cX6_lengthBy 2 = .ok (.iconst 0, 1) := by decide +kernel
theorem dX6_lengthBy_3 : decode cX6_lengthBy 3 = .ok (.istore_n 3, 1) := by decide +kernel
theorem dX6_lengthBy_4 : decode cX6_lengthBy 4 = .ok (.iload_n 3, 1) := by decide +kernel
theorem dX6_lengthBy_5 : decode cX6_lengthBy 5 = .ok (.aload_n 0, 1) := by decide +kernel
theorem dX6_lengthBy_6 : decode cX6_lengthBy 6 = .ok (.getfield 52, 3) := by decide +kernel
theorem dX6_lengthBy_9 : decode cX6_lengthBy 9 = .ok (.if_icmp .ge 30, 3) := by decide +kernel
theorem dX6_lengthBy_12 : decode cX6_lengthBy 12 = .ok (.iload_n 2, 1) := by decide +kernel
theorem dX6_lengthBy_13 : decode cX6_lengthBy 13 = .ok (.aload_n 0, 1) := by decide +kernel
theorem dX6_lengthBy_14 : decode cX6_lengthBy 14 = .ok (.getfield 15, 3) := by decide +kernel
theorem dX6_lengthBy_17 : decode cX6_lengthBy 17 = .ok (.iload_n 3, 1) := by decide +kernel
theorem dX6_lengthBy_18 : decode cX6_lengthBy 18 = .ok (.iaload, 1) := by decide +kernel
theorem dX6_lengthBy_19 : decode cX6_lengthBy 19 = .ok (.iadd, 1) := by decide +kernel
theorem dX6_lengthBy_20 : decode cX6_lengthBy 20 = .ok (.istore_n 2, 1) := by decide +kernel
theorem dX6_lengthBy_21 : decode cX6_lengthBy 21 = .ok (.iload_n 2, 1) := by decide +kernel
theorem dX6_lengthBy_22 : decode cX6_lengthBy 22 = .ok (.iload_n 1, 1) := by decide +kernel
theorem dX6_lengthBy_23 : decode cX6_lengthBy 23 = .ok (.if_icmp .le 10, 3) := by decide +kernel
theorem dX6_lengthBy_26 : decode cX6_lengthBy 26 = .ok (.aload_n 0, 1) := by decide +kernel
theorem dX6_lengthBy_27 : decode cX6_lengthBy 27 = .ok (.getfield 9, 3) := by decide +kernel
theorem dX6_lengthBy_30 : decode cX6_lengthBy 30 = .ok (.iload_n 3, 1) := by decide +kernel
theorem dX6_lengthBy_31 : decode cX6_lengthBy 31 = .ok (.iaload, 1) := by decide +kernel
theorem dX6_lengthBy_32 : decode cX6_lengthBy 32 = .ok (.ireturn, 1) := by decide +kernel
theorem dX6_lengthBy_33 : decode cX6_lengthBy 33 = .ok (.iinc 3 1, 3) := by decide +kernel
theorem dX6_lengthBy_36 : decode cX6_lengthBy 36 = .ok (.goto (-32), 3) := by decide +kernel
theorem dX6_lengthBy_39 : decode cX6_lengthBy 39 = .ok (.iconst 0, 1) := by decide +kernel
theorem dX6_lengthBy_40 : decode cX6_lengthBy 40 = .ok (.ireturn, 1) := by decide +kernel
theorem dX6_lookCost_0 : decode cX6_lookCost 0 = .ok (.iload_n 1, 1) := by decide +kernel
theorem dX6_lookCost_1 : decode cX6_lookCost 1 = .ok (.iconst 2, 1) := by decide +kernel
theorem dX6_lookCost_2 : decode cX6_lookCost 2 = .ok (.if_icmp .ne 16, 3) := by decide +kernel
theorem dX6_lookCost_5 : decode cX6_lookCost 5 = .ok (.iload_n 2, 1) := by decide +kernel
theorem dX6_lookCost_6 : decode cX6_lookCost 6 = .ok (.ifCond .le 12, 3) := by decide +kernel
theorem dX6_lookCost_9 : decode cX6_lookCost 9 = .ok (.aload_n 0, 1) := by decide +kernel
theorem dX6_lookCost_10 : decode cX6_lookCost 10 = .ok (.getfield 46, 3) := by decide +kernel
theorem dX6_lookCost_13 : decode cX6_lookCost 13 = .ok (.iconst 2, 1) := by decide +kernel
theorem dX6_lookCost_14 : decode cX6_lookCost 14 = .ok (.iaload, 1) := by decide +kernel
theorem dX6_lookCost_15 : decode cX6_lookCost 15 = .ok (.goto 4, 3) := by decide +kernel
theorem dX6_lookCost_18 : decode cX6_lookCost 18 = .ok (.iconst 0, 1) := by decide +kernel
theorem dX6_lookCost_19 : decode cX6_lookCost 19 = .ok (.ireturn, 1) := by decide +kernel
theorem dX6_wants_0 : decode cX6_wants 0 = .ok (.iload_n 3, 1) := by decide +kernel
theorem dX6_wants_1 : decode cX6_wants 1 = .ok (.ifCond .eq 15, 3) := by decide +kernel
theorem dX6_wants_4 : decode cX6_wants 4 = .ok (.iload_n 2, 1) := by decide +kernel
theorem dX6_wants_5 : decode cX6_wants 5 = .ok (.ifCond .lt 11, 3) := by decide +kernel
theorem dX6_wants_8 : decode cX6_wants 8 = .ok (.iload_n 2, 1) := by decide +kernel
theorem dX6_wants_9 : decode cX6_wants 9 = .ok (.aload_n 0, 1) := by decide +kernel
theorem dX6_wants_10 : decode cX6_wants 10 = .ok (.getfield 56, 3) := by decide +kernel
theorem dX6_wants_13 : decode cX6_wants 13 = .ok (.if_icmp .lt 5, 3) := by decide +kernel
theorem dX6_wants_16 : decode cX6_wants 16 = .ok (.iconst 0, 1) := by decide +kernel
theorem dX6_wants_17 : decode cX6_wants 17 = .ok (.ireturn, 1) := by decide +kernel
theorem dX6_wants_18 : decode cX6_wants 18 = .ok (.iload_n 1, 1) := by decide +kernel
theorem dX6_wants_19 : decode cX6_wants 19 = .ok (.iconst 1, 1) := by decide +kernel
theorem dX6_wants_20 : decode cX6_wants 20 = .ok (.if_icmp .ne 24, 3) := by decide +kernel
theorem dX6_wants_23 : decode cX6_wants 23 = .ok (.iload_n 3, 1) := by decide +kernel
theorem dX6_wants_24 : decode cX6_wants 24 = .ok (.aload_n 0, 1) := by decide +kernel
theorem dX6_wants_25 : decode cX6_wants 25 = .ok (.getfield 18, 3) := by decide +kernel
theorem dX6_wants_28 : decode cX6_wants 28 = .ok (.iload_n 2, 1) := by decide +kernel
theorem dX6_wants_29 : decode cX6_wants 29 = .ok (.iaload, 1) := by decide +kernel
theorem dX6_wants_30 : decode cX6_wants 30 = .ok (.iadd, 1) := by decide +kernel
theorem dX6_wants_31 : decode cX6_wants 31 = .ok (.aload_n 0, 1) := by decide +kernel
theorem dX6_wants_32 : decode cX6_wants 32 = .ok (.invokevirtual 90, 3) := by decide +kernel
theorem dX6_wants_35 : decode cX6_wants 35 = .ok (.if_icmp .le 7, 3) := by decide +kernel
theorem dX6_wants_38 : decode cX6_wants 38 = .ok (.iconst 1, 1) := by decide +kernel
theorem dX6_wants_39 : decode cX6_wants 39 = .ok (.goto 4, 3) := by decide +kernel
theorem dX6_wants_42 : decode cX6_wants 42 = .ok (.iconst 0, 1) := by decide +kernel
theorem dX6_wants_43 : decode cX6_wants 43 = .ok (.ireturn, 1) := by decide +kernel
theorem dX6_wants_44 : decode cX6_wants 44 = .ok (.iload_n 1, 1) := by decide +kernel
theorem dX6_wants_45 : decode cX6_wants 45 = .ok (.iconst 4, 1) := by decide +kernel
theorem dX6_wants_46 : decode cX6_wants 46 = .ok (.isub, 1) := by decide +kernel
theorem dX6_wants_47 : decode cX6_wants 47 = .ok (.istore 4, 2) := by decide +kernel
theorem dX6_wants_49 : decode cX6_wants 49 = .ok (.iload 4, 2) := by decide +kernel
theorem dX6_wants_51 : decode cX6_wants 51 = .ok (.ifCond .lt 12, 3) := by decide +kernel
theorem dX6_wants_54 : decode cX6_wants 54 = .ok (.iload 4, 2) := by decide +kernel
theorem dX6_wants_56 : decode cX6_wants 56 = .ok (.aload_n 0, 1) := by decide +kernel
theorem dX6_wants_57 : decode cX6_wants 57 = .ok (.getfield 59, 3) := by decide +kernel
theorem dX6_wants_60 : decode cX6_wants 60 = .ok (.if_icmp .lt 5, 3) := by decide +kernel
theorem dX6_wants_63 : decode cX6_wants 63 = .ok (.iconst 0, 1) := by decide +kernel
theorem dX6_wants_64 : decode cX6_wants 64 = .ok (.ireturn, 1) := by decide +kernel
theorem dX6_wants_65 : decode cX6_wants 65 = .ok (.aload_n 0, 1) := by decide +kernel
theorem dX6_wants_66 : decode cX6_wants 66 = .ok (.getfield 49, 3) := by decide +kernel
theorem dX6_wants_69 : decode cX6_wants 69 = .ok (.iconst 0, 1) := by decide +kernel
theorem dX6_wants_70 : decode cX6_wants 70 = .ok (.aload_n 0, 1) := by decide +kernel
theorem dX6_wants_71 : decode cX6_wants 71 = .ok (.getfield 18, 3) := by decide +kernel
theorem dX6_wants_74 : decode cX6_wants 74 = .ok (.iload_n 2, 1) := by decide +kernel
theorem dX6_wants_75 : decode cX6_wants 75 = .ok (.iaload, 1) := by decide +kernel
theorem dX6_wants_76 : decode cX6_wants 76 = .ok (.iastore, 1) := by decide +kernel
theorem dX6_wants_77 : decode cX6_wants 77 = .ok (.aload_n 0, 1) := by decide +kernel
theorem dX6_wants_78 : decode cX6_wants 78 = .ok (.getfield 49, 3) := by decide +kernel
theorem dX6_wants_81 : decode cX6_wants 81 = .ok (.iconst 1, 1) := by decide +kernel
theorem dX6_wants_82 : decode cX6_wants 82 = .ok (.aload_n 0, 1) := by decide +kernel
theorem dX6_wants_83 : decode cX6_wants 83 = .ok (.getfield 21, 3) := by decide +kernel
theorem dX6_wants_86 : decode cX6_wants 86 = .ok (.iload_n 2, 1) := by decide +kernel
theorem dX6_wants_87 : decode cX6_wants 87 = .ok (.iaload, 1) := by decide +kernel
theorem dX6_wants_88 : decode cX6_wants 88 = .ok (.iastore, 1) := by decide +kernel
theorem dX6_wants_89 : decode cX6_wants 89 = .ok (.aload_n 0, 1) := by decide +kernel
theorem dX6_wants_90 : decode cX6_wants 90 = .ok (.getfield 49, 3) := by decide +kernel
theorem dX6_wants_93 : decode cX6_wants 93 = .ok (.iconst 2, 1) := by decide +kernel
theorem dX6_wants_94 : decode cX6_wants 94 = .ok (.iload_n 3, 1) := by decide +kernel
theorem dX6_wants_95 : decode cX6_wants 95 = .ok (.iastore, 1) := by decide +kernel
theorem dX6_wants_96 : decode cX6_wants 96 = .ok (.aload_n 0, 1) := by decide +kernel
theorem dX6_wants_97 : decode cX6_wants 97 = .ok (.getfield 49, 3) := by decide +kernel
theorem dX6_wants_100 : decode cX6_wants 100 = .ok (.iconst 3, 1) := by decide +kernel
theorem dX6_wants_101 : decode cX6_wants 101 = .ok (.aload_n 0, 1) := by decide +kernel
theorem dX6_wants_102 : decode cX6_wants 102 = .ok (.getfield 30, 3) := by decide +kernel
theorem dX6_wants_105 : decode cX6_wants 105 = .ok (.aload_n 0, 1) := by decide +kernel
theorem dX6_wants_106 : decode cX6_wants 106 = .ok (.getfield 56, 3) := by decide +kernel
theorem dX6_wants_109 : decode cX6_wants 109 = .ok (.iaload, 1) := by decide +kernel
theorem dX6_wants_110 : decode cX6_wants 110 = .ok (.aload_n 0, 1) := by decide +kernel
theorem dX6_wants_111 : decode cX6_wants 111 = .ok (.getfield 30, 3) := by decide +kernel
theorem dX6_wants_114 : decode cX6_wants 114 = .ok (.iload_n 2, 1) := by decide +kernel
theorem dX6_wants_115 : decode cX6_wants 115 = .ok (.iaload, 1) := by decide +kernel
theorem dX6_wants_116 : decode cX6_wants 116 = .ok (.isub, 1) := by decide +kernel
theorem dX6_wants_117 : decode cX6_wants 117 = .ok (.iastore, 1) := by decide +kernel
theorem dX6_wants_118 : decode cX6_wants 118 = .ok (.aload_n 0, 1) := by decide +kernel
theorem dX6_wants_119 : decode cX6_wants 119 = .ok (.getfield 49, 3) := by decide +kernel
theorem dX6_wants_122 : decode cX6_wants 122 = .ok (.iconst 4, 1) := by decide +kernel
theorem dX6_wants_123 : decode cX6_wants 123 = .ok (.iload_n 2, 1) := by decide +kernel
theorem dX6_wants_124 : decode cX6_wants 124 = .ok (.iastore, 1) := by decide +kernel
theorem dX6_wants_125 : decode cX6_wants 125 = .ok (.aload_n 0, 1) := by decide +kernel
theorem dX6_wants_126 : decode cX6_wants 126 = .ok (.getfield 49, 3) := by decide +kernel
theorem dX6_wants_129 : decode cX6_wants 129 = .ok (.iconst 5, 1) := by decide +kernel
theorem dX6_wants_130 : decode cX6_wants 130 = .ok (.aload_n 0, 1) := by decide +kernel
theorem dX6_wants_131 : decode cX6_wants 131 = .ok (.invokevirtual 90, 3) := by decide +kernel
theorem dX6_wants_134 : decode cX6_wants 134 = .ok (.iastore, 1) := by decide +kernel
theorem dX6_wants_135 : decode cX6_wants 135 = .ok (.aload_n 0, 1) := by decide +kernel
theorem dX6_wants_136 : decode cX6_wants 136 = .ok (.getfield 49, 3) := by decide +kernel
theorem dX6_wants_139 : decode cX6_wants 139 = .ok (.bipush 6, 2) := by decide +kernel
theorem dX6_wants_141 : decode cX6_wants 141 = .ok (.aload_n 0, 1) := by decide +kernel
theorem dX6_wants_142 : decode cX6_wants 142 = .ok (.invokevirtual 94, 3) := by decide +kernel
theorem dX6_wants_145 : decode cX6_wants 145 = .ok (.iastore, 1) := by decide +kernel
theorem dX6_wants_146 : decode cX6_wants 146 = .ok (.aload_n 0, 1) := by decide +kernel
theorem dX6_wants_147 : decode cX6_wants 147 = .ok (.getfield 36, 3) := by decide +kernel
theorem dX6_wants_150 : decode cX6_wants 150 = .ok (.aload_n 0, 1) := by decide +kernel
theorem dX6_wants_151 : decode cX6_wants 151 = .ok (.getfield 40, 3) := by decide +kernel
theorem dX6_wants_154 : decode cX6_wants 154 = .ok (.iload 4, 2) := by decide +kernel
theorem dX6_wants_156 : decode cX6_wants 156 = .ok (.iaload, 1) := by decide +kernel
theorem dX6_wants_157 : decode cX6_wants 157 = .ok (.aload_n 0, 1) := by decide +kernel
theorem dX6_wants_158 : decode cX6_wants 158 = .ok (.getfield 40, 3) := by decide +kernel
theorem dX6_wants_161 : decode cX6_wants 161 = .ok (.iload 4, 2) := by decide +kernel
theorem dX6_wants_163 : decode cX6_wants 163 = .ok (.iconst 1, 1) := by decide +kernel
theorem dX6_wants_164 : decode cX6_wants 164 = .ok (.iadd, 1) := by decide +kernel
theorem dX6_wants_165 : decode cX6_wants 165 = .ok (.iaload, 1) := by decide +kernel
theorem dX6_wants_166 : decode cX6_wants 166 = .ok (.aload_n 0, 1) := by decide +kernel
theorem dX6_wants_167 : decode cX6_wants 167 = .ok (.getfield 49, 3) := by decide +kernel
theorem dX6_wants_170 : decode cX6_wants 170 = .ok (.aload_n 0, 1) := by decide +kernel
theorem dX6_wants_171 : decode cX6_wants 171 = .ok (.invokevirtual 97, 3) := by decide +kernel
theorem dX6_wants_174 : decode cX6_wants 174 = .ok (.ifCond .eq 7, 3) := by decide +kernel
theorem dX6_wants_177 : decode cX6_wants 177 = .ok (.iconst 1, 1) := by decide +kernel
theorem dX6_wants_178 : decode cX6_wants 178 = .ok (.goto 4, 3) := by decide +kernel
theorem dX6_wants_181 : decode cX6_wants 181 = .ok (.iconst 0, 1) := by decide +kernel
theorem dX6_wants_182 : decode cX6_wants 182 = .ok (.ireturn, 1) := by decide +kernel
theorem dX3_put_0 : decode cX3_put 0 = .ok (.aload_n 0, 1) := by decide +kernel
theorem dX3_put_1 : decode cX3_put 1 = .ok (.getfield 18, 3) := by decide +kernel
theorem dX3_put_4 : decode cX3_put 4 = .ok (.aload_n 0, 1) := by decide +kernel
theorem dX3_put_5 : decode cX3_put 5 = .ok (.getfield 9, 3) := by decide +kernel
theorem dX3_put_8 : decode cX3_put 8 = .ok (.arraylength, 1) := by decide +kernel
theorem dX3_put_9 : decode cX3_put 9 = .ok (.if_icmp .ge 23, 3) := by decide +kernel
theorem dX3_put_12 : decode cX3_put 12 = .ok (.aload_n 0, 1) := by decide +kernel
theorem dX3_put_13 : decode cX3_put 13 = .ok (.getfield 9, 3) := by decide +kernel
theorem dX3_put_16 : decode cX3_put 16 = .ok (.aload_n 0, 1) := by decide +kernel
theorem dX3_put_17 : decode cX3_put 17 = .ok (.getfield 18, 3) := by decide +kernel
theorem dX3_put_20 : decode cX3_put 20 = .ok (.iload_n 1, 1) := by decide +kernel
theorem dX3_put_21 : decode cX3_put 21 = .ok (.iastore, 1) := by decide +kernel
theorem dX3_put_22 : decode cX3_put 22 = .ok (.aload_n 0, 1) := by decide +kernel
theorem dX3_put_23 : decode cX3_put 23 = .ok (.dup, 1) := by decide +kernel
theorem dX3_put_24 : decode cX3_put 24 = .ok (.getfield 18, 3) := by decide +kernel
theorem dX3_put_27 : decode cX3_put 27 = .ok (.iconst 1, 1) := by decide +kernel
theorem dX3_put_28 : decode cX3_put 28 = .ok (.iadd, 1) := by decide +kernel
theorem dX3_put_29 : decode cX3_put 29 = .ok (.putfield 18, 3) := by decide +kernel
theorem dX3_put_32 : decode cX3_put 32 = .ok (.return_, 1) := by decide +kernel
theorem dX3_worth_0 : decode cX3_worth 0 = .ok (.iconst 0, 1) := by decide +kernel
theorem dX3_worth_1 : decode cX3_worth 1 = .ok (.istore 5, 2) := by decide +kernel
theorem dX3_worth_3 : decode cX3_worth 3 = .ok (.iconst 0, 1) := by decide +kernel
theorem dX3_worth_4 : decode cX3_worth 4 = .ok (.iload_n 1, 1) := by decide +kernel
theorem dX3_worth_5 : decode cX3_worth 5 = .ok (.invokestatic 22, 3) := by decide +kernel
theorem dX3_worth_8 : decode cX3_worth 8 = .ok (.istore 6, 2) := by decide +kernel
theorem dX3_worth_10 : decode cX3_worth 10 = .ok (.iload 6, 2) := by decide +kernel
theorem dX3_worth_12 : decode cX3_worth 12 = .ok (.iload_n 2, 1) := by decide +kernel
theorem dX3_worth_13 : decode cX3_worth 13 = .ok (.if_icmp .ge 240, 3) := by decide +kernel
theorem dX3_worth_16 : decode cX3_worth 16 = .ok (.iload 6, 2) := by decide +kernel
theorem dX3_worth_18 : decode cX3_worth 18 = .ok (.aload_n 0, 1) := by decide +kernel
theorem dX3_worth_19 : decode cX3_worth 19 = .ok (.getfield 9, 3) := by decide +kernel
theorem dX3_worth_22 : decode cX3_worth 22 = .ok (.arraylength, 1) := by decide +kernel
theorem dX3_worth_23 : decode cX3_worth 23 = .ok (.if_icmp .ge 230, 3) := by decide +kernel
theorem dX3_worth_26 : decode cX3_worth 26 = .ok (.aload_n 0, 1) := by decide +kernel
theorem dX3_worth_27 : decode cX3_worth 27 = .ok (.getfield 9, 3) := by decide +kernel
theorem dX3_worth_30 : decode cX3_worth 30 = .ok (.iload 6, 2) := by decide +kernel
theorem dX3_worth_32 : decode cX3_worth 32 = .ok (.iaload, 1) := by decide +kernel
theorem dX3_worth_33 : decode cX3_worth 33 = .ok (.istore 7, 2) := by decide +kernel
theorem dX3_worth_35 : decode cX3_worth 35 = .ok (.iload 7, 2) := by decide +kernel
theorem dX3_worth_37 : decode cX3_worth 37 = .ok (.bipush (-13), 2) := by decide +kernel
theorem dX3_worth_39 : decode cX3_worth 39 = .ok (.if_icmp .gt 7, 3) := by decide +kernel
theorem dX3_worth_42 : decode cX3_worth 42 = .ok (.iconst 1, 1) := by decide +kernel
theorem dX3_worth_43 : decode cX3_worth 43 = .ok (.goto 4, 3) := by decide +kernel
theorem dX3_worth_46 : decode cX3_worth 46 = .ok (.iconst 0, 1) := by decide +kernel
theorem dX3_worth_47 : decode cX3_worth 47 = .ok (.istore 8, 2) := by decide +kernel
theorem dX3_worth_49 : decode cX3_worth 49 = .ok (.iload 7, 2) := by decide +kernel
theorem dX3_worth_51 : decode cX3_worth 51 = .ok (.bipush (-11), 2) := by decide +kernel
theorem dX3_worth_53 : decode cX3_worth 53 = .ok (.if_icmp .eq 10, 3) := by decide +kernel
theorem dX3_worth_56 : decode cX3_worth 56 = .ok (.iload 7, 2) := by decide +kernel
theorem dX3_worth_58 : decode cX3_worth 58 = .ok (.bipush (-12), 2) := by decide +kernel
theorem dX3_worth_60 : decode cX3_worth 60 = .ok (.if_icmp .ne 7, 3) := by decide +kernel
theorem dX3_worth_63 : decode cX3_worth 63 = .ok (.iconst 1, 1) := by decide +kernel
theorem dX3_worth_64 : decode cX3_worth 64 = .ok (.goto 4, 3) := by decide +kernel
theorem dX3_worth_67 : decode cX3_worth 67 = .ok (.iconst 0, 1) := by decide +kernel
theorem dX3_worth_68 : decode cX3_worth 68 = .ok (.istore 9, 2) := by decide +kernel
theorem dX3_worth_70 : decode cX3_worth 70 = .ok (.iload 8, 2) := by decide +kernel
theorem dX3_worth_72 : decode cX3_worth 72 = .ok (.ifCond .ne 8, 3) := by decide +kernel
theorem dX3_worth_75 : decode cX3_worth 75 = .ok (.iload 9, 2) := by decide +kernel
theorem dX3_worth_77 : decode cX3_worth 77 = .ok (.ifCond .eq 21, 3) := by decide +kernel
theorem dX3_worth_80 : decode cX3_worth 80 = .ok (.iload 5, 2) := by decide +kernel
theorem dX3_worth_82 : decode cX3_worth 82 = .ok (.ifCond .le 16, 3) := by decide +kernel
theorem dX3_worth_85 : decode cX3_worth 85 = .ok (.aload_n 0, 1) := by decide +kernel
theorem dX3_worth_86 : decode cX3_worth 86 = .ok (.getfield 15, 3) := by decide +kernel
theorem dX3_worth_89 : decode cX3_worth 89 = .ok (.iinc 5 (-1), 3) := by decide +kernel
theorem dX3_worth_92 : decode cX3_worth 92 = .ok (.iload 5, 2) := by decide +kernel
theorem dX3_worth_94 : decode cX3_worth 94 = .ok (.iaload, 1) := by decide +kernel
theorem dX3_worth_95 : decode cX3_worth 95 = .ok (.goto 4, 3) := by decide +kernel
theorem dX3_worth_98 : decode cX3_worth 98 = .ok (.iconst 0, 1) := by decide +kernel
theorem dX3_worth_99 : decode cX3_worth 99 = .ok (.istore 10, 2) := by decide +kernel
theorem dX3_worth_101 : decode cX3_worth 101 = .ok (.iload 8, 2) := by decide +kernel
theorem dX3_worth_103 : decode cX3_worth 103 = .ok (.ifCond .eq 21, 3) := by decide +kernel
theorem dX3_worth_106 : decode cX3_worth 106 = .ok (.iload 5, 2) := by decide +kernel
theorem dX3_worth_108 : decode cX3_worth 108 = .ok (.ifCond .le 16, 3) := by decide +kernel
theorem dX3_worth_111 : decode cX3_worth 111 = .ok (.aload_n 0, 1) := by decide +kernel
theorem dX3_worth_112 : decode cX3_worth 112 = .ok (.getfield 15, 3) := by decide +kernel
theorem dX3_worth_115 : decode cX3_worth 115 = .ok (.iinc 5 (-1), 3) := by decide +kernel
theorem dX3_worth_118 : decode cX3_worth 118 = .ok (.iload 5, 2) := by decide +kernel
theorem dX3_worth_120 : decode cX3_worth 120 = .ok (.iaload, 1) := by decide +kernel
theorem dX3_worth_121 : decode cX3_worth 121 = .ok (.goto 4, 3) := by decide +kernel
theorem dX3_worth_124 : decode cX3_worth 124 = .ok (.iconst 0, 1) := by decide +kernel
theorem dX3_worth_125 : decode cX3_worth 125 = .ok (.istore 11, 2) := by decide +kernel
theorem dX3_worth_127 : decode cX3_worth 127 = .ok (.iload 5, 2) := by decide +kernel
theorem dX3_worth_129 : decode cX3_worth 129 = .ok (.aload_n 0, 1) := by decide +kernel
theorem dX3_worth_130 : decode cX3_worth 130 = .ok (.getfield 15, 3) := by decide +kernel
theorem dX3_worth_133 : decode cX3_worth 133 = .ok (.arraylength, 1) := by decide +kernel
theorem dX3_worth_134 : decode cX3_worth 134 = .ok (.if_icmp .lt 5, 3) := by decide +kernel
theorem dX3_worth_137 : decode cX3_worth 137 = .ok (.iconst 0, 1) := by decide +kernel
theorem dX3_worth_138 : decode cX3_worth 138 = .ok (.ireturn, 1) := by decide +kernel
theorem dX3_worth_139 : decode cX3_worth 139 = .ok (.iload 8, 2) := by decide +kernel
theorem dX3_worth_141 : decode cX3_worth 141 = .ok (.ifCond .eq 41, 3) := by decide +kernel
theorem dX3_worth_144 : decode cX3_worth 144 = .ok (.iload 7, 2) := by decide +kernel
theorem dX3_worth_146 : decode cX3_worth 146 = .ok (.iload 11, 2) := by decide +kernel
theorem dX3_worth_148 : decode cX3_worth 148 = .ok (.i2l, 1) := by decide +kernel
theorem dX3_worth_149 : decode cX3_worth 149 = .ok (.iload 10, 2) := by decide +kernel
theorem dX3_worth_151 : decode cX3_worth 151 = .ok (.i2l, 1) := by decide +kernel
theorem dX3_worth_152 : decode cX3_worth 152 = .ok (.invokestatic 28, 3) := by decide +kernel
theorem dX3_worth_155 : decode cX3_worth 155 = .ok (.lstore 12, 2) := by decide +kernel
theorem dX3_worth_157 : decode cX3_worth 157 = .ok (.aload_n 0, 1) := by decide +kernel
theorem dX3_worth_158 : decode cX3_worth 158 = .ok (.getfield 15, 3) := by decide +kernel
theorem dX3_worth_161 : decode cX3_worth 161 = .ok (.iload 5, 2) := by decide +kernel
theorem dX3_worth_163 : decode cX3_worth 163 = .ok (.ldc2_w 32, 3) := by decide +kernel
theorem dX3_worth_166 : decode cX3_worth 166 = .ok (.ldc2_w 34, 3) := by decide +kernel
theorem dX3_worth_169 : decode cX3_worth 169 = .ok (.lload 12, 2) := by decide +kernel
theorem dX3_worth_171 : decode cX3_worth 171 = .ok (.invokestatic 36, 3) := by decide +kernel
theorem dX3_worth_174 : decode cX3_worth 174 = .ok (.invokestatic 40, 3) := by decide +kernel
theorem dX3_worth_177 : decode cX3_worth 177 = .ok (.l2i, 1) := by decide +kernel
theorem dX3_worth_178 : decode cX3_worth 178 = .ok (.iastore, 1) := by decide +kernel
theorem dX3_worth_179 : decode cX3_worth 179 = .ok (.goto 65, 3) := by decide +kernel
theorem dX3_worth_182 : decode cX3_worth 182 = .ok (.iload 9, 2) := by decide +kernel
theorem dX3_worth_184 : decode cX3_worth 184 = .ok (.ifCond .eq 22, 3) := by decide +kernel
theorem dX3_worth_187 : decode cX3_worth 187 = .ok (.aload_n 0, 1) := by decide +kernel
theorem dX3_worth_188 : decode cX3_worth 188 = .ok (.getfield 15, 3) := by decide +kernel
theorem dX3_worth_191 : decode cX3_worth 191 = .ok (.iload 5, 2) := by decide +kernel
theorem dX3_worth_193 : decode cX3_worth 193 = .ok (.iload 7, 2) := by decide +kernel
theorem dX3_worth_195 : decode cX3_worth 195 = .ok (.iload 10, 2) := by decide +kernel
theorem dX3_worth_197 : decode cX3_worth 197 = .ok (.aload 4, 2) := by decide +kernel
theorem dX3_worth_199 : decode cX3_worth 199 = .ok (.invokestatic 42, 3) := by decide +kernel
theorem dX3_worth_202 : decode cX3_worth 202 = .ok (.iastore, 1) := by decide +kernel
theorem dX3_worth_203 : decode cX3_worth 203 = .ok (.goto 41, 3) := by decide +kernel
theorem dX3_worth_206 : decode cX3_worth 206 = .ok (.iconst (-1), 1) := by decide +kernel
theorem dX3_worth_207 : decode cX3_worth 207 = .ok (.iload 7, 2) := by decide +kernel
theorem dX3_worth_209 : decode cX3_worth 209 = .ok (.isub, 1) := by decide +kernel
theorem dX3_worth_210 : decode cX3_worth 210 = .ok (.istore 12, 2) := by decide +kernel
theorem dX3_worth_212 : decode cX3_worth 212 = .ok (.aload_n 0, 1) := by decide +kernel
theorem dX3_worth_213 : decode cX3_worth 213 = .ok (.getfield 15, 3) := by decide +kernel
theorem dX3_worth_216 : decode cX3_worth 216 = .ok (.iload 5, 2) := by decide +kernel
theorem dX3_worth_218 : decode cX3_worth 218 = .ok (.iload 7, 2) := by decide +kernel
theorem dX3_worth_220 : decode cX3_worth 220 = .ok (.ifCond .lt 8, 3) := by decide +kernel
theorem dX3_worth_223 : decode cX3_worth 223 = .ok (.iload 7, 2) := by decide +kernel
theorem dX3_worth_225 : decode cX3_worth 225 = .ok (.goto 18, 3) := by decide +kernel
theorem dX3_worth_228 : decode cX3_worth 228 = .ok (.iload 12, 2) := by decide +kernel
theorem dX3_worth_230 : decode cX3_worth 230 = .ok (.aload_n 3, 1) := by decide +kernel
theorem dX3_worth_231 : decode cX3_worth 231 = .ok (.arraylength, 1) := by decide +kernel
theorem dX3_worth_232 : decode cX3_worth 232 = .ok (.if_icmp .ge 10, 3) := by decide +kernel
theorem dX3_worth_235 : decode cX3_worth 235 = .ok (.aload_n 3, 1) := by decide +kernel
theorem dX3_worth_236 : decode cX3_worth 236 = .ok (.iload 12, 2) := by decide +kernel
theorem dX3_worth_238 : decode cX3_worth 238 = .ok (.iaload, 1) := by decide +kernel
theorem dX3_worth_239 : decode cX3_worth 239 = .ok (.goto 4, 3) := by decide +kernel
theorem dX3_worth_242 : decode cX3_worth 242 = .ok (.iconst 0, 1) := by decide +kernel
theorem dX3_worth_243 : decode cX3_worth 243 = .ok (.iastore, 1) := by decide +kernel
theorem dX3_worth_244 : decode cX3_worth 244 = .ok (.iinc 5 1, 3) := by decide +kernel
theorem dX3_worth_247 : decode cX3_worth 247 = .ok (.iinc 6 1, 3) := by decide +kernel
theorem dX3_worth_250 : decode cX3_worth 250 = .ok (.goto (-240), 3) := by decide +kernel
theorem dX3_worth_253 : decode cX3_worth 253 = .ok (.iload 5, 2) := by decide +kernel
theorem dX3_worth_255 : decode cX3_worth 255 = .ok (.ifCond .le 15, 3) := by decide +kernel
theorem dX3_worth_258 : decode cX3_worth 258 = .ok (.aload_n 0, 1) := by decide +kernel
theorem dX3_worth_259 : decode cX3_worth 259 = .ok (.getfield 15, 3) := by decide +kernel
theorem dX3_worth_262 : decode cX3_worth 262 = .ok (.iload 5, 2) := by decide +kernel
theorem dX3_worth_264 : decode cX3_worth 264 = .ok (.iconst 1, 1) := by decide +kernel
theorem dX3_worth_265 : decode cX3_worth 265 = .ok (.isub, 1) := by decide +kernel
theorem dX3_worth_266 : decode cX3_worth 266 = .ok (.iaload, 1) := by decide +kernel
theorem dX3_worth_267 : decode cX3_worth 267 = .ok (.goto 4, 3) := by decide +kernel
theorem dX3_worth_270 : decode cX3_worth 270 = .ok (.iconst 0, 1) := by decide +kernel
theorem dX3_worth_271 : decode cX3_worth 271 = .ok (.ireturn, 1) := by decide +kernel
theorem dX3_turned_0 : decode cX3_turned 0 = .ok (.iload_n 0, 1) := by decide +kernel
theorem dX3_turned_1 : decode cX3_turned 1 = .ok (.bipush (-11), 2) := by decide +kernel
theorem dX3_turned_3 : decode cX3_turned 3 = .ok (.if_icmp .ne 13, 3) := by decide +kernel
theorem dX3_turned_6 : decode cX3_turned 6 = .ok (.iload_n 1, 1) := by decide +kernel
theorem dX3_turned_7 : decode cX3_turned 7 = .ok (.ifCond .ne 7, 3) := by decide +kernel
theorem dX3_turned_10 : decode cX3_turned 10 = .ok (.iconst 1, 1) := by decide +kernel
theorem dX3_turned_11 : decode cX3_turned 11 = .ok (.goto 4, 3) := by decide +kernel
theorem dX3_turned_14 : decode cX3_turned 14 = .ok (.iconst 0, 1) := by decide +kernel
theorem dX3_turned_15 : decode cX3_turned 15 = .ok (.ireturn, 1) := by decide +kernel
theorem dX3_turned_16 : decode cX3_turned 16 = .ok (.iload_n 1, 1) := by decide +kernel
theorem dX3_turned_17 : decode cX3_turned 17 = .ok (.ifCond .lt 20, 3) := by decide +kernel
theorem dX3_turned_20 : decode cX3_turned 20 = .ok (.iload_n 1, 1) := by decide +kernel
theorem dX3_turned_21 : decode cX3_turned 21 = .ok (.aload_n 2, 1) := by decide +kernel
theorem dX3_turned_22 : decode cX3_turned 22 = .ok (.getfield 46, 3) := by decide +kernel
theorem dX3_turned_25 : decode cX3_turned 25 = .ok (.if_icmp .ge 12, 3) := by decide +kernel
theorem dX3_turned_28 : decode cX3_turned 28 = .ok (.aload_n 2, 1) := by decide +kernel
theorem dX3_turned_29 : decode cX3_turned 29 = .ok (.getfield 51, 3) := by decide +kernel
theorem dX3_turned_32 : decode cX3_turned 32 = .ok (.iload_n 1, 1) := by decide +kernel
theorem dX3_turned_33 : decode cX3_turned 33 = .ok (.iaload, 1) := by decide +kernel
theorem dX3_turned_34 : decode cX3_turned 34 = .ok (.goto 4, 3) := by decide +kernel
theorem dX3_turned_37 : decode cX3_turned 37 = .ok (.iconst 0, 1) := by decide +kernel
theorem dX3_turned_38 : decode cX3_turned 38 = .ok (.ireturn, 1) := by decide +kernel
theorem dX3_joined_0 : decode cX3_joined 0 = .ok (.iload_n 0, 1) := by decide +kernel
theorem dX3_joined_1 : decode cX3_joined 1 = .ok (.tableswitch 143 (-23) (-13) #[139, 135, 123, 111, 99, 93, 87, 71, 67, 63, 59], 59) := by decide +kernel
theorem dX3_joined_60 : decode cX3_joined 60 = .ok (.lload_n 1, 1) := by decide +kernel
theorem dX3_joined_61 : decode cX3_joined 61 = .ok (.lload_n 3, 1) := by decide +kernel
theorem dX3_joined_62 : decode cX3_joined 62 = .ok (.ladd, 1) := by decide +kernel
theorem dX3_joined_63 : decode cX3_joined 63 = .ok (.lreturn, 1) := by decide +kernel
theorem dX3_joined_64 : decode cX3_joined 64 = .ok (.lload_n 1, 1) := by decide +kernel
theorem dX3_joined_65 : decode cX3_joined 65 = .ok (.lload_n 3, 1) := by decide +kernel
theorem dX3_joined_66 : decode cX3_joined 66 = .ok (.lsub, 1) := by decide +kernel
theorem dX3_joined_67 : decode cX3_joined 67 = .ok (.lreturn, 1) := by decide +kernel
theorem dX3_joined_68 : decode cX3_joined 68 = .ok (.lload_n 1, 1) := by decide +kernel
theorem dX3_joined_69 : decode cX3_joined 69 = .ok (.lload_n 3, 1) := by decide +kernel
theorem dX3_joined_70 : decode cX3_joined 70 = .ok (.lmul, 1) := by decide +kernel
theorem dX3_joined_71 : decode cX3_joined 71 = .ok (.lreturn, 1) := by decide +kernel
theorem dX3_joined_72 : decode cX3_joined 72 = .ok (.lload_n 3, 1) := by decide +kernel
theorem dX3_joined_73 : decode cX3_joined 73 = .ok (.lconst 0, 1) := by decide +kernel
theorem dX3_joined_74 : decode cX3_joined 74 = .ok (.lcmp, 1) := by decide +kernel
theorem dX3_joined_75 : decode cX3_joined 75 = .ok (.ifCond .ne 7, 3) := by decide +kernel
theorem dX3_joined_78 : decode cX3_joined 78 = .ok (.lconst 0, 1) := by decide +kernel
theorem dX3_joined_79 : decode cX3_joined 79 = .ok (.goto 8, 3) := by decide +kernel
theorem dX3_joined_82 : decode cX3_joined 82 = .ok (.lload_n 1, 1) := by decide +kernel
theorem dX3_joined_83 : decode cX3_joined 83 = .ok (.lload_n 3, 1) := by decide +kernel
theorem dX3_joined_84 : decode cX3_joined 84 = .ok (.invokestatic 54, 3) := by decide +kernel
theorem dX3_joined_87 : decode cX3_joined 87 = .ok (.lreturn, 1) := by decide +kernel
theorem dX3_joined_88 : decode cX3_joined 88 = .ok (.lload_n 1, 1) := by decide +kernel
theorem dX3_joined_89 : decode cX3_joined 89 = .ok (.lload_n 3, 1) := by decide +kernel
theorem dX3_joined_90 : decode cX3_joined 90 = .ok (.invokestatic 36, 3) := by decide +kernel
theorem dX3_joined_93 : decode cX3_joined 93 = .ok (.lreturn, 1) := by decide +kernel
theorem dX3_joined_94 : decode cX3_joined 94 = .ok (.lload_n 1, 1) := by decide +kernel
theorem dX3_joined_95 : decode cX3_joined 95 = .ok (.lload_n 3, 1) := by decide +kernel
theorem dX3_joined_96 : decode cX3_joined 96 = .ok (.invokestatic 40, 3) := by decide +kernel
theorem dX3_joined_99 : decode cX3_joined 99 = .ok (.lreturn, 1) := by decide +kernel
theorem dX3_joined_100 : decode cX3_joined 100 = .ok (.lload_n 1, 1) := by decide +kernel
theorem dX3_joined_101 : decode cX3_joined 101 = .ok (.lload_n 3, 1) := by decide +kernel
theorem dX3_joined_102 : decode cX3_joined 102 = .ok (.lcmp, 1) := by decide +kernel
theorem dX3_joined_103 : decode cX3_joined 103 = .ok (.ifCond .ge 7, 3) := by decide +kernel
theorem dX3_joined_106 : decode cX3_joined 106 = .ok (.lconst 1, 1) := by decide +kernel
theorem dX3_joined_107 : decode cX3_joined 107 = .ok (.goto 4, 3) := by decide +kernel
theorem dX3_joined_110 : decode cX3_joined 110 = .ok (.lconst 0, 1) := by decide +kernel
theorem dX3_joined_111 : decode cX3_joined 111 = .ok (.lreturn, 1) := by decide +kernel
theorem dX3_joined_112 : decode cX3_joined 112 = .ok (.lload_n 1, 1) := by decide +kernel
theorem dX3_joined_113 : decode cX3_joined 113 = .ok (.lload_n 3, 1) := by decide +kernel
theorem dX3_joined_114 : decode cX3_joined 114 = .ok (.lcmp, 1) := by decide +kernel
theorem dX3_joined_115 : decode cX3_joined 115 = .ok (.ifCond .le 7, 3) := by decide +kernel
theorem dX3_joined_118 : decode cX3_joined 118 = .ok (.lconst 1, 1) := by decide +kernel
theorem dX3_joined_119 : decode cX3_joined 119 = .ok (.goto 4, 3) := by decide +kernel
theorem dX3_joined_122 : decode cX3_joined 122 = .ok (.lconst 0, 1) := by decide +kernel
theorem dX3_joined_123 : decode cX3_joined 123 = .ok (.lreturn, 1) := by decide +kernel
theorem dX3_joined_124 : decode cX3_joined 124 = .ok (.lload_n 1, 1) := by decide +kernel
theorem dX3_joined_125 : decode cX3_joined 125 = .ok (.lload_n 3, 1) := by decide +kernel
theorem dX3_joined_126 : decode cX3_joined 126 = .ok (.lcmp, 1) := by decide +kernel
theorem dX3_joined_127 : decode cX3_joined 127 = .ok (.ifCond .ne 7, 3) := by decide +kernel
theorem dX3_joined_130 : decode cX3_joined 130 = .ok (.lconst 1, 1) := by decide +kernel
theorem dX3_joined_131 : decode cX3_joined 131 = .ok (.goto 4, 3) := by decide +kernel
theorem dX3_joined_134 : decode cX3_joined 134 = .ok (.lconst 0, 1) := by decide +kernel
theorem dX3_joined_135 : decode cX3_joined 135 = .ok (.lreturn, 1) := by decide +kernel
theorem dX3_joined_136 : decode cX3_joined 136 = .ok (.lload_n 1, 1) := by decide +kernel
theorem dX3_joined_137 : decode cX3_joined 137 = .ok (.lload_n 3, 1) := by decide +kernel
theorem dX3_joined_138 : decode cX3_joined 138 = .ok (.land, 1) := by decide +kernel
theorem dX3_joined_139 : decode cX3_joined 139 = .ok (.lreturn, 1) := by decide +kernel
theorem dX3_joined_140 : decode cX3_joined 140 = .ok (.lload_n 1, 1) := by decide +kernel
theorem dX3_joined_141 : decode cX3_joined 141 = .ok (.lload_n 3, 1) := by decide +kernel
theorem dX3_joined_142 : decode cX3_joined 142 = .ok (.lor, 1) := by decide +kernel
theorem dX3_joined_143 : decode cX3_joined 143 = .ok (.lreturn, 1) := by decide +kernel
theorem dX3_joined_144 : decode cX3_joined 144 = .ok (.lconst 0, 1) := by decide +kernel
theorem dX3_joined_145 : decode cX3_joined 145 = .ok (.lreturn, 1) := by decide +kernel
