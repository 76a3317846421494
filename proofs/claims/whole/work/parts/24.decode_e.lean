theorem dX8_isIn_0 : decode cX8_isIn 0 = .ok (.lload_n 0, 1) := by decide +kernel
theorem dX8_isIn_1 : decode cX8_isIn 1 = .ok (.lload_n 2, 1) := by decide +kernel
theorem dX8_isIn_2 : decode cX8_isIn 2 = .ok (.lcmp, 1) := by decide +kernel
theorem dX8_isIn_3 : decode cX8_isIn 3 = .ok (.ifCond .lt 14, 3) := by decide +kernel
theorem dX8_isIn_6 : decode cX8_isIn 6 = .ok (.lload_n 0, 1) := by decide +kernel
theorem dX8_isIn_7 : decode cX8_isIn 7 = .ok (.lload 4, 2) := by decide +kernel
theorem dX8_isIn_9 : decode cX8_isIn 9 = .ok (.lcmp, 1) := by decide +kernel
theorem dX8_isIn_10 : decode cX8_isIn 10 = .ok (.ifCond .gt 7, 3) := by decide +kernel
theorem dX8_isIn_13 : decode cX8_isIn 13 = .ok (.iconst 1, 1) := by decide +kernel
theorem dX8_isIn_14 : decode cX8_isIn 14 = .ok (.goto 4, 3) := by decide +kernel
theorem dX8_isIn_17 : decode cX8_isIn 17 = .ok (.iconst 0, 1) := by decide +kernel
theorem dX8_isIn_18 : decode cX8_isIn 18 = .ok (.ireturn, 1) := by decide +kernel
theorem dX8_feed_0 : decode cX8_feed 0 = .ok (.aload_n 0, 1) := by decide +kernel
theorem dX8_feed_1 : decode cX8_feed 1 = .ok (.getfield 287, 3) := by decide +kernel
theorem dX8_feed_4 : decode cX8_feed 4 = .ok (.bipush 20, 2) := by decide +kernel
theorem dX8_feed_6 : decode cX8_feed 6 = .ok (.iadd, 1) := by decide +kernel
theorem dX8_feed_7 : decode cX8_feed 7 = .ok (.sipush 1600, 3) := by decide +kernel
theorem dX8_feed_10 : decode cX8_feed 10 = .ok (.if_icmp .le 15, 3) := by decide +kernel
theorem dX8_feed_13 : decode cX8_feed 13 = .ok (.aload_n 0, 1) := by decide +kernel
theorem dX8_feed_14 : decode cX8_feed 14 = .ok (.getfield 17, 3) := by decide +kernel
theorem dX8_feed_17 : decode cX8_feed 17 = .ok (.iconst 0, 1) := by decide +kernel
theorem dX8_feed_18 : decode cX8_feed 18 = .ok (.dup2, 1) := by decide +kernel
theorem dX8_feed_19 : decode cX8_feed 19 = .ok (.iaload, 1) := by decide +kernel
theorem dX8_feed_20 : decode cX8_feed 20 = .ok (.iconst 1, 1) := by decide +kernel
theorem dX8_feed_21 : decode cX8_feed 21 = .ok (.iadd, 1) := by decide +kernel
theorem dX8_feed_22 : decode cX8_feed 22 = .ok (.iastore, 1) := by decide +kernel
theorem dX8_feed_23 : decode cX8_feed 23 = .ok (.iconst (-1), 1) := by decide +kernel
theorem dX8_feed_24 : decode cX8_feed 24 = .ok (.ireturn, 1) := by decide +kernel
theorem dX8_feed_25 : decode cX8_feed 25 = .ok (.iconst 0, 1) := by decide +kernel
theorem dX8_feed_26 : decode cX8_feed 26 = .ok (.istore 6, 2) := by decide +kernel
theorem dX8_feed_28 : decode cX8_feed 28 = .ok (.iload 6, 2) := by decide +kernel
theorem dX8_feed_30 : decode cX8_feed 30 = .ok (.bipush 20, 2) := by decide +kernel
theorem dX8_feed_32 : decode cX8_feed 32 = .ok (.if_icmp .ge 92, 3) := by decide +kernel
theorem dX8_feed_35 : decode cX8_feed 35 = .ok (.iload 6, 2) := by decide +kernel
theorem dX8_feed_37 : decode cX8_feed 37 = .ok (.iconst 4, 1) := by decide +kernel
theorem dX8_feed_38 : decode cX8_feed 38 = .ok (.if_icmp .ge 7, 3) := by decide +kernel
theorem dX8_feed_41 : decode cX8_feed 41 = .ok (.iload_n 1, 1) := by decide +kernel
theorem dX8_feed_42 : decode cX8_feed 42 = .ok (.goto 39, 3) := by decide +kernel
theorem dX8_feed_45 : decode cX8_feed 45 = .ok (.iload 6, 2) := by decide +kernel
theorem dX8_feed_47 : decode cX8_feed 47 = .ok (.bipush 8, 2) := by decide +kernel
theorem dX8_feed_49 : decode cX8_feed 49 = .ok (.if_icmp .ge 7, 3) := by decide +kernel
theorem dX8_feed_52 : decode cX8_feed 52 = .ok (.iload_n 2, 1) := by decide +kernel
theorem dX8_feed_53 : decode cX8_feed 53 = .ok (.goto 28, 3) := by decide +kernel
theorem dX8_feed_56 : decode cX8_feed 56 = .ok (.iload 6, 2) := by decide +kernel
theorem dX8_feed_58 : decode cX8_feed 58 = .ok (.bipush 12, 2) := by decide +kernel
theorem dX8_feed_60 : decode cX8_feed 60 = .ok (.if_icmp .ge 7, 3) := by decide +kernel
theorem dX8_feed_63 : decode cX8_feed 63 = .ok (.iload_n 3, 1) := by decide +kernel
theorem dX8_feed_64 : decode cX8_feed 64 = .ok (.goto 17, 3) := by decide +kernel
theorem dX8_feed_67 : decode cX8_feed 67 = .ok (.iload 6, 2) := by decide +kernel
theorem dX8_feed_69 : decode cX8_feed 69 = .ok (.bipush 16, 2) := by decide +kernel
theorem dX8_feed_71 : decode cX8_feed 71 = .ok (.if_icmp .ge 8, 3) := by decide +kernel
theorem dX8_feed_74 : decode cX8_feed 74 = .ok (.iload 4, 2) := by decide +kernel
theorem dX8_feed_76 : decode cX8_feed 76 = .ok (.goto 5, 3) := by decide +kernel
theorem dX8_feed_79 : decode cX8_feed 79 = .ok (.iload 5, 2) := by decide +kernel
theorem dX8_feed_81 : decode cX8_feed 81 = .ok (.istore 7, 2) := by decide +kernel
theorem dX8_feed_83 : decode cX8_feed 83 = .ok (.aload_n 0, 1) := by decide +kernel
theorem dX8_feed_84 : decode cX8_feed 84 = .ok (.getfield 7, 3) := by decide +kernel
theorem dX8_feed_87 : decode cX8_feed 87 = .ok (.aload_n 0, 1) := by decide +kernel
theorem dX8_feed_88 : decode cX8_feed 88 = .ok (.getfield 287, 3) := by decide +kernel
theorem dX8_feed_91 : decode cX8_feed 91 = .ok (.iload 7, 2) := by decide +kernel
theorem dX8_feed_93 : decode cX8_feed 93 = .ok (.bipush 8, 2) := by decide +kernel
theorem dX8_feed_95 : decode cX8_feed 95 = .ok (.iconst 3, 1) := by decide +kernel
theorem dX8_feed_96 : decode cX8_feed 96 = .ok (.iload 6, 2) := by decide +kernel
theorem dX8_feed_98 : decode cX8_feed 98 = .ok (.iconst 4, 1) := by decide +kernel
theorem dX8_feed_99 : decode cX8_feed 99 = .ok (.irem, 1) := by decide +kernel
theorem dX8_feed_100 : decode cX8_feed 100 = .ok (.isub, 1) := by decide +kernel
theorem dX8_feed_101 : decode cX8_feed 101 = .ok (.imul, 1) := by decide +kernel
theorem dX8_feed_102 : decode cX8_feed 102 = .ok (.ishr, 1) := by decide +kernel
theorem dX8_feed_103 : decode cX8_feed 103 = .ok (.sipush 255, 3) := by decide +kernel
theorem dX8_feed_106 : decode cX8_feed 106 = .ok (.iand, 1) := by decide +kernel
theorem dX8_feed_107 : decode cX8_feed 107 = .ok (.iastore, 1) := by decide +kernel
theorem dX8_feed_108 : decode cX8_feed 108 = .ok (.aload_n 0, 1) := by decide +kernel
theorem dX8_feed_109 : decode cX8_feed 109 = .ok (.dup, 1) := by decide +kernel
theorem dX8_feed_110 : decode cX8_feed 110 = .ok (.getfield 287, 3) := by decide +kernel
theorem dX8_feed_113 : decode cX8_feed 113 = .ok (.iconst 1, 1) := by decide +kernel
theorem dX8_feed_114 : decode cX8_feed 114 = .ok (.iadd, 1) := by decide +kernel
theorem dX8_feed_115 : decode cX8_feed 115 = .ok (.putfield 287, 3) := by decide +kernel
theorem dX8_feed_118 : decode cX8_feed 118 = .ok (.iinc 6 1, 3) := by decide +kernel
theorem dX8_feed_121 : decode cX8_feed 121 = .ok (.goto (-93), 3) := by decide +kernel
theorem dX8_feed_124 : decode cX8_feed 124 = .ok (.aload_n 0, 1) := by decide +kernel
theorem dX8_feed_125 : decode cX8_feed 125 = .ok (.getfield 287, 3) := by decide +kernel
theorem dX8_feed_128 : decode cX8_feed 128 = .ok (.ireturn, 1) := by decide +kernel
theorem dX8_end_0 : decode cX8_end 0 = .ok (.iload_n 1, 1) := by decide +kernel
theorem dX8_end_1 : decode cX8_end 1 = .ok (.ifCond .lt 11, 3) := by decide +kernel
theorem dX8_end_4 : decode cX8_end 4 = .ok (.iload_n 1, 1) := by decide +kernel
theorem dX8_end_5 : decode cX8_end 5 = .ok (.aload_n 0, 1) := by decide +kernel
theorem dX8_end_6 : decode cX8_end 6 = .ok (.getfield 287, 3) := by decide +kernel
theorem dX8_end_9 : decode cX8_end 9 = .ok (.if_icmp .le 15, 3) := by decide +kernel
theorem dX8_end_12 : decode cX8_end 12 = .ok (.aload_n 0, 1) := by decide +kernel
theorem dX8_end_13 : decode cX8_end 13 = .ok (.getfield 17, 3) := by decide +kernel
theorem dX8_end_16 : decode cX8_end 16 = .ok (.iconst 0, 1) := by decide +kernel
theorem dX8_end_17 : decode cX8_end 17 = .ok (.dup2, 1) := by decide +kernel
theorem dX8_end_18 : decode cX8_end 18 = .ok (.iaload, 1) := by decide +kernel
theorem dX8_end_19 : decode cX8_end 19 = .ok (.iconst 1, 1) := by decide +kernel
theorem dX8_end_20 : decode cX8_end 20 = .ok (.iadd, 1) := by decide +kernel
theorem dX8_end_21 : decode cX8_end 21 = .ok (.iastore, 1) := by decide +kernel
theorem dX8_end_22 : decode cX8_end 22 = .ok (.iconst 0, 1) := by decide +kernel
theorem dX8_end_23 : decode cX8_end 23 = .ok (.ireturn, 1) := by decide +kernel
theorem dX8_end_24 : decode cX8_end 24 = .ok (.aload_n 0, 1) := by decide +kernel
theorem dX8_end_25 : decode cX8_end 25 = .ok (.iload_n 1, 1) := by decide +kernel
theorem dX8_end_26 : decode cX8_end 26 = .ok (.putfield 287, 3) := by decide +kernel
theorem dX8_end_29 : decode cX8_end 29 = .ok (.iconst 1, 1) := by decide +kernel
theorem dX8_end_30 : decode cX8_end 30 = .ok (.ireturn, 1) := by decide +kernel
theorem dX8_fail_0 : decode cX8_fail 0 = .ok (.aload_n 0, 1) := by decide +kernel
theorem dX8_fail_1 : decode cX8_fail 1 = .ok (.getfield 290, 3) := by decide +kernel
theorem dX8_fail_4 : decode cX8_fail 4 = .ok (.ifCond .eq 4, 3) := by decide +kernel
theorem dX8_fail_7 : decode cX8_fail 7 = .ok (.return_, 1) := by decide +kernel
theorem dX8_fail_8 : decode cX8_fail 8 = .ok (.aload_n 0, 1) := by decide +kernel
theorem dX8_fail_9 : decode cX8_fail 9 = .ok (.iload_n 1, 1) := by decide +kernel
theorem dX8_fail_10 : decode cX8_fail 10 = .ok (.putfield 290, 3) := by decide +kernel
theorem dX8_fail_13 : decode cX8_fail 13 = .ok (.aload_n 0, 1) := by decide +kernel
theorem dX8_fail_14 : decode cX8_fail 14 = .ok (.iload_n 2, 1) := by decide +kernel
theorem dX8_fail_15 : decode cX8_fail 15 = .ok (.putfield 293, 3) := by decide +kernel
theorem dX8_fail_18 : decode cX8_fail 18 = .ok (.return_, 1) := by decide +kernel
theorem dX8_isLetter_0 : decode cX8_isLetter 0 = .ok (.iload_n 0, 1) := by decide +kernel
theorem dX8_isLetter_1 : decode cX8_isLetter 1 = .ok (.bipush 97, 2) := by decide +kernel
theorem dX8_isLetter_3 : decode cX8_isLetter 3 = .ok (.if_icmp .lt 13, 3) := by decide +kernel
theorem dX8_isLetter_6 : decode cX8_isLetter 6 = .ok (.iload_n 0, 1) := by decide +kernel
theorem dX8_isLetter_7 : decode cX8_isLetter 7 = .ok (.bipush 122, 2) := by decide +kernel
theorem dX8_isLetter_9 : decode cX8_isLetter 9 = .ok (.if_icmp .gt 7, 3) := by decide +kernel
theorem dX8_isLetter_12 : decode cX8_isLetter 12 = .ok (.iconst 1, 1) := by decide +kernel
theorem dX8_isLetter_13 : decode cX8_isLetter 13 = .ok (.goto 4, 3) := by decide +kernel
theorem dX8_isLetter_16 : decode cX8_isLetter 16 = .ok (.iconst 0, 1) := by decide +kernel
theorem dX8_isLetter_17 : decode cX8_isLetter 17 = .ok (.ireturn, 1) := by decide +kernel
theorem dX8_isDigit_0 : decode cX8_isDigit 0 = .ok (.iload_n 0, 1) := by decide +kernel
theorem dX8_isDigit_1 : decode cX8_isDigit 1 = .ok (.bipush 48, 2) := by decide +kernel
theorem dX8_isDigit_3 : decode cX8_isDigit 3 = .ok (.if_icmp .lt 13, 3) := by decide +kernel
theorem dX8_isDigit_6 : decode cX8_isDigit 6 = .ok (.iload_n 0, 1) := by decide +kernel
theorem dX8_isDigit_7 : decode cX8_isDigit 7 = .ok (.bipush 57, 2) := by decide +kernel
theorem dX8_isDigit_9 : decode cX8_isDigit 9 = .ok (.if_icmp .gt 7, 3) := by decide +kernel
theorem dX8_isDigit_12 : decode cX8_isDigit 12 = .ok (.iconst 1, 1) := by decide +kernel
theorem dX8_isDigit_13 : decode cX8_isDigit 13 = .ok (.goto 4, 3) := by decide +kernel
theorem dX8_isDigit_16 : decode cX8_isDigit 16 = .ok (.iconst 0, 1) := by decide +kernel
theorem dX8_isDigit_17 : decode cX8_isDigit 17 = .ok (.ireturn, 1) := by decide +kernel
theorem dX8_look_0 : decode cX8_look 0 = .ok (.aload_n 0, 1) := by decide +kernel
theorem dX8_look_1 : decode cX8_look 1 = .ok (.getfield 296, 3) := by decide +kernel
theorem dX8_look_4 : decode cX8_look 4 = .ok (.aload_n 0, 1) := by decide +kernel
theorem dX8_look_5 : decode cX8_look 5 = .ok (.getfield 299, 3) := by decide +kernel
theorem dX8_look_8 : decode cX8_look 8 = .ok (.if_icmp .ge 44, 3) := by decide +kernel
theorem dX8_look_11 : decode cX8_look 11 = .ok (.aload_n 0, 1) := by decide +kernel
theorem dX8_look_12 : decode cX8_look 12 = .ok (.getfield 7, 3) := by decide +kernel
theorem dX8_look_15 : decode cX8_look 15 = .ok (.aload_n 0, 1) := by decide +kernel
theorem dX8_look_16 : decode cX8_look 16 = .ok (.getfield 296, 3) := by decide +kernel
theorem dX8_look_19 : decode cX8_look 19 = .ok (.iaload, 1) := by decide +kernel
theorem dX8_look_20 : decode cX8_look 20 = .ok (.bipush 10, 2) := by decide +kernel
theorem dX8_look_22 : decode cX8_look 22 = .ok (.if_icmp .eq 17, 3) := by decide +kernel
theorem dX8_look_25 : decode cX8_look 25 = .ok (.aload_n 0, 1) := by decide +kernel
theorem dX8_look_26 : decode cX8_look 26 = .ok (.getfield 7, 3) := by decide +kernel
theorem dX8_look_29 : decode cX8_look 29 = .ok (.aload_n 0, 1) := by decide +kernel
theorem dX8_look_30 : decode cX8_look 30 = .ok (.getfield 296, 3) := by decide +kernel
theorem dX8_look_33 : decode cX8_look 33 = .ok (.iaload, 1) := by decide +kernel
theorem dX8_look_34 : decode cX8_look 34 = .ok (.bipush 32, 2) := by decide +kernel
theorem dX8_look_36 : decode cX8_look 36 = .ok (.if_icmp .ne 16, 3) := by decide +kernel
theorem dX8_look_39 : decode cX8_look 39 = .ok (.aload_n 0, 1) := by decide +kernel
theorem dX8_look_40 : decode cX8_look 40 = .ok (.dup, 1) := by decide +kernel
theorem dX8_look_41 : decode cX8_look 41 = .ok (.getfield 296, 3) := by decide +kernel
theorem dX8_look_44 : decode cX8_look 44 = .ok (.iconst 1, 1) := by decide +kernel
theorem dX8_look_45 : decode cX8_look 45 = .ok (.iadd, 1) := by decide +kernel
theorem dX8_look_46 : decode cX8_look 46 = .ok (.putfield 296, 3) := by decide +kernel
theorem dX8_look_49 : decode cX8_look 49 = .ok (.goto (-49), 3) := by decide +kernel
theorem dX8_look_52 : decode cX8_look 52 = .ok (.aload_n 0, 1) := by decide +kernel
theorem dX8_look_53 : decode cX8_look 53 = .ok (.getfield 296, 3) := by decide +kernel
theorem dX8_look_56 : decode cX8_look 56 = .ok (.aload_n 0, 1) := by decide +kernel
theorem dX8_look_57 : decode cX8_look 57 = .ok (.getfield 299, 3) := by decide +kernel
theorem dX8_look_60 : decode cX8_look 60 = .ok (.if_icmp .ge 15, 3) := by decide +kernel
theorem dX8_look_63 : decode cX8_look 63 = .ok (.aload_n 0, 1) := by decide +kernel
theorem dX8_look_64 : decode cX8_look 64 = .ok (.getfield 7, 3) := by decide +kernel
theorem dX8_look_67 : decode cX8_look 67 = .ok (.aload_n 0, 1) := by decide +kernel
theorem dX8_look_68 : decode cX8_look 68 = .ok (.getfield 296, 3) := by decide +kernel
theorem dX8_look_71 : decode cX8_look 71 = .ok (.iaload, 1) := by decide +kernel
theorem dX8_look_72 : decode cX8_look 72 = .ok (.goto 4, 3) := by decide +kernel
theorem dX8_look_75 : decode cX8_look 75 = .ok (.iconst (-1), 1) := by decide +kernel
theorem dX8_look_76 : decode cX8_look 76 = .ok (.ireturn, 1) := by decide +kernel
theorem dX8_isHere_0 : decode cX8_isHere 0 = .ok (.aload_n 0, 1) := by decide +kernel
theorem dX8_isHere_1 : decode cX8_isHere 1 = .ok (.getfield 290, 3) := by decide +kernel
theorem dX8_isHere_4 : decode cX8_isHere 4 = .ok (.ifCond .ne 24, 3) := by decide +kernel
theorem dX8_isHere_7 : decode cX8_isHere 7 = .ok (.aload_n 0, 1) := by decide +kernel
theorem dX8_isHere_8 : decode cX8_isHere 8 = .ok (.invokevirtual 302, 3) := by decide +kernel
theorem dX8_isHere_11 : decode cX8_isHere 11 = .ok (.invokestatic 306, 3) := by decide +kernel
theorem dX8_isHere_14 : decode cX8_isHere 14 = .ok (.ifCond .eq 14, 3) := by decide +kernel
theorem dX8_isHere_17 : decode cX8_isHere 17 = .ok (.aload_n 0, 1) := by decide +kernel
theorem dX8_isHere_18 : decode cX8_isHere 18 = .ok (.getfield 296, 3) := by decide +kernel
theorem dX8_isHere_21 : decode cX8_isHere 21 = .ok (.aload_n 0, 1) := by decide +kernel
theorem dX8_isHere_22 : decode cX8_isHere 22 = .ok (.getfield 310, 3) := by decide +kernel
theorem dX8_isHere_25 : decode cX8_isHere 25 = .ok (.if_icmp .ne 5, 3) := by decide +kernel
theorem dX8_isHere_28 : decode cX8_isHere 28 = .ok (.iconst 0, 1) := by decide +kernel
theorem dX8_isHere_29 : decode cX8_isHere 29 = .ok (.ireturn, 1) := by decide +kernel
theorem dX8_isHere_30 : decode cX8_isHere 30 = .ok (.aload_n 0, 1) := by decide +kernel
theorem dX8_isHere_31 : decode cX8_isHere 31 = .ok (.getfield 296, 3) := by decide +kernel
theorem dX8_isHere_34 : decode cX8_isHere 34 = .ok (.istore_n 2, 1) := by decide +kernel
theorem dX8_isHere_35 : decode cX8_isHere 35 = .ok (.iload_n 2, 1) := by decide +kernel
theorem dX8_isHere_36 : decode cX8_isHere 36 = .ok (.aload_n 0, 1) := by decide +kernel
theorem dX8_isHere_37 : decode cX8_isHere 37 = .ok (.getfield 299, 3) := by decide +kernel
theorem dX8_isHere_40 : decode cX8_isHere 40 = .ok (.if_icmp .ge 21, 3) := by decide +kernel
theorem dX8_isHere_43 : decode cX8_isHere 43 = .ok (.aload_n 0, 1) := by decide +kernel
theorem dX8_isHere_44 : decode cX8_isHere 44 = .ok (.getfield 7, 3) := by decide +kernel
theorem dX8_isHere_47 : decode cX8_isHere 47 = .ok (.iload_n 2, 1) := by decide +kernel
theorem dX8_isHere_48 : decode cX8_isHere 48 = .ok (.iaload, 1) := by decide +kernel
theorem dX8_isHere_49 : decode cX8_isHere 49 = .ok (.invokestatic 306, 3) := by decide +kernel
theorem dX8_isHere_52 : decode cX8_isHere 52 = .ok (.ifCond .eq 9, 3) := by decide +kernel
theorem dX8_isHere_55 : decode cX8_isHere 55 = .ok (.iinc 2 1, 3) := by decide +kernel
theorem dX8_isHere_58 : decode cX8_isHere 58 = .ok (.goto (-23), 3) := by decide +kernel
theorem dX8_isHere_61 : decode cX8_isHere 61 = .ok (.iload_n 2, 1) := by decide +kernel
theorem dX8_isHere_62 : decode cX8_isHere 62 = .ok (.aload_n 0, 1) := by decide +kernel
theorem dX8_isHere_63 : decode cX8_isHere 63 = .ok (.getfield 296, 3) := by decide +kernel
theorem dX8_isHere_66 : decode cX8_isHere 66 = .ok (.isub, 1) := by decide +kernel
theorem dX8_isHere_67 : decode cX8_isHere 67 = .ok (.aload_n 1, 1) := by decide +kernel
theorem dX8_isHere_68 : decode cX8_isHere 68 = .ok (.arraylength, 1) := by decide +kernel
theorem dX8_isHere_69 : decode cX8_isHere 69 = .ok (.if_icmp .eq 5, 3) := by decide +kernel
theorem dX8_isHere_72 : decode cX8_isHere 72 = .ok (.iconst 0, 1) := by decide +kernel
theorem dX8_isHere_73 : decode cX8_isHere 73 = .ok (.ireturn, 1) := by decide +kernel
theorem dX8_isHere_74 : decode cX8_isHere 74 = .ok (.iconst 0, 1) := by decide +kernel
theorem dX8_isHere_75 : decode cX8_isHere 75 = .ok (.istore_n 3, 1) := by decide +kernel
theorem dX8_isHere_76 : decode cX8_isHere 76 = .ok (.iload_n 3, 1) := by decide +kernel
theorem dX8_isHere_77 : decode cX8_isHere 77 = .ok (.aload_n 1, 1) := by decide +kernel
theorem dX8_isHere_78 : decode cX8_isHere 78 = .ok (.arraylength, 1) := by decide +kernel
theorem dX8_isHere_79 : decode cX8_isHere 79 = .ok (.if_icmp .ge 28, 3) := by decide +kernel
theorem dX8_isHere_82 : decode cX8_isHere 82 = .ok (.aload_n 0, 1) := by decide +kernel
theorem dX8_isHere_83 : decode cX8_isHere 83 = .ok (.getfield 7, 3) := by decide +kernel
theorem dX8_isHere_86 : decode cX8_isHere 86 = .ok (.aload_n 0, 1) := by decide +kernel
theorem dX8_isHere_87 : decode cX8_isHere 87 = .ok (.getfield 296, 3) := by decide +kernel
theorem dX8_isHere_90 : decode cX8_isHere 90 = .ok (.iload_n 3, 1) := by decide +kernel
theorem dX8_isHere_91 : decode cX8_isHere 91 = .ok (.iadd, 1) := by decide +kernel
theorem dX8_isHere_92 : decode cX8_isHere 92 = .ok (.iaload, 1) := by decide +kernel
theorem dX8_isHere_93 : decode cX8_isHere 93 = .ok (.aload_n 1, 1) := by decide +kernel
theorem dX8_isHere_94 : decode cX8_isHere 94 = .ok (.iload_n 3, 1) := by decide +kernel
theorem dX8_isHere_95 : decode cX8_isHere 95 = .ok (.caload, 1) := by decide +kernel
theorem dX8_isHere_96 : decode cX8_isHere 96 = .ok (.if_icmp .eq 5, 3) := by decide +kernel
theorem dX8_isHere_99 : decode cX8_isHere 99 = .ok (.iconst 0, 1) := by decide +kernel
theorem dX8_isHere_100 : decode cX8_isHere 100 = .ok (.ireturn, 1) := by decide +kernel
theorem dX8_isHere_101 : decode cX8_isHere 101 = .ok (.iinc 3 1, 3) := by decide +kernel
theorem dX8_isHere_104 : decode cX8_isHere 104 = .ok (.goto (-28), 3) := by decide +kernel
theorem dX8_isHere_107 : decode cX8_isHere 107 = .ok (.iconst 1, 1) := by decide +kernel
theorem dX8_isHere_108 : decode cX8_isHere 108 = .ok (.ireturn, 1) := by decide +kernel
theorem dX8_takes_0 : decode cX8_takes 0 = .ok (.aload_n 0, 1) := by decide +kernel
theorem dX8_takes_1 : decode cX8_takes 1 = .ok (.aload_n 1, 1) := by decide +kernel
theorem dX8_takes_2 : decode cX8_takes 2 = .ok (.invokevirtual 313, 3) := by decide +kernel
theorem dX8_takes_5 : decode cX8_takes 5 = .ok (.ifCond .ne 5, 3) := by decide +kernel
theorem dX8_takes_8 : decode cX8_takes 8 = .ok (.iconst 0, 1) := by decide +kernel
theorem dX8_takes_9 : decode cX8_takes 9 = .ok (.ireturn, 1) := by decide +kernel
theorem dX8_takes_10 : decode cX8_takes 10 = .ok (.aload_n 0, 1) := by decide +kernel
theorem dX8_takes_11 : decode cX8_takes 11 = .ok (.dup, 1) := by decide +kernel
theorem dX8_takes_12 : decode cX8_takes 12 = .ok (.getfield 296, 3) := by decide +kernel
theorem dX8_takes_15 : decode cX8_takes 15 = .ok (.aload_n 1, 1) := by decide +kernel
theorem dX8_takes_16 : decode cX8_takes 16 = .ok (.arraylength, 1) := by decide +kernel
theorem dX8_takes_17 : decode cX8_takes 17 = .ok (.iadd, 1) := by decide +kernel
theorem dX8_takes_18 : decode cX8_takes 18 = .ok (.putfield 296, 3) := by decide +kernel
theorem dX8_takes_21 : decode cX8_takes 21 = .ok (.aload_n 0, 1) := by decide +kernel
theorem dX8_takes_22 : decode cX8_takes 22 = .ok (.aload_n 0, 1) := by decide +kernel
theorem dX8_takes_23 : decode cX8_takes 23 = .ok (.getfield 296, 3) := by decide +kernel
theorem dX8_takes_26 : decode cX8_takes 26 = .ok (.putfield 310, 3) := by decide +kernel
theorem dX8_takes_29 : decode cX8_takes 29 = .ok (.iconst 1, 1) := by decide +kernel
theorem dX8_takes_30 : decode cX8_takes 30 = .ok (.ireturn, 1) := by decide +kernel
theorem dX8_asks_0 : decode cX8_asks 0 = .ok (.aload_n 0, 1) := by decide +kernel
theorem dX8_asks_1 : decode cX8_asks 1 = .ok (.getfield 290, 3) := by decide +kernel
theorem dX8_asks_4 : decode cX8_asks 4 = .ok (.ifCond .ne 20, 3) := by decide +kernel
theorem dX8_asks_7 : decode cX8_asks 7 = .ok (.aload_n 0, 1) := by decide +kernel
theorem dX8_asks_8 : decode cX8_asks 8 = .ok (.aload_n 1, 1) := by decide +kernel
theorem dX8_asks_9 : decode cX8_asks 9 = .ok (.invokevirtual 317, 3) := by decide +kernel
theorem dX8_asks_12 : decode cX8_asks 12 = .ok (.ifCond .ne 12, 3) := by decide +kernel
theorem dX8_asks_15 : decode cX8_asks 15 = .ok (.aload_n 0, 1) := by decide +kernel
theorem dX8_asks_16 : decode cX8_asks 16 = .ok (.iconst 1, 1) := by decide +kernel
theorem dX8_asks_17 : decode cX8_asks 17 = .ok (.aload_n 0, 1) := by decide +kernel
theorem dX8_asks_18 : decode cX8_asks 18 = .ok (.getfield 296, 3) := by decide +kernel
theorem dX8_asks_21 : decode cX8_asks 21 = .ok (.invokevirtual 320, 3) := by decide +kernel
theorem dX8_asks_24 : decode cX8_asks 24 = .ok (.return_, 1) := by decide +kernel
theorem dX8_takesSign_0 : decode cX8_takesSign 0 = .ok (.aload_n 0, 1) := by decide +kernel
theorem dX8_takesSign_1 : decode cX8_takesSign 1 = .ok (.getfield 290, 3) := by decide +kernel
theorem dX8_takesSign_4 : decode cX8_takesSign 4 = .ok (.ifCond .ne 11, 3) := by decide +kernel
theorem dX8_takesSign_7 : decode cX8_takesSign 7 = .ok (.aload_n 0, 1) := by decide +kernel
theorem dX8_takesSign_8 : decode cX8_takesSign 8 = .ok (.invokevirtual 302, 3) := by decide +kernel
theorem dX8_takesSign_11 : decode cX8_takesSign 11 = .ok (.iload_n 1, 1) := by decide +kernel
theorem dX8_takesSign_12 : decode cX8_takesSign 12 = .ok (.if_icmp .eq 5, 3) := by decide +kernel
theorem dX8_takesSign_15 : decode cX8_takesSign 15 = .ok (.iconst 0, 1) := by decide +kernel
theorem dX8_takesSign_16 : decode cX8_takesSign 16 = .ok (.ireturn, 1) := by decide +kernel
theorem dX8_takesSign_17 : decode cX8_takesSign 17 = .ok (.aload_n 0, 1) := by decide +kernel
theorem dX8_takesSign_18 : decode cX8_takesSign 18 = .ok (.dup, 1) := by decide +kernel
theorem dX8_takesSign_19 : decode cX8_takesSign 19 = .ok (.getfield 296, 3) := by decide +kernel
theorem dX8_takesSign_22 : decode cX8_takesSign 22 = .ok (.iconst 1, 1) := by decide +kernel
theorem dX8_takesSign_23 : decode cX8_takesSign 23 = .ok (.iadd, 1) := by decide +kernel
theorem dX8_takesSign_24 : decode cX8_takesSign 24 = .ok (.putfield 296, 3) := by decide +kernel
theorem dX8_takesSign_27 : decode cX8_takesSign 27 = .ok (.iconst 1, 1) := by decide +kernel
theorem dX8_takesSign_28 : decode cX8_takesSign 28 = .ok (.ireturn, 1) := by decide +kernel
theorem dX8_asksSign_0 : decode cX8_asksSign 0 = .ok (.aload_n 0, 1) := by decide +kernel
theorem dX8_asksSign_1 : decode cX8_asksSign 1 = .ok (.getfield 290, 3) := by decide +kernel
theorem dX8_asksSign_4 : decode cX8_asksSign 4 = .ok (.ifCond .ne 20, 3) := by decide +kernel
theorem dX8_asksSign_7 : decode cX8_asksSign 7 = .ok (.aload_n 0, 1) := by decide +kernel
theorem dX8_asksSign_8 : decode cX8_asksSign 8 = .ok (.iload_n 1, 1) := by decide +kernel
theorem dX8_asksSign_9 : decode cX8_asksSign 9 = .ok (.invokevirtual 324, 3) := by decide +kernel
theorem dX8_asksSign_12 : decode cX8_asksSign 12 = .ok (.ifCond .ne 12, 3) := by decide +kernel
theorem dX8_asksSign_15 : decode cX8_asksSign 15 = .ok (.aload_n 0, 1) := by decide +kernel
theorem dX8_asksSign_16 : decode cX8_asksSign 16 = .ok (.iconst 1, 1) := by decide +kernel
theorem dX8_asksSign_17 : decode cX8_asksSign 17 = .ok (.aload_n 0, 1) := by decide +kernel
theorem dX8_asksSign_18 : decode cX8_asksSign 18 = .ok (.getfield 296, 3) := by decide +kernel
theorem dX8_asksSign_21 : decode cX8_asksSign 21 = .ok (.invokevirtual 320, 3) := by decide +kernel
theorem dX8_asksSign_24 : decode cX8_asksSign 24 = .ok (.return_, 1) := by decide +kernel
theorem dX8_number_0 : decode cX8_number 0 = .ok (.aload_n 0, 1) := by decide +kernel
theorem dX8_number_1 : decode cX8_number 1 = .ok (.getfield 290, 3) := by decide +kernel
theorem dX8_number_4 : decode cX8_number 4 = .ok (.ifCond .eq 5, 3) := by decide +kernel
theorem dX8_number_7 : decode cX8_number 7 = .ok (.iconst 0, 1) := by decide +kernel
theorem dX8_number_8 : decode cX8_number 8 = .ok (.ireturn, 1) := by decide +kernel
theorem dX8_number_9 : decode cX8_number 9 = .ok (.aload_n 0, 1) := by decide +kernel
theorem dX8_number_10 : decode cX8_number 10 = .ok (.invokevirtual 302, 3) := by decide +kernel
theorem dX8_number_13 : decode cX8_number 13 = .ok (.invokestatic 327, 3) := by decide +kernel
theorem dX8_number_16 : decode cX8_number 16 = .ok (.ifCond .eq 14, 3) := by decide +kernel
theorem dX8_number_19 : decode cX8_number 19 = .ok (.aload_n 0, 1) := by decide +kernel
theorem dX8_number_20 : decode cX8_number 20 = .ok (.getfield 296, 3) := by decide +kernel
theorem dX8_number_23 : decode cX8_number 23 = .ok (.aload_n 0, 1) := by decide +kernel
theorem dX8_number_24 : decode cX8_number 24 = .ok (.getfield 310, 3) := by decide +kernel
theorem dX8_number_27 : decode cX8_number 27 = .ok (.if_icmp .ne 14, 3) := by decide +kernel
theorem dX8_number_30 : decode cX8_number 30 = .ok (.aload_n 0, 1) := by decide +kernel
theorem dX8_number_31 : decode cX8_number 31 = .ok (.iconst 1, 1) := by decide +kernel
theorem dX8_number_32 : decode cX8_number 32 = .ok (.aload_n 0, 1) := by decide +kernel
theorem dX8_number_33 : decode cX8_number 33 = .ok (.getfield 296, 3) := by decide +kernel
theorem dX8_number_36 : decode cX8_number 36 = .ok (.invokevirtual 320, 3) := by decide +kernel
theorem dX8_number_39 : decode cX8_number 39 = .ok (.iconst 0, 1) := by decide +kernel
theorem dX8_number_40 : decode cX8_number 40 = .ok (.ireturn, 1) := by decide +kernel
theorem dX8_number_41 : decode cX8_number 41 = .ok (.aload_n 0, 1) := by decide +kernel
theorem dX8_number_42 : decode cX8_number 42 = .ok (.getfield 296, 3) := by decide +kernel
theorem dX8_number_45 : decode cX8_number 45 = .ok (.istore_n 3, 1) := by decide +kernel
theorem dX8_number_46 : decode cX8_number 46 = .ok (.iconst 0, 1) := by decide +kernel
theorem dX8_number_47 : decode cX8_number 47 = .ok (.istore 4, 2) := by decide +kernel
theorem dX8_number_49 : decode cX8_number 49 = .ok (.aload_n 0, 1) := by decide +kernel
theorem dX8_number_50 : decode cX8_number 50 = .ok (.getfield 296, 3) := by decide +kernel
theorem dX8_number_53 : decode cX8_number 53 = .ok (.aload_n 0, 1) := by decide +kernel
theorem dX8_number_54 : decode cX8_number 54 = .ok (.getfield 299, 3) := by decide +kernel
theorem dX8_number_57 : decode cX8_number 57 = .ok (.if_icmp .ge 72, 3) := by decide +kernel
theorem dX8_number_60 : decode cX8_number 60 = .ok (.aload_n 0, 1) := by decide +kernel
theorem dX8_number_61 : decode cX8_number 61 = .ok (.getfield 7, 3) := by decide +kernel
theorem dX8_number_64 : decode cX8_number 64 = .ok (.aload_n 0, 1) := by decide +kernel
theorem dX8_number_65 : decode cX8_number 65 = .ok (.getfield 296, 3) := by decide +kernel
theorem dX8_number_68 : decode cX8_number 68 = .ok (.iaload, 1) := by decide +kernel
theorem dX8_number_69 : decode cX8_number 69 = .ok (.invokestatic 327, 3) := by decide +kernel
theorem dX8_number_72 : decode cX8_number 72 = .ok (.ifCond .eq 57, 3) := by decide +kernel
theorem dX8_number_75 : decode cX8_number 75 = .ok (.aload_n 0, 1) := by decide +kernel
theorem dX8_number_76 : decode cX8_number 76 = .ok (.getfield 296, 3) := by decide +kernel
theorem dX8_number_79 : decode cX8_number 79 = .ok (.iload_n 3, 1) := by decide +kernel
theorem dX8_number_80 : decode cX8_number 80 = .ok (.isub, 1) := by decide +kernel
theorem dX8_number_81 : decode cX8_number 81 = .ok (.iconst 4, 1) := by decide +kernel
theorem dX8_number_82 : decode cX8_number 82 = .ok (.if_icmp .ne 14, 3) := by decide +kernel
theorem dX8_number_85 : decode cX8_number 85 = .ok (.aload_n 0, 1) := by decide +kernel
theorem dX8_number_86 : decode cX8_number 86 = .ok (.iconst 1, 1) := by decide +kernel
theorem dX8_number_87 : decode cX8_number 87 = .ok (.aload_n 0, 1) := by decide +kernel
theorem dX8_number_88 : decode cX8_number 88 = .ok (.getfield 296, 3) := by decide +kernel
theorem dX8_number_91 : decode cX8_number 91 = .ok (.invokevirtual 320, 3) := by decide +kernel
theorem dX8_number_94 : decode cX8_number 94 = .ok (.iconst 0, 1) := by decide +kernel
theorem dX8_number_95 : decode cX8_number 95 = .ok (.ireturn, 1) := by decide +kernel
theorem dX8_number_96 : decode cX8_number 96 = .ok (.bipush 10, 2) := by decide +kernel
theorem dX8_number_98 : decode cX8_number 98 = .ok (.iload 4, 2) := by decide +kernel
theorem dX8_number_100 : decode cX8_number 100 = .ok (.imul, 1) := by decide +kernel
theorem dX8_number_101 : decode cX8_number 101 = .ok (.aload_n 0, 1) := by decide +kernel
theorem dX8_number_102 : decode cX8_number 102 = .ok (.getfield 7, 3) := by decide +kernel
theorem dX8_number_105 : decode cX8_number 105 = .ok (.aload_n 0, 1) := by decide +kernel
theorem dX8_number_106 : decode cX8_number 106 = .ok (.getfield 296, 3) := by decide +kernel
theorem dX8_number_109 : decode cX8_number 109 = .ok (.iaload, 1) := by decide +kernel
theorem dX8_number_110 : decode cX8_number 110 = .ok (.iadd, 1) := by decide +kernel
theorem dX8_number_111 : decode cX8_number 111 = .ok (.bipush 48, 2) := by decide +kernel
theorem dX8_number_113 : decode cX8_number 113 = .ok (.isub, 1) := by decide +kernel
theorem dX8_number_114 : decode cX8_number 114 = .ok (.istore 4, 2) := by decide +kernel
theorem dX8_number_116 : decode cX8_number 116 = .ok (.aload_n 0, 1) := by decide +kernel
theorem dX8_number_117 : decode cX8_number 117 = .ok (.dup, 1) := by decide +kernel
theorem dX8_number_118 : decode cX8_number 118 = .ok (.getfield 296, 3) := by decide +kernel
theorem dX8_number_121 : decode cX8_number 121 = .ok (.iconst 1, 1) := by decide +kernel
theorem dX8_number_122 : decode cX8_number 122 = .ok (.iadd, 1) := by decide +kernel
theorem dX8_number_123 : decode cX8_number 123 = .ok (.putfield 296, 3) := by decide +kernel
theorem dX8_number_126 : decode cX8_number 126 = .ok (.goto (-77), 3) := by decide +kernel
theorem dX8_number_129 : decode cX8_number 129 = .ok (.aload_n 0, 1) := by decide +kernel
theorem dX8_number_130 : decode cX8_number 130 = .ok (.aload_n 0, 1) := by decide +kernel
theorem dX8_number_131 : decode cX8_number 131 = .ok (.getfield 296, 3) := by decide +kernel
theorem dX8_number_134 : decode cX8_number 134 = .ok (.putfield 310, 3) := by decide +kernel
theorem dX8_number_137 : decode cX8_number 137 = .ok (.aload_n 0, 1) := by decide +kernel
theorem dX8_number_138 : decode cX8_number 138 = .ok (.iload_n 3, 1) := by decide +kernel
theorem dX8_number_139 : decode cX8_number 139 = .ok (.putfield 330, 3) := by decide +kernel
theorem dX8_number_142 : decode cX8_number 142 = .ok (.iload 4, 2) := by decide +kernel
theorem dX8_number_144 : decode cX8_number 144 = .ok (.i2l, 1) := by decide +kernel
theorem dX8_number_145 : decode cX8_number 145 = .ok (.iload_n 1, 1) := by decide +kernel
theorem dX8_number_146 : decode cX8_number 146 = .ok (.i2l, 1) := by decide +kernel
theorem dX8_number_147 : decode cX8_number 147 = .ok (.iload_n 2, 1) := by decide +kernel
theorem dX8_number_148 : decode cX8_number 148 = .ok (.i2l, 1) := by decide +kernel
theorem dX8_number_149 : decode cX8_number 149 = .ok (.invokestatic 333, 3) := by decide +kernel
theorem dX8_number_152 : decode cX8_number 152 = .ok (.ifCond .ne 9, 3) := by decide +kernel
theorem dX8_number_155 : decode cX8_number 155 = .ok (.aload_n 0, 1) := by decide +kernel
theorem dX8_number_156 : decode cX8_number 156 = .ok (.iconst 2, 1) := by decide +kernel
theorem dX8_number_157 : decode cX8_number 157 = .ok (.iload_n 3, 1) := by decide +kernel
theorem dX8_number_158 : decode cX8_number 158 = .ok (.invokevirtual 320, 3) := by decide +kernel
theorem dX8_number_161 : decode cX8_number 161 = .ok (.iload 4, 2) := by decide +kernel
theorem dX8_number_163 : decode cX8_number 163 = .ok (.ireturn, 1) := by decide +kernel
theorem dX8_isOwnHere_0 : decode cX8_isOwnHere 0 = .ok (.aload_n 0, 1) := by decide +kernel
theorem dX8_isOwnHere_1 : decode cX8_isOwnHere 1 = .ok (.aload_n 0, 1) := by decide +kernel
theorem dX8_isOwnHere_2 : decode cX8_isOwnHere 2 = .ok (.getfield 20, 3) := by decide +kernel
theorem dX8_isOwnHere_5 : decode cX8_isOwnHere 5 = .ok (.invokevirtual 313, 3) := by decide +kernel
theorem dX8_isOwnHere_8 : decode cX8_isOwnHere 8 = .ok (.ifCond .ne 58, 3) := by decide +kernel
theorem dX8_isOwnHere_11 : decode cX8_isOwnHere 11 = .ok (.aload_n 0, 1) := by decide +kernel
theorem dX8_isOwnHere_12 : decode cX8_isOwnHere 12 = .ok (.aload_n 0, 1) := by decide +kernel
theorem dX8_isOwnHere_13 : decode cX8_isOwnHere 13 = .ok (.getfield 24, 3) := by decide +kernel
theorem dX8_isOwnHere_16 : decode cX8_isOwnHere 16 = .ok (.invokevirtual 313, 3) := by decide +kernel
theorem dX8_isOwnHere_19 : decode cX8_isOwnHere 19 = .ok (.ifCond .ne 47, 3) := by decide +kernel
theorem dX8_isOwnHere_22 : decode cX8_isOwnHere 22 = .ok (.aload_n 0, 1) := by decide +kernel
theorem dX8_isOwnHere_23 : decode cX8_isOwnHere 23 = .ok (.aload_n 0, 1) := by decide +kernel
theorem dX8_isOwnHere_24 : decode cX8_isOwnHere 24 = .ok (.getfield 27, 3) := by decide +kernel
theorem dX8_isOwnHere_27 : decode cX8_isOwnHere 27 = .ok (.invokevirtual 313, 3) := by decide +kernel
theorem dX8_isOwnHere_30 : decode cX8_isOwnHere 30 = .ok (.ifCond .ne 36, 3) := by decide +kernel
theorem dX8_isOwnHere_33 : decode cX8_isOwnHere 33 = .ok (.aload_n 0, 1) := by decide +kernel
theorem dX8_isOwnHere_34 : decode cX8_isOwnHere 34 = .ok (.aload_n 0, 1) := by decide +kernel
theorem dX8_isOwnHere_35 : decode cX8_isOwnHere 35 = .ok (.getfield 30, 3) := by decide +kernel
theorem dX8_isOwnHere_38 : decode cX8_isOwnHere 38 = .ok (.invokevirtual 313, 3) := by decide +kernel
theorem dX8_isOwnHere_41 : decode cX8_isOwnHere 41 = .ok (.ifCond .ne 25, 3) := by decide +kernel
theorem dX8_isOwnHere_44 : decode cX8_isOwnHere 44 = .ok (.aload_n 0, 1) := by decide +kernel
theorem dX8_isOwnHere_45 : decode cX8_isOwnHere 45 = .ok (.aload_n 0, 1) := by decide +kernel
theorem dX8_isOwnHere_46 : decode cX8_isOwnHere 46 = .ok (.getfield 33, 3) := by decide +kernel
theorem dX8_isOwnHere_49 : decode cX8_isOwnHere 49 = .ok (.invokevirtual 313, 3) := by decide +kernel
theorem dX8_isOwnHere_52 : decode cX8_isOwnHere 52 = .ok (.ifCond .ne 14, 3) := by decide +kernel
theorem dX8_isOwnHere_55 : decode cX8_isOwnHere 55 = .ok (.aload_n 0, 1) := by decide +kernel
theorem dX8_isOwnHere_56 : decode cX8_isOwnHere 56 = .ok (.aload_n 0, 1) := by decide +kernel
theorem dX8_isOwnHere_57 : decode cX8_isOwnHere 57 = .ok (.getfield 36, 3) := by decide +kernel
theorem dX8_isOwnHere_60 : decode cX8_isOwnHere 60 = .ok (.invokevirtual 313, 3) := by decide +kernel
theorem dX8_isOwnHere_63 : decode cX8_isOwnHere 63 = .ok (.ifCond .eq 7, 3) := by decide +kernel
theorem dX8_isOwnHere_66 : decode cX8_isOwnHere 66 = .ok (.iconst 1, 1) := by decide +kernel
theorem dX8_isOwnHere_67 : decode cX8_isOwnHere 67 = .ok (.goto 4, 3) := by decide +kernel
theorem dX8_isOwnHere_70 : decode cX8_isOwnHere 70 = .ok (.iconst 0, 1) := by decide +kernel
theorem dX8_isOwnHere_71 : decode cX8_isOwnHere 71 = .ok (.istore_n 1, 1) := by decide +kernel
theorem dX8_isOwnHere_72 : decode cX8_isOwnHere 72 = .ok (.iload_n 1, 1) := by decide +kernel
theorem dX8_isOwnHere_73 : decode cX8_isOwnHere 73 = .ok (.ifCond .ne 69, 3) := by decide +kernel
theorem dX8_isOwnHere_76 : decode cX8_isOwnHere 76 = .ok (.aload_n 0, 1) := by decide +kernel
theorem dX8_isOwnHere_77 : decode cX8_isOwnHere 77 = .ok (.aload_n 0, 1) := by decide +kernel
theorem dX8_isOwnHere_78 : decode cX8_isOwnHere 78 = .ok (.getfield 39, 3) := by decide +kernel
theorem dX8_isOwnHere_81 : decode cX8_isOwnHere 81 = .ok (.invokevirtual 313, 3) := by decide +kernel
theorem dX8_isOwnHere_84 : decode cX8_isOwnHere 84 = .ok (.ifCond .ne 58, 3) := by decide +kernel
theorem dX8_isOwnHere_87 : decode cX8_isOwnHere 87 = .ok (.aload_n 0, 1) := by decide +kernel
theorem dX8_isOwnHere_88 : decode cX8_isOwnHere 88 = .ok (.aload_n 0, 1) := by decide +kernel
theorem dX8_isOwnHere_89 : decode cX8_isOwnHere 89 = .ok (.getfield 42, 3) := by decide +kernel
theorem dX8_isOwnHere_92 : decode cX8_isOwnHere 92 = .ok (.invokevirtual 313, 3) := by decide +kernel
theorem dX8_isOwnHere_95 : decode cX8_isOwnHere 95 = .ok (.ifCond .ne 47, 3) := by decide +kernel
theorem dX8_isOwnHere_98 : decode cX8_isOwnHere 98 = .ok (.aload_n 0, 1) := by decide +kernel
theorem dX8_isOwnHere_99 : decode cX8_isOwnHere 99 = .ok (.aload_n 0, 1) := by decide +kernel
theorem dX8_isOwnHere_100 : decode cX8_isOwnHere 100 = .ok (.getfield 45, 3) := by decide +kernel
theorem dX8_isOwnHere_103 : decode cX8_isOwnHere 103 = .ok (.invokevirtual 313, 3) := by decide +kernel
theorem dX8_isOwnHere_106 : decode cX8_isOwnHere 106 = .ok (.ifCond .ne 36, 3) := by decide +kernel
theorem dX8_isOwnHere_109 : decode cX8_isOwnHere 109 = .ok (.aload_n 0, 1) := by decide +kernel
theorem dX8_isOwnHere_110 : decode cX8_isOwnHere 110 = .ok (.aload_n 0, 1) := by decide +kernel
theorem dX8_isOwnHere_111 : decode cX8_isOwnHere 111 = .ok (.getfield 48, 3) := by decide +kernel
theorem dX8_isOwnHere_114 : decode cX8_isOwnHere 114 = .ok (.invokevirtual 313, 3) := by decide +kernel
theorem dX8_isOwnHere_117 : decode cX8_isOwnHere 117 = .ok (.ifCond .ne 25, 3) := by decide +kernel
theorem dX8_isOwnHere_120 : decode cX8_isOwnHere 120 = .ok (.aload_n 0, 1) := by decide +kernel
theorem dX8_isOwnHere_121 : decode cX8_isOwnHere 121 = .ok (.aload_n 0, 1) := by decide +kernel
theorem dX8_isOwnHere_122 : decode cX8_isOwnHere 122 = .ok (.getfield 51, 3) := by decide +kernel
theorem dX8_isOwnHere_125 : decode cX8_isOwnHere 125 = .ok (.invokevirtual 313, 3) := by decide +kernel
theorem dX8_isOwnHere_128 : decode cX8_isOwnHere 128 = .ok (.ifCond .ne 14, 3) := by decide +kernel
theorem dX8_isOwnHere_131 : decode cX8_isOwnHere 131 = .ok (.aload_n 0, 1) := by decide +kernel
theorem dX8_isOwnHere_132 : decode cX8_isOwnHere 132 = .ok (.aload_n 0, 1) := by decide +kernel
theorem dX8_isOwnHere_133 : decode cX8_isOwnHere 133 = .ok (.getfield 54, 3) := by decide +kernel
theorem dX8_isOwnHere_136 : decode cX8_isOwnHere 136 = .ok (.invokevirtual 313, 3) := by decide +kernel
theorem dX8_isOwnHere_139 : decode cX8_isOwnHere 139 = .ok (.ifCond .eq 7, 3) := by decide +kernel
theorem dX8_isOwnHere_142 : decode cX8_isOwnHere 142 = .ok (.iconst 1, 1) := by decide +kernel
theorem dX8_isOwnHere_143 : decode cX8_isOwnHere 143 = .ok (.goto 4, 3) := by decide +kernel
theorem dX8_isOwnHere_146 : decode cX8_isOwnHere 146 = .ok (.iconst 0, 1) := by decide +kernel
theorem dX8_isOwnHere_147 : decode cX8_isOwnHere 147 = .ok (.istore_n 1, 1) := by decide +kernel
theorem dX8_isOwnHere_148 : decode cX8_isOwnHere 148 = .ok (.iload_n 1, 1) := by decide +kernel
theorem dX8_isOwnHere_149 : decode cX8_isOwnHere 149 = .ok (.ifCond .ne 69, 3) := by decide +kernel
theorem dX8_isOwnHere_152 : decode cX8_isOwnHere 152 = .ok (.aload_n 0, 1) := by decide +kernel
theorem dX8_isOwnHere_153 : decode cX8_isOwnHere 153 = .ok (.aload_n 0, 1) := by decide +kernel
theorem dX8_isOwnHere_154 : decode cX8_isOwnHere 154 = .ok (.getfield 57, 3) := by decide +kernel
theorem dX8_isOwnHere_157 : decode cX8_isOwnHere 157 = .ok (.invokevirtual 313, 3) := by decide +kernel
theorem dX8_isOwnHere_160 : decode cX8_isOwnHere 160 = .ok (.ifCond .ne 58, 3) := by decide +kernel
theorem dX8_isOwnHere_163 : decode cX8_isOwnHere 163 = .ok (.aload_n 0, 1) := by decide +kernel
theorem dX8_isOwnHere_164 : decode cX8_isOwnHere 164 = .ok (.aload_n 0, 1) := by decide +kernel
theorem dX8_isOwnHere_165 : decode cX8_isOwnHere 165 = .ok (.getfield 60, 3) := by decide +kernel
theorem dX8_isOwnHere_168 : decode cX8_isOwnHere 168 = .ok (.invokevirtual 313, 3) := by decide +kernel
theorem dX8_isOwnHere_171 : decode cX8_isOwnHere 171 = .ok (.ifCond .ne 47, 3) := by decide +kernel
theorem dX8_isOwnHere_174 : decode cX8_isOwnHere 174 = .ok (.aload_n 0, 1) := by decide +kernel
theorem dX8_isOwnHere_175 : decode cX8_isOwnHere 175 = .ok (.aload_n 0, 1) := by decide +kernel
theorem dX8_isOwnHere_176 : decode cX8_isOwnHere 176 = .ok (.getfield 63, 3) := by decide +kernel
theorem dX8_isOwnHere_179 : decode cX8_isOwnHere 179 = .ok (.invokevirtual 313, 3) := by decide +kernel
theorem dX8_isOwnHere_182 : decode cX8_isOwnHere 182 = .ok (.ifCond .ne 36, 3) := by decide +kernel
theorem dX8_isOwnHere_185 : decode cX8_isOwnHere 185 = .ok (.aload_n 0, 1) := by decide +kernel
theorem dX8_isOwnHere_186 : decode cX8_isOwnHere 186 = .ok (.aload_n 0, 1) := by decide +kernel
theorem dX8_isOwnHere_187 : decode cX8_isOwnHere 187 = .ok (.getfield 66, 3) := by decide +kernel
theorem dX8_isOwnHere_190 : decode cX8_isOwnHere 190 = .ok (.invokevirtual 313, 3) := by decide +kernel
theorem dX8_isOwnHere_193 : decode cX8_isOwnHere 193 = .ok (.ifCond .ne 25, 3) := by decide +kernel
theorem dX8_isOwnHere_196 : decode cX8_isOwnHere 196 = .ok (.aload_n 0, 1) := by decide +kernel
theorem dX8_isOwnHere_197 : decode cX8_isOwnHere 197 = .ok (.aload_n 0, 1) := by decide +kernel
theorem dX8_isOwnHere_198 : decode cX8_isOwnHere 198 = .ok (.getfield 69, 3) := by decide +kernel
theorem dX8_isOwnHere_201 : decode cX8_isOwnHere 201 = .ok (.invokevirtual 313, 3) := by decide +kernel
theorem dX8_isOwnHere_204 : decode cX8_isOwnHere 204 = .ok (.ifCond .ne 14, 3) := by decide +kernel
theorem dX8_isOwnHere_207 : decode cX8_isOwnHere 207 = .ok (.aload_n 0, 1) := by decide +kernel
theorem dX8_isOwnHere_208 : decode cX8_isOwnHere 208 = .ok (.aload_n 0, 1) := by decide +kernel
theorem dX8_isOwnHere_209 : decode cX8_isOwnHere 209 = .ok (.getfield 72, 3) := by decide +kernel
theorem dX8_isOwnHere_212 : decode cX8_isOwnHere 212 = .ok (.invokevirtual 313, 3) := by decide +kernel
theorem dX8_isOwnHere_215 : decode cX8_isOwnHere 215 = .ok (.ifCond .eq 7, 3) := by decide +kernel
theorem dX8_isOwnHere_218 : decode cX8_isOwnHere 218 = .ok (.iconst 1, 1) := by decide +kernel
theorem dX8_isOwnHere_219 : decode cX8_isOwnHere 219 = .ok (.goto 4, 3) := by decide +kernel
theorem dX8_isOwnHere_222 : decode cX8_isOwnHere 222 = .ok (.iconst 0, 1) := by decide +kernel
theorem dX8_isOwnHere_223 : decode cX8_isOwnHere 223 = .ok (.istore_n 1, 1) := by decide +kernel
theorem dX8_isOwnHere_224 : decode cX8_isOwnHere 224 = .ok (.iload_n 1, 1) := by decide +kernel
theorem dX8_isOwnHere_225 : decode cX8_isOwnHere 225 = .ok (.ifCond .ne 69, 3) := by decide +kernel
theorem dX8_isOwnHere_228 : decode cX8_isOwnHere 228 = .ok (.aload_n 0, 1) := by decide +kernel
theorem dX8_isOwnHere_229 : decode cX8_isOwnHere 229 = .ok (.aload_n 0, 1) := by decide +kernel
theorem dX8_isOwnHere_230 : decode cX8_isOwnHere 230 = .ok (.getfield 75, 3) := by decide +kernel
theorem dX8_isOwnHere_233 : decode cX8_isOwnHere 233 = .ok (.invokevirtual 313, 3) := by decide +kernel
theorem dX8_isOwnHere_236 : decode cX8_isOwnHere 236 = .ok (.ifCond .ne 58, 3) := by decide +kernel
theorem dX8_isOwnHere_239 : decode cX8_isOwnHere 239 = .ok (.aload_n 0, 1) := by decide +kernel
theorem dX8_isOwnHere_240 : decode cX8_isOwnHere 240 = .ok (.aload_n 0, 1) := by decide +kernel
theorem dX8_isOwnHere_241 : decode cX8_isOwnHere 241 = .ok (.getfield 78, 3) := by decide +kernel
theorem dX8_isOwnHere_244 : decode cX8_isOwnHere 244 = .ok (.invokevirtual 313, 3) := by decide +kernel
theorem dX8_isOwnHere_247 : decode cX8_isOwnHere 247 = .ok (.ifCond .ne 47, 3) := by decide +kernel
theorem dX8_isOwnHere_250 : decode cX8_isOwnHere 250 = .ok (.aload_n 0, 1) := by decide +kernel
theorem dX8_isOwnHere_251 : decode cX8_isOwnHere 251 = .ok (.aload_n 0, 1) := by decide +kernel
theorem dX8_isOwnHere_252 : decode cX8_isOwnHere 252 = .ok (.getfield 81, 3) := by decide +kernel
theorem dX8_isOwnHere_255 : decode cX8_isOwnHere 255 = .ok (.invokevirtual 313, 3) := by decide +kernel
theorem dX8_isOwnHere_258 : decode cX8_isOwnHere 258 = .ok (.ifCond .ne 36, 3) := by decide +kernel
theorem dX8_isOwnHere_261 : decode cX8_isOwnHere 261 = .ok (.aload_n 0, 1) := by decide +kernel
theorem dX8_isOwnHere_262 : decode cX8_isOwnHere 262 = .ok (.aload_n 0, 1) := by decide +kernel
theorem dX8_isOwnHere_263 : decode cX8_isOwnHere 263 = .ok (.getfield 84, 3) := by decide +kernel
theorem dX8_isOwnHere_266 : decode cX8_isOwnHere 266 = .ok (.invokevirtual 313, 3) := by decide +kernel
theorem dX8_isOwnHere_269 : decode cX8_isOwnHere 269 = .ok (.ifCond .ne 25, 3) := by decide +kernel
theorem dX8_isOwnHere_272 : decode cX8_isOwnHere 272 = .ok (.aload_n 0, 1) := by decide +kernel
theorem dX8_isOwnHere_273 : decode cX8_isOwnHere 273 = .ok (.aload_n 0, 1) := by decide +kernel
theorem dX8_isOwnHere_274 : decode cX8_isOwnHere 274 = .ok (.getfield 87, 3) := by decide +kernel
theorem dX8_isOwnHere_277 : decode cX8_isOwnHere 277 = .ok (.invokevirtual 313, 3) := by decide +kernel
theorem dX8_isOwnHere_280 : decode cX8_isOwnHere 280 = .ok (.ifCond .ne 14, 3) := by decide +kernel
theorem dX8_isOwnHere_283 : decode cX8_isOwnHere 283 = .ok (.aload_n 0, 1) := by decide +kernel
theorem dX8_isOwnHere_284 : decode cX8_isOwnHere 284 = .ok (.aload_n 0, 1) := by decide +kernel
theorem dX8_isOwnHere_285 : decode cX8_isOwnHere 285 = .ok (.getfield 90, 3) := by decide +kernel
theorem dX8_isOwnHere_288 : decode cX8_isOwnHere 288 = .ok (.invokevirtual 313, 3) := by decide +kernel
theorem dX8_isOwnHere_291 : decode cX8_isOwnHere 291 = .ok (.ifCond .eq 7, 3) := by decide +kernel
theorem dX8_isOwnHere_294 : decode cX8_isOwnHere 294 = .ok (.iconst 1, 1) := by decide +kernel
theorem dX8_isOwnHere_295 : decode cX8_isOwnHere 295 = .ok (.goto 4, 3) := by decide +kernel
theorem dX8_isOwnHere_298 : decode cX8_isOwnHere 298 = .ok (.iconst 0, 1) := by decide +kernel
theorem dX8_isOwnHere_299 : decode cX8_isOwnHere 299 = .ok (.istore_n 1, 1) := by decide +kernel
theorem dX8_isOwnHere_300 : decode cX8_isOwnHere 300 = .ok (.iload_n 1, 1) := by decide +kernel
theorem dX8_isOwnHere_301 : decode cX8_isOwnHere 301 = .ok (.ifCond .ne 69, 3) := by decide +kernel
theorem dX8_isOwnHere_304 : decode cX8_isOwnHere 304 = .ok (.aload_n 0, 1) := by decide +kernel
theorem dX8_isOwnHere_305 : decode cX8_isOwnHere 305 = .ok (.aload_n 0, 1) := by decide +kernel
theorem dX8_isOwnHere_306 : decode cX8_isOwnHere 306 = .ok (.getfield 93, 3) := by decide +kernel
theorem dX8_isOwnHere_309 : decode cX8_isOwnHere 309 = .ok (.invokevirtual 313, 3) := by decide +kernel
theorem dX8_isOwnHere_312 : decode cX8_isOwnHere 312 = .ok (.ifCond .ne 58, 3) := by decide +kernel
theorem dX8_isOwnHere_315 : decode cX8_isOwnHere 315 = .ok (.aload_n 0, 1) := by decide +kernel
theorem dX8_isOwnHere_316 : decode cX8_isOwnHere 316 = .ok (.aload_n 0, 1) := by decide +kernel
theorem dX8_isOwnHere_317 : decode cX8_isOwnHere 317 = .ok (.getfield 96, 3) := by decide +kernel
theorem dX8_isOwnHere_320 : decode cX8_isOwnHere 320 = .ok (.invokevirtual 313, 3) := by decide +kernel
theorem dX8_isOwnHere_323 : decode cX8_isOwnHere 323 = .ok (.ifCond .ne 47, 3) := by decide +kernel
theorem dX8_isOwnHere_326 : decode cX8_isOwnHere 326 = .ok (.aload_n 0, 1) := by decide +kernel
theorem dX8_isOwnHere_327 : decode cX8_isOwnHere 327 = .ok (.aload_n 0, 1) := by decide +kernel
theorem dX8_isOwnHere_328 : decode cX8_isOwnHere 328 = .ok (.getfield 99, 3) := by decide +kernel
theorem dX8_isOwnHere_331 : decode cX8_isOwnHere 331 = .ok (.invokevirtual 313, 3) := by decide +kernel
theorem dX8_isOwnHere_334 : decode cX8_isOwnHere 334 = .ok (.ifCond .ne 36, 3) := by decide +kernel
theorem dX8_isOwnHere_337 : decode cX8_isOwnHere 337 = .ok (.aload_n 0, 1) := by decide +kernel
theorem dX8_isOwnHere_338 : decode cX8_isOwnHere 338 = .ok (.aload_n 0, 1) := by decide +kernel
theorem dX8_isOwnHere_339 : decode cX8_isOwnHere 339 = .ok (.getfield 102, 3) := by decide +kernel
theorem dX8_isOwnHere_342 : decode cX8_isOwnHere 342 = .ok (.invokevirtual 313, 3) := by decide +kernel
theorem dX8_isOwnHere_345 : decode cX8_isOwnHere 345 = .ok (.ifCond .ne 25, 3) := by decide +kernel
theorem dX8_isOwnHere_348 : decode cX8_isOwnHere 348 = .ok (.aload_n 0, 1) := by decide +kernel
theorem dX8_isOwnHere_349 : decode cX8_isOwnHere 349 = .ok (.aload_n 0, 1) := by decide +kernel
theorem dX8_isOwnHere_350 : decode cX8_isOwnHere 350 = .ok (.getfield 105, 3) := by decide +kernel
theorem dX8_isOwnHere_353 : decode cX8_isOwnHere 353 = .ok (.invokevirtual 313, 3) := by decide +kernel
theorem dX8_isOwnHere_356 : decode cX8_isOwnHere 356 = .ok (.ifCond .ne 14, 3) := by decide +kernel
theorem dX8_isOwnHere_359 : decode cX8_isOwnHere 359 = .ok (.aload_n 0, 1) := by decide +kernel
theorem dX8_isOwnHere_360 : decode cX8_isOwnHere 360 = .ok (.aload_n 0, 1) := by decide +kernel
theorem dX8_isOwnHere_361 : decode cX8_isOwnHere 361 = .ok (.getfield 108, 3) := by decide +kernel
theorem dX8_isOwnHere_364 : decode cX8_isOwnHere 364 = .ok (.invokevirtual 313, 3) := by decide +kernel
theorem dX8_isOwnHere_367 : decode cX8_isOwnHere 367 = .ok (.ifCond .eq 7, 3) := by decide +kernel
theorem dX8_isOwnHere_370 : decode cX8_isOwnHere 370 = .ok (.iconst 1, 1) := by decide +kernel
theorem dX8_isOwnHere_371 : decode cX8_isOwnHere 371 = .ok (.goto 4, 3) := by decide +kernel
theorem dX8_isOwnHere_374 : decode cX8_isOwnHere 374 = .ok (.iconst 0, 1) := by decide +kernel
theorem dX8_isOwnHere_375 : decode cX8_isOwnHere 375 = .ok (.istore_n 1, 1) := by decide +kernel
theorem dX8_isOwnHere_376 : decode cX8_isOwnHere 376 = .ok (.iload_n 1, 1) := by decide +kernel
theorem dX8_isOwnHere_377 : decode cX8_isOwnHere 377 = .ok (.ireturn, 1) := by decide +kernel
theorem dX8_name_0 : decode cX8_name 0 = .ok (.aload_n 0, 1) := by decide +kernel
theorem dX8_name_1 : decode cX8_name 1 = .ok (.getfield 290, 3) := by decide +kernel
theorem dX8_name_4 : decode cX8_name 4 = .ok (.ifCond .eq 5, 3) := by decide +kernel
theorem dX8_name_7 : decode cX8_name 7 = .ok (.lconst 0, 1) := by decide +kernel
theorem dX8_name_8 : decode cX8_name 8 = .ok (.lreturn, 1) := by decide +kernel
theorem dX8_name_9 : decode cX8_name 9 = .ok (.aload_n 0, 1) := by decide +kernel
theorem dX8_name_10 : decode cX8_name 10 = .ok (.invokevirtual 302, 3) := by decide +kernel
theorem dX8_name_13 : decode cX8_name 13 = .ok (.invokestatic 306, 3) := by decide +kernel
theorem dX8_name_16 : decode cX8_name 16 = .ok (.ifCond .eq 21, 3) := by decide +kernel
theorem dX8_name_19 : decode cX8_name 19 = .ok (.aload_n 0, 1) := by decide +kernel
theorem dX8_name_20 : decode cX8_name 20 = .ok (.getfield 296, 3) := by decide +kernel
theorem dX8_name_23 : decode cX8_name 23 = .ok (.aload_n 0, 1) := by decide +kernel
theorem dX8_name_24 : decode cX8_name 24 = .ok (.getfield 310, 3) := by decide +kernel
theorem dX8_name_27 : decode cX8_name 27 = .ok (.if_icmp .eq 10, 3) := by decide +kernel
theorem dX8_name_30 : decode cX8_name 30 = .ok (.aload_n 0, 1) := by decide +kernel
theorem dX8_name_31 : decode cX8_name 31 = .ok (.invokevirtual 337, 3) := by decide +kernel
theorem dX8_name_34 : decode cX8_name 34 = .ok (.ifCond .eq 14, 3) := by decide +kernel
theorem dX8_name_37 : decode cX8_name 37 = .ok (.aload_n 0, 1) := by decide +kernel
theorem dX8_name_38 : decode cX8_name 38 = .ok (.iconst 1, 1) := by decide +kernel
theorem dX8_name_39 : decode cX8_name 39 = .ok (.aload_n 0, 1) := by decide +kernel
theorem dX8_name_40 : decode cX8_name 40 = .ok (.getfield 296, 3) := by decide +kernel
theorem dX8_name_43 : decode cX8_name 43 = .ok (.invokevirtual 320, 3) := by decide +kernel
theorem dX8_name_46 : decode cX8_name 46 = .ok (.lconst 0, 1) := by decide +kernel
theorem dX8_name_47 : decode cX8_name 47 = .ok (.lreturn, 1) := by decide +kernel
theorem dX8_name_48 : decode cX8_name 48 = .ok (.aload_n 0, 1) := by decide +kernel
theorem dX8_name_49 : decode cX8_name 49 = .ok (.aload_n 0, 1) := by decide +kernel
theorem dX8_name_50 : decode cX8_name 50 = .ok (.getfield 296, 3) := by decide +kernel
theorem dX8_name_53 : decode cX8_name 53 = .ok (.putfield 341, 3) := by decide +kernel
theorem dX8_name_56 : decode cX8_name 56 = .ok (.lconst 0, 1) := by decide +kernel
theorem dX8_name_57 : decode cX8_name 57 = .ok (.lstore_n 1, 1) := by decide +kernel
theorem dX8_name_58 : decode cX8_name 58 = .ok (.aload_n 0, 1) := by decide +kernel
theorem dX8_name_59 : decode cX8_name 59 = .ok (.getfield 296, 3) := by decide +kernel
theorem dX8_name_62 : decode cX8_name 62 = .ok (.aload_n 0, 1) := by decide +kernel
theorem dX8_name_63 : decode cX8_name 63 = .ok (.getfield 299, 3) := by decide +kernel
theorem dX8_name_66 : decode cX8_name 66 = .ok (.if_icmp .ge 79, 3) := by decide +kernel
theorem dX8_name_69 : decode cX8_name 69 = .ok (.aload_n 0, 1) := by decide +kernel
theorem dX8_name_70 : decode cX8_name 70 = .ok (.getfield 7, 3) := by decide +kernel
theorem dX8_name_73 : decode cX8_name 73 = .ok (.aload_n 0, 1) := by decide +kernel
theorem dX8_name_74 : decode cX8_name 74 = .ok (.getfield 296, 3) := by decide +kernel
theorem dX8_name_77 : decode cX8_name 77 = .ok (.iaload, 1) := by decide +kernel
theorem dX8_name_78 : decode cX8_name 78 = .ok (.invokestatic 306, 3) := by decide +kernel
theorem dX8_name_81 : decode cX8_name 81 = .ok (.ifCond .eq 64, 3) := by decide +kernel
theorem dX8_name_84 : decode cX8_name 84 = .ok (.aload_n 0, 1) := by decide +kernel
theorem dX8_name_85 : decode cX8_name 85 = .ok (.getfield 296, 3) := by decide +kernel
theorem dX8_name_88 : decode cX8_name 88 = .ok (.aload_n 0, 1) := by decide +kernel
theorem dX8_name_89 : decode cX8_name 89 = .ok (.getfield 341, 3) := by decide +kernel
theorem dX8_name_92 : decode cX8_name 92 = .ok (.isub, 1) := by decide +kernel
theorem dX8_name_93 : decode cX8_name 93 = .ok (.bipush 6, 2) := by decide +kernel
theorem dX8_name_95 : decode cX8_name 95 = .ok (.if_icmp .ne 14, 3) := by decide +kernel
theorem dX8_name_98 : decode cX8_name 98 = .ok (.aload_n 0, 1) := by decide +kernel
theorem dX8_name_99 : decode cX8_name 99 = .ok (.iconst 1, 1) := by decide +kernel
theorem dX8_name_100 : decode cX8_name 100 = .ok (.aload_n 0, 1) := by decide +kernel
theorem dX8_name_101 : decode cX8_name 101 = .ok (.getfield 296, 3) := by decide +kernel
theorem dX8_name_104 : decode cX8_name 104 = .ok (.invokevirtual 320, 3) := by decide +kernel
theorem dX8_name_107 : decode cX8_name 107 = .ok (.lconst 0, 1) := by decide +kernel
theorem dX8_name_108 : decode cX8_name 108 = .ok (.lreturn, 1) := by decide +kernel
theorem dX8_name_109 : decode cX8_name 109 = .ok (.ldc2_w 344, 3) := by decide +kernel
theorem dX8_name_112 : decode cX8_name 112 = .ok (.lload_n 1, 1) := by decide +kernel
theorem dX8_name_113 : decode cX8_name 113 = .ok (.lmul, 1) := by decide +kernel
theorem dX8_name_114 : decode cX8_name 114 = .ok (.aload_n 0, 1) := by decide +kernel
theorem dX8_name_115 : decode cX8_name 115 = .ok (.getfield 7, 3) := by decide +kernel
theorem dX8_name_118 : decode cX8_name 118 = .ok (.aload_n 0, 1) := by decide +kernel
theorem dX8_name_119 : decode cX8_name 119 = .ok (.getfield 296, 3) := by decide +kernel
theorem dX8_name_122 : decode cX8_name 122 = .ok (.iaload, 1) := by decide +kernel
theorem dX8_name_123 : decode cX8_name 123 = .ok (.i2l, 1) := by decide +kernel
theorem dX8_name_124 : decode cX8_name 124 = .ok (.ladd, 1) := by decide +kernel
theorem dX8_name_125 : decode cX8_name 125 = .ok (.ldc2_w 346, 3) := by decide +kernel
theorem dX8_name_128 : decode cX8_name 128 = .ok (.lsub, 1) := by decide +kernel
theorem dX8_name_129 : decode cX8_name 129 = .ok (.lconst 1, 1) := by decide +kernel
theorem dX8_name_130 : decode cX8_name 130 = .ok (.ladd, 1) := by decide +kernel
theorem dX8_name_131 : decode cX8_name 131 = .ok (.lstore_n 1, 1) := by decide +kernel
theorem dX8_name_132 : decode cX8_name 132 = .ok (.aload_n 0, 1) := by decide +kernel
theorem dX8_name_133 : decode cX8_name 133 = .ok (.dup, 1) := by decide +kernel
theorem dX8_name_134 : decode cX8_name 134 = .ok (.getfield 296, 3) := by decide +kernel
theorem dX8_name_137 : decode cX8_name 137 = .ok (.iconst 1, 1) := by decide +kernel
theorem dX8_name_138 : decode cX8_name 138 = .ok (.iadd, 1) := by decide +kernel
theorem dX8_name_139 : decode cX8_name 139 = .ok (.putfield 296, 3) := by decide +kernel
theorem dX8_name_142 : decode cX8_name 142 = .ok (.goto (-84), 3) := by decide +kernel
theorem dX8_name_145 : decode cX8_name 145 = .ok (.aload_n 0, 1) := by decide +kernel
theorem dX8_name_146 : decode cX8_name 146 = .ok (.aload_n 0, 1) := by decide +kernel
theorem dX8_name_147 : decode cX8_name 147 = .ok (.getfield 296, 3) := by decide +kernel
theorem dX8_name_150 : decode cX8_name 150 = .ok (.putfield 310, 3) := by decide +kernel
theorem dX8_name_153 : decode cX8_name 153 = .ok (.lload_n 1, 1) := by decide +kernel
theorem dX8_name_154 : decode cX8_name 154 = .ok (.lreturn, 1) := by decide +kernel
theorem dX8_isAllowed_0 : decode cX8_isAllowed 0 = .ok (.aload_n 0, 1) := by decide +kernel
theorem dX8_isAllowed_1 : decode cX8_isAllowed 1 = .ok (.getfield 348, 3) := by decide +kernel
theorem dX8_isAllowed_4 : decode cX8_isAllowed 4 = .ok (.ifCond .eq 17, 3) := by decide +kernel
theorem dX8_isAllowed_7 : decode cX8_isAllowed 7 = .ok (.iload_n 1, 1) := by decide +kernel
theorem dX8_isAllowed_8 : decode cX8_isAllowed 8 = .ok (.bipush 7, 2) := by decide +kernel
theorem dX8_isAllowed_10 : decode cX8_isAllowed 10 = .ok (.if_icmp .ge 7, 3) := by decide +kernel
theorem dX8_isAllowed_13 : decode cX8_isAllowed 13 = .ok (.iconst 1, 1) := by decide +kernel
theorem dX8_isAllowed_14 : decode cX8_isAllowed 14 = .ok (.goto 23, 3) := by decide +kernel
theorem dX8_isAllowed_17 : decode cX8_isAllowed 17 = .ok (.iconst 0, 1) := by decide +kernel
theorem dX8_isAllowed_18 : decode cX8_isAllowed 18 = .ok (.goto 19, 3) := by decide +kernel
theorem dX8_isAllowed_21 : decode cX8_isAllowed 21 = .ok (.iload_n 1, 1) := by decide +kernel
theorem dX8_isAllowed_22 : decode cX8_isAllowed 22 = .ok (.iconst 4, 1) := by decide +kernel
theorem dX8_isAllowed_23 : decode cX8_isAllowed 23 = .ok (.if_icmp .lt 9, 3) := by decide +kernel
theorem dX8_isAllowed_26 : decode cX8_isAllowed 26 = .ok (.iload_n 1, 1) := by decide +kernel
theorem dX8_isAllowed_27 : decode cX8_isAllowed 27 = .ok (.bipush 6, 2) := by decide +kernel
theorem dX8_isAllowed_29 : decode cX8_isAllowed 29 = .ok (.if_icmp .le 7, 3) := by decide +kernel
theorem dX8_isAllowed_32 : decode cX8_isAllowed 32 = .ok (.iconst 1, 1) := by decide +kernel
theorem dX8_isAllowed_33 : decode cX8_isAllowed 33 = .ok (.goto 4, 3) := by decide +kernel
theorem dX8_isAllowed_36 : decode cX8_isAllowed 36 = .ok (.iconst 0, 1) := by decide +kernel
theorem dX8_isAllowed_37 : decode cX8_isAllowed 37 = .ok (.ireturn, 1) := by decide +kernel
theorem dX8_newName_0 : decode cX8_newName 0 = .ok (.aload_n 0, 1) := by decide +kernel
theorem dX8_newName_1 : decode cX8_newName 1 = .ok (.invokevirtual 352, 3) := by decide +kernel
theorem dX8_newName_4 : decode cX8_newName 4 = .ok (.lstore_n 1, 1) := by decide +kernel
theorem dX8_newName_5 : decode cX8_newName 5 = .ok (.iconst 1, 1) := by decide +kernel
theorem dX8_newName_6 : decode cX8_newName 6 = .ok (.istore_n 3, 1) := by decide +kernel
theorem dX8_newName_7 : decode cX8_newName 7 = .ok (.iload_n 3, 1) := by decide +kernel
theorem dX8_newName_8 : decode cX8_newName 8 = .ok (.iconst 3, 1) := by decide +kernel
theorem dX8_newName_9 : decode cX8_newName 9 = .ok (.if_icmp .ge 64, 3) := by decide +kernel
theorem dX8_newName_12 : decode cX8_newName 12 = .ok (.iconst 0, 1) := by decide +kernel
theorem dX8_newName_13 : decode cX8_newName 13 = .ok (.istore 4, 2) := by decide +kernel
theorem dX8_newName_15 : decode cX8_newName 15 = .ok (.iload 4, 2) := by decide +kernel
theorem dX8_newName_17 : decode cX8_newName 17 = .ok (.aload_n 0, 1) := by decide +kernel
theorem dX8_newName_18 : decode cX8_newName 18 = .ok (.getfield 111, 3) := by decide +kernel
theorem dX8_newName_21 : decode cX8_newName 21 = .ok (.iload_n 3, 1) := by decide +kernel
theorem dX8_newName_22 : decode cX8_newName 22 = .ok (.iaload, 1) := by decide +kernel
theorem dX8_newName_23 : decode cX8_newName 23 = .ok (.if_icmp .ge 44, 3) := by decide +kernel
theorem dX8_newName_26 : decode cX8_newName 26 = .ok (.aload_n 0, 1) := by decide +kernel
theorem dX8_newName_27 : decode cX8_newName 27 = .ok (.getfield 290, 3) := by decide +kernel
theorem dX8_newName_30 : decode cX8_newName 30 = .ok (.ifCond .ne 31, 3) := by decide +kernel
theorem dX8_newName_33 : decode cX8_newName 33 = .ok (.aload_n 0, 1) := by decide +kernel
theorem dX8_newName_34 : decode cX8_newName 34 = .ok (.getfield 114, 3) := by decide +kernel
theorem dX8_newName_37 : decode cX8_newName 37 = .ok (.bipush 10, 2) := by decide +kernel
theorem dX8_newName_39 : decode cX8_newName 39 = .ok (.iload_n 3, 1) := by decide +kernel
theorem dX8_newName_40 : decode cX8_newName 40 = .ok (.iconst 1, 1) := by decide +kernel
theorem dX8_newName_41 : decode cX8_newName 41 = .ok (.isub, 1) := by decide +kernel
theorem dX8_newName_42 : decode cX8_newName 42 = .ok (.imul, 1) := by decide +kernel
theorem dX8_newName_43 : decode cX8_newName 43 = .ok (.iload 4, 2) := by decide +kernel
theorem dX8_newName_45 : decode cX8_newName 45 = .ok (.iadd, 1) := by decide +kernel
theorem dX8_newName_46 : decode cX8_newName 46 = .ok (.laload, 1) := by decide +kernel
theorem dX8_newName_47 : decode cX8_newName 47 = .ok (.lload_n 1, 1) := by decide +kernel
theorem dX8_newName_48 : decode cX8_newName 48 = .ok (.lcmp, 1) := by decide +kernel
theorem dX8_newName_49 : decode cX8_newName 49 = .ok (.ifCond .ne 12, 3) := by decide +kernel
theorem dX8_newName_52 : decode cX8_newName 52 = .ok (.aload_n 0, 1) := by decide +kernel
theorem dX8_newName_53 : decode cX8_newName 53 = .ok (.iconst 3, 1) := by decide +kernel
theorem dX8_newName_54 : decode cX8_newName 54 = .ok (.aload_n 0, 1) := by decide +kernel
theorem dX8_newName_55 : decode cX8_newName 55 = .ok (.getfield 341, 3) := by decide +kernel
theorem dX8_newName_58 : decode cX8_newName 58 = .ok (.invokevirtual 320, 3) := by decide +kernel
theorem dX8_newName_61 : decode cX8_newName 61 = .ok (.iinc 4 1, 3) := by decide +kernel
theorem dX8_newName_64 : decode cX8_newName 64 = .ok (.goto (-49), 3) := by decide +kernel
theorem dX8_newName_67 : decode cX8_newName 67 = .ok (.iinc 3 1, 3) := by decide +kernel
theorem dX8_newName_70 : decode cX8_newName 70 = .ok (.goto (-63), 3) := by decide +kernel
theorem dX8_newName_73 : decode cX8_newName 73 = .ok (.lload_n 1, 1) := by decide +kernel
theorem dX8_newName_74 : decode cX8_newName 74 = .ok (.lreturn, 1) := by decide +kernel
theorem dX8_lengthTold_0 : decode cX8_lengthTold 0 = .ok (.aload_n 0, 1) := by decide +kernel
theorem dX8_lengthTold_1 : decode cX8_lengthTold 1 = .ok (.aload_n 0, 1) := by decide +kernel
theorem dX8_lengthTold_2 : decode cX8_lengthTold 2 = .ok (.getfield 24, 3) := by decide +kernel
theorem dX8_lengthTold_5 : decode cX8_lengthTold 5 = .ok (.invokevirtual 313, 3) := by decide +kernel
theorem dX8_lengthTold_8 : decode cX8_lengthTold 8 = .ok (.ifCond .eq 24, 3) := by decide +kernel
theorem dX8_lengthTold_11 : decode cX8_lengthTold 11 = .ok (.aload_n 0, 1) := by decide +kernel
theorem dX8_lengthTold_12 : decode cX8_lengthTold 12 = .ok (.getfield 111, 3) := by decide +kernel
theorem dX8_lengthTold_15 : decode cX8_lengthTold 15 = .ok (.iconst 0, 1) := by decide +kernel
theorem dX8_lengthTold_16 : decode cX8_lengthTold 16 = .ok (.iaload, 1) := by decide +kernel
theorem dX8_lengthTold_17 : decode cX8_lengthTold 17 = .ok (.bipush 6, 2) := by decide +kernel
theorem dX8_lengthTold_19 : decode cX8_lengthTold 19 = .ok (.if_icmp .ne 13, 3) := by decide +kernel
theorem dX8_lengthTold_22 : decode cX8_lengthTold 22 = .ok (.aload_n 0, 1) := by decide +kernel
theorem dX8_lengthTold_23 : decode cX8_lengthTold 23 = .ok (.iconst 5, 1) := by decide +kernel
theorem dX8_lengthTold_24 : decode cX8_lengthTold 24 = .ok (.aload_n 0, 1) := by decide +kernel
theorem dX8_lengthTold_25 : decode cX8_lengthTold 25 = .ok (.getfield 296, 3) := by decide +kernel
theorem dX8_lengthTold_28 : decode cX8_lengthTold 28 = .ok (.invokevirtual 320, 3) := by decide +kernel
theorem dX8_lengthTold_31 : decode cX8_lengthTold 31 = .ok (.return_, 1) := by decide +kernel
theorem dX8_lengthTold_32 : decode cX8_lengthTold 32 = .ok (.aload_n 0, 1) := by decide +kernel
theorem dX8_lengthTold_33 : decode cX8_lengthTold 33 = .ok (.aload_n 0, 1) := by decide +kernel
theorem dX8_lengthTold_34 : decode cX8_lengthTold 34 = .ok (.getfield 24, 3) := by decide +kernel
theorem dX8_lengthTold_37 : decode cX8_lengthTold 37 = .ok (.invokevirtual 356, 3) := by decide +kernel
theorem dX8_lengthTold_40 : decode cX8_lengthTold 40 = .ok (.aload_n 0, 1) := by decide +kernel
theorem dX8_lengthTold_41 : decode cX8_lengthTold 41 = .ok (.iconst 1, 1) := by decide +kernel
theorem dX8_lengthTold_42 : decode cX8_lengthTold 42 = .ok (.bipush 99, 2) := by decide +kernel
theorem dX8_lengthTold_44 : decode cX8_lengthTold 44 = .ok (.invokevirtual 360, 3) := by decide +kernel
theorem dX8_lengthTold_47 : decode cX8_lengthTold 47 = .ok (.istore_n 1, 1) := by decide +kernel
theorem dX8_lengthTold_48 : decode cX8_lengthTold 48 = .ok (.iconst 0, 1) := by decide +kernel
theorem dX8_lengthTold_49 : decode cX8_lengthTold 49 = .ok (.istore_n 2, 1) := by decide +kernel
theorem dX8_lengthTold_50 : decode cX8_lengthTold 50 = .ok (.iload_n 2, 1) := by decide +kernel
theorem dX8_lengthTold_51 : decode cX8_lengthTold 51 = .ok (.aload_n 0, 1) := by decide +kernel
theorem dX8_lengthTold_52 : decode cX8_lengthTold 52 = .ok (.getfield 111, 3) := by decide +kernel
theorem dX8_lengthTold_55 : decode cX8_lengthTold 55 = .ok (.iconst 0, 1) := by decide +kernel
theorem dX8_lengthTold_56 : decode cX8_lengthTold 56 = .ok (.iaload, 1) := by decide +kernel
theorem dX8_lengthTold_57 : decode cX8_lengthTold 57 = .ok (.if_icmp .ge 35, 3) := by decide +kernel
theorem dX8_lengthTold_60 : decode cX8_lengthTold 60 = .ok (.aload_n 0, 1) := by decide +kernel
theorem dX8_lengthTold_61 : decode cX8_lengthTold 61 = .ok (.getfield 290, 3) := by decide +kernel
theorem dX8_lengthTold_64 : decode cX8_lengthTold 64 = .ok (.ifCond .ne 22, 3) := by decide +kernel
theorem dX8_lengthTold_67 : decode cX8_lengthTold 67 = .ok (.aload_n 0, 1) := by decide +kernel
theorem dX8_lengthTold_68 : decode cX8_lengthTold 68 = .ok (.getfield 118, 3) := by decide +kernel
theorem dX8_lengthTold_71 : decode cX8_lengthTold 71 = .ok (.iload_n 2, 1) := by decide +kernel
theorem dX8_lengthTold_72 : decode cX8_lengthTold 72 = .ok (.iaload, 1) := by decide +kernel
theorem dX8_lengthTold_73 : decode cX8_lengthTold 73 = .ok (.iload_n 1, 1) := by decide +kernel
theorem dX8_lengthTold_74 : decode cX8_lengthTold 74 = .ok (.if_icmp .ne 12, 3) := by decide +kernel
theorem dX8_lengthTold_77 : decode cX8_lengthTold 77 = .ok (.aload_n 0, 1) := by decide +kernel
theorem dX8_lengthTold_78 : decode cX8_lengthTold 78 = .ok (.iconst 2, 1) := by decide +kernel
theorem dX8_lengthTold_79 : decode cX8_lengthTold 79 = .ok (.aload_n 0, 1) := by decide +kernel
theorem dX8_lengthTold_80 : decode cX8_lengthTold 80 = .ok (.getfield 330, 3) := by decide +kernel
theorem dX8_lengthTold_83 : decode cX8_lengthTold 83 = .ok (.invokevirtual 320, 3) := by decide +kernel
theorem dX8_lengthTold_86 : decode cX8_lengthTold 86 = .ok (.iinc 2 1, 3) := by decide +kernel
theorem dX8_lengthTold_89 : decode cX8_lengthTold 89 = .ok (.goto (-39), 3) := by decide +kernel
theorem dX8_lengthTold_92 : decode cX8_lengthTold 92 = .ok (.aload_n 0, 1) := by decide +kernel
theorem dX8_lengthTold_93 : decode cX8_lengthTold 93 = .ok (.aload_n 0, 1) := by decide +kernel
theorem dX8_lengthTold_94 : decode cX8_lengthTold 94 = .ok (.getfield 27, 3) := by decide +kernel
theorem dX8_lengthTold_97 : decode cX8_lengthTold 97 = .ok (.invokevirtual 356, 3) := by decide +kernel
theorem dX8_lengthTold_100 : decode cX8_lengthTold 100 = .ok (.aload_n 0, 1) := by decide +kernel
theorem dX8_lengthTold_101 : decode cX8_lengthTold 101 = .ok (.iconst 1, 1) := by decide +kernel
theorem dX8_lengthTold_102 : decode cX8_lengthTold 102 = .ok (.bipush 100, 2) := by decide +kernel
theorem dX8_lengthTold_104 : decode cX8_lengthTold 104 = .ok (.invokevirtual 360, 3) := by decide +kernel
theorem dX8_lengthTold_107 : decode cX8_lengthTold 107 = .ok (.istore_n 2, 1) := by decide +kernel
theorem dX8_lengthTold_108 : decode cX8_lengthTold 108 = .ok (.aload_n 0, 1) := by decide +kernel
theorem dX8_lengthTold_109 : decode cX8_lengthTold 109 = .ok (.getfield 290, 3) := by decide +kernel
theorem dX8_lengthTold_112 : decode cX8_lengthTold 112 = .ok (.ifCond .ne 23, 3) := by decide +kernel
theorem dX8_lengthTold_115 : decode cX8_lengthTold 115 = .ok (.aload_n 0, 1) := by decide +kernel
theorem dX8_lengthTold_116 : decode cX8_lengthTold 116 = .ok (.invokevirtual 364, 3) := by decide +kernel
theorem dX8_lengthTold_119 : decode cX8_lengthTold 119 = .ok (.iload_n 2, 1) := by decide +kernel
theorem dX8_lengthTold_120 : decode cX8_lengthTold 120 = .ok (.iadd, 1) := by decide +kernel
theorem dX8_lengthTold_121 : decode cX8_lengthTold 121 = .ok (.bipush 100, 2) := by decide +kernel
theorem dX8_lengthTold_123 : decode cX8_lengthTold 123 = .ok (.if_icmp .le 12, 3) := by decide +kernel
theorem dX8_lengthTold_126 : decode cX8_lengthTold 126 = .ok (.aload_n 0, 1) := by decide +kernel
theorem dX8_lengthTold_127 : decode cX8_lengthTold 127 = .ok (.iconst 2, 1) := by decide +kernel
theorem dX8_lengthTold_128 : decode cX8_lengthTold 128 = .ok (.aload_n 0, 1) := by decide +kernel
theorem dX8_lengthTold_129 : decode cX8_lengthTold 129 = .ok (.getfield 330, 3) := by decide +kernel
theorem dX8_lengthTold_132 : decode cX8_lengthTold 132 = .ok (.invokevirtual 320, 3) := by decide +kernel
theorem dX8_lengthTold_135 : decode cX8_lengthTold 135 = .ok (.aload_n 0, 1) := by decide +kernel
theorem dX8_lengthTold_136 : decode cX8_lengthTold 136 = .ok (.getfield 290, 3) := by decide +kernel
theorem dX8_lengthTold_139 : decode cX8_lengthTold 139 = .ok (.ifCond .eq 4, 3) := by decide +kernel
theorem dX8_lengthTold_142 : decode cX8_lengthTold 142 = .ok (.return_, 1) := by decide +kernel
theorem dX8_lengthTold_143 : decode cX8_lengthTold 143 = .ok (.aload_n 0, 1) := by decide +kernel
theorem dX8_lengthTold_144 : decode cX8_lengthTold 144 = .ok (.getfield 118, 3) := by decide +kernel
theorem dX8_lengthTold_147 : decode cX8_lengthTold 147 = .ok (.aload_n 0, 1) := by decide +kernel
theorem dX8_lengthTold_148 : decode cX8_lengthTold 148 = .ok (.getfield 111, 3) := by decide +kernel
theorem dX8_lengthTold_151 : decode cX8_lengthTold 151 = .ok (.iconst 0, 1) := by decide +kernel
theorem dX8_lengthTold_152 : decode cX8_lengthTold 152 = .ok (.iaload, 1) := by decide +kernel
theorem dX8_lengthTold_153 : decode cX8_lengthTold 153 = .ok (.iload_n 1, 1) := by decide +kernel
theorem dX8_lengthTold_154 : decode cX8_lengthTold 154 = .ok (.iastore, 1) := by decide +kernel
theorem dX8_lengthTold_155 : decode cX8_lengthTold 155 = .ok (.aload_n 0, 1) := by decide +kernel
theorem dX8_lengthTold_156 : decode cX8_lengthTold 156 = .ok (.getfield 121, 3) := by decide +kernel
theorem dX8_lengthTold_159 : decode cX8_lengthTold 159 = .ok (.aload_n 0, 1) := by decide +kernel
theorem dX8_lengthTold_160 : decode cX8_lengthTold 160 = .ok (.getfield 111, 3) := by decide +kernel
theorem dX8_lengthTold_163 : decode cX8_lengthTold 163 = .ok (.iconst 0, 1) := by decide +kernel
theorem dX8_lengthTold_164 : decode cX8_lengthTold 164 = .ok (.iaload, 1) := by decide +kernel
theorem dX8_lengthTold_165 : decode cX8_lengthTold 165 = .ok (.iload_n 2, 1) := by decide +kernel
theorem dX8_lengthTold_166 : decode cX8_lengthTold 166 = .ok (.iastore, 1) := by decide +kernel
theorem dX8_lengthTold_167 : decode cX8_lengthTold 167 = .ok (.aload_n 0, 1) := by decide +kernel
theorem dX8_lengthTold_168 : decode cX8_lengthTold 168 = .ok (.getfield 111, 3) := by decide +kernel
theorem dX8_lengthTold_171 : decode cX8_lengthTold 171 = .ok (.iconst 0, 1) := by decide +kernel
theorem dX8_lengthTold_172 : decode cX8_lengthTold 172 = .ok (.dup2, 1) := by decide +kernel
theorem dX8_lengthTold_173 : decode cX8_lengthTold 173 = .ok (.iaload, 1) := by decide +kernel
theorem dX8_lengthTold_174 : decode cX8_lengthTold 174 = .ok (.iconst 1, 1) := by decide +kernel
theorem dX8_lengthTold_175 : decode cX8_lengthTold 175 = .ok (.iadd, 1) := by decide +kernel
theorem dX8_lengthTold_176 : decode cX8_lengthTold 176 = .ok (.iastore, 1) := by decide +kernel
theorem dX8_lengthTold_177 : decode cX8_lengthTold 177 = .ok (.return_, 1) := by decide +kernel
theorem dX8_allOdds_0 : decode cX8_allOdds 0 = .ok (.iconst 0, 1) := by decide +kernel
theorem dX8_allOdds_1 : decode cX8_allOdds 1 = .ok (.istore_n 1, 1) := by decide +kernel
theorem dX8_allOdds_2 : decode cX8_allOdds 2 = .ok (.iconst 0, 1) := by decide +kernel
theorem dX8_allOdds_3 : decode cX8_allOdds 3 = .ok (.istore_n 2, 1) := by decide +kernel
theorem dX8_allOdds_4 : decode cX8_allOdds 4 = .ok (.iload_n 2, 1) := by decide +kernel
theorem dX8_allOdds_5 : decode cX8_allOdds 5 = .ok (.aload_n 0, 1) := by decide +kernel
theorem dX8_allOdds_6 : decode cX8_allOdds 6 = .ok (.getfield 111, 3) := by decide +kernel
theorem dX8_allOdds_9 : decode cX8_allOdds 9 = .ok (.iconst 0, 1) := by decide +kernel
theorem dX8_allOdds_10 : decode cX8_allOdds 10 = .ok (.iaload, 1) := by decide +kernel
theorem dX8_allOdds_11 : decode cX8_allOdds 11 = .ok (.if_icmp .ge 18, 3) := by decide +kernel
theorem dX8_allOdds_14 : decode cX8_allOdds 14 = .ok (.iload_n 1, 1) := by decide +kernel
theorem dX8_allOdds_15 : decode cX8_allOdds 15 = .ok (.aload_n 0, 1) := by decide +kernel
theorem dX8_allOdds_16 : decode cX8_allOdds 16 = .ok (.getfield 121, 3) := by decide +kernel
theorem dX8_allOdds_19 : decode cX8_allOdds 19 = .ok (.iload_n 2, 1) := by decide +kernel
theorem dX8_allOdds_20 : decode cX8_allOdds 20 = .ok (.iaload, 1) := by decide +kernel
theorem dX8_allOdds_21 : decode cX8_allOdds 21 = .ok (.iadd, 1) := by decide +kernel
theorem dX8_allOdds_22 : decode cX8_allOdds 22 = .ok (.istore_n 1, 1) := by decide +kernel
theorem dX8_allOdds_23 : decode cX8_allOdds 23 = .ok (.iinc 2 1, 3) := by decide +kernel
theorem dX8_allOdds_26 : decode cX8_allOdds 26 = .ok (.goto (-22), 3) := by decide +kernel
theorem dX8_allOdds_29 : decode cX8_allOdds 29 = .ok (.iload_n 1, 1) := by decide +kernel
theorem dX8_allOdds_30 : decode cX8_allOdds 30 = .ok (.ireturn, 1) := by decide +kernel
theorem dX8_bobbinTold_0 : decode cX8_bobbinTold 0 = .ok (.aload_n 0, 1) := by decide +kernel
theorem dX8_bobbinTold_1 : decode cX8_bobbinTold 1 = .ok (.aload_n 0, 1) := by decide +kernel
theorem dX8_bobbinTold_2 : decode cX8_bobbinTold 2 = .ok (.getfield 20, 3) := by decide +kernel
theorem dX8_bobbinTold_5 : decode cX8_bobbinTold 5 = .ok (.invokevirtual 356, 3) := by decide +kernel
theorem dX8_bobbinTold_8 : decode cX8_bobbinTold 8 = .ok (.aload_n 0, 1) := by decide +kernel
theorem dX8_bobbinTold_9 : decode cX8_bobbinTold 9 = .ok (.invokevirtual 367, 3) := by decide +kernel
theorem dX8_bobbinTold_12 : decode cX8_bobbinTold 12 = .ok (.aload_n 0, 1) := by decide +kernel
theorem dX8_bobbinTold_13 : decode cX8_bobbinTold 13 = .ok (.getfield 290, 3) := by decide +kernel
theorem dX8_bobbinTold_16 : decode cX8_bobbinTold 16 = .ok (.ifCond .ne 10, 3) := by decide +kernel
theorem dX8_bobbinTold_19 : decode cX8_bobbinTold 19 = .ok (.aload_n 0, 1) := by decide +kernel
theorem dX8_bobbinTold_20 : decode cX8_bobbinTold 20 = .ok (.invokevirtual 370, 3) := by decide +kernel
theorem dX8_bobbinTold_23 : decode cX8_bobbinTold 23 = .ok (.ifCond .ne (-15), 3) := by decide +kernel
theorem dX8_bobbinTold_26 : decode cX8_bobbinTold 26 = .ok (.aload_n 0, 1) := by decide +kernel
theorem dX8_bobbinTold_27 : decode cX8_bobbinTold 27 = .ok (.getfield 290, 3) := by decide +kernel
theorem dX8_bobbinTold_30 : decode cX8_bobbinTold 30 = .ok (.ifCond .ne 21, 3) := by decide +kernel
theorem dX8_bobbinTold_33 : decode cX8_bobbinTold 33 = .ok (.aload_n 0, 1) := by decide +kernel
theorem dX8_bobbinTold_34 : decode cX8_bobbinTold 34 = .ok (.invokevirtual 364, 3) := by decide +kernel
theorem dX8_bobbinTold_37 : decode cX8_bobbinTold 37 = .ok (.bipush 100, 2) := by decide +kernel
theorem dX8_bobbinTold_39 : decode cX8_bobbinTold 39 = .ok (.if_icmp .ge 12, 3) := by decide +kernel
theorem dX8_bobbinTold_42 : decode cX8_bobbinTold 42 = .ok (.aload_n 0, 1) := by decide +kernel
theorem dX8_bobbinTold_43 : decode cX8_bobbinTold 43 = .ok (.iconst 2, 1) := by decide +kernel
theorem dX8_bobbinTold_44 : decode cX8_bobbinTold 44 = .ok (.aload_n 0, 1) := by decide +kernel
theorem dX8_bobbinTold_45 : decode cX8_bobbinTold 45 = .ok (.getfield 330, 3) := by decide +kernel
theorem dX8_bobbinTold_48 : decode cX8_bobbinTold 48 = .ok (.invokevirtual 320, 3) := by decide +kernel
theorem dX8_bobbinTold_51 : decode cX8_bobbinTold 51 = .ok (.aload_n 0, 1) := by decide +kernel
theorem dX8_bobbinTold_52 : decode cX8_bobbinTold 52 = .ok (.bipush 59, 2) := by decide +kernel
theorem dX8_bobbinTold_54 : decode cX8_bobbinTold 54 = .ok (.invokevirtual 373, 3) := by decide +kernel
theorem dX8_bobbinTold_57 : decode cX8_bobbinTold 57 = .ok (.return_, 1) := by decide +kernel
theorem dX8_isWordHere_0 : decode cX8_isWordHere 0 = .ok (.aload_n 0, 1) := by decide +kernel
theorem dX8_isWordHere_1 : decode cX8_isWordHere 1 = .ok (.invokevirtual 302, 3) := by decide +kernel
theorem dX8_isWordHere_4 : decode cX8_isWordHere 4 = .ok (.invokestatic 306, 3) := by decide +kernel
theorem dX8_isWordHere_7 : decode cX8_isWordHere 7 = .ok (.ifCond .eq 29, 3) := by decide +kernel
theorem dX8_isWordHere_10 : decode cX8_isWordHere 10 = .ok (.aload_n 0, 1) := by decide +kernel
theorem dX8_isWordHere_11 : decode cX8_isWordHere 11 = .ok (.getfield 296, 3) := by decide +kernel
theorem dX8_isWordHere_14 : decode cX8_isWordHere 14 = .ok (.aload_n 0, 1) := by decide +kernel
theorem dX8_isWordHere_15 : decode cX8_isWordHere 15 = .ok (.getfield 310, 3) := by decide +kernel
theorem dX8_isWordHere_18 : decode cX8_isWordHere 18 = .ok (.if_icmp .eq 18, 3) := by decide +kernel
theorem dX8_isWordHere_21 : decode cX8_isWordHere 21 = .ok (.aload_n 0, 1) := by decide +kernel
theorem dX8_isWordHere_22 : decode cX8_isWordHere 22 = .ok (.aload_n 0, 1) := by decide +kernel
theorem dX8_isWordHere_23 : decode cX8_isWordHere 23 = .ok (.getfield 24, 3) := by decide +kernel
theorem dX8_isWordHere_26 : decode cX8_isWordHere 26 = .ok (.invokevirtual 313, 3) := by decide +kernel
theorem dX8_isWordHere_29 : decode cX8_isWordHere 29 = .ok (.ifCond .eq 7, 3) := by decide +kernel
theorem dX8_isWordHere_32 : decode cX8_isWordHere 32 = .ok (.iconst 1, 1) := by decide +kernel
theorem dX8_isWordHere_33 : decode cX8_isWordHere 33 = .ok (.goto 4, 3) := by decide +kernel
theorem dX8_isWordHere_36 : decode cX8_isWordHere 36 = .ok (.iconst 0, 1) := by decide +kernel
theorem dX8_isWordHere_37 : decode cX8_isWordHere 37 = .ok (.ireturn, 1) := by decide +kernel
theorem dX8_placeTold_0 : decode cX8_placeTold 0 = .ok (.aload_n 0, 1) := by decide +kernel
theorem dX8_placeTold_1 : decode cX8_placeTold 1 = .ok (.getfield 124, 3) := by decide +kernel
theorem dX8_placeTold_4 : decode cX8_placeTold 4 = .ok (.iload_n 1, 1) := by decide +kernel
theorem dX8_placeTold_5 : decode cX8_placeTold 5 = .ok (.iconst 2, 1) := by decide +kernel
theorem dX8_placeTold_6 : decode cX8_placeTold 6 = .ok (.iadd, 1) := by decide +kernel
theorem dX8_placeTold_7 : decode cX8_placeTold 7 = .ok (.iaload, 1) := by decide +kernel
theorem dX8_placeTold_8 : decode cX8_placeTold 8 = .ok (.iconst 4, 1) := by decide +kernel
theorem dX8_placeTold_9 : decode cX8_placeTold 9 = .ok (.if_icmp .ne 13, 3) := by decide +kernel
theorem dX8_placeTold_12 : decode cX8_placeTold 12 = .ok (.aload_n 0, 1) := by decide +kernel
theorem dX8_placeTold_13 : decode cX8_placeTold 13 = .ok (.iconst 5, 1) := by decide +kernel
theorem dX8_placeTold_14 : decode cX8_placeTold 14 = .ok (.aload_n 0, 1) := by decide +kernel
theorem dX8_placeTold_15 : decode cX8_placeTold 15 = .ok (.getfield 296, 3) := by decide +kernel
theorem dX8_placeTold_18 : decode cX8_placeTold 18 = .ok (.invokevirtual 320, 3) := by decide +kernel
theorem dX8_placeTold_21 : decode cX8_placeTold 21 = .ok (.return_, 1) := by decide +kernel
theorem dX8_placeTold_22 : decode cX8_placeTold 22 = .ok (.aload_n 0, 1) := by decide +kernel
theorem dX8_placeTold_23 : decode cX8_placeTold 23 = .ok (.iconst 1, 1) := by decide +kernel
theorem dX8_placeTold_24 : decode cX8_placeTold 24 = .ok (.sipush 9999, 3) := by decide +kernel
theorem dX8_placeTold_27 : decode cX8_placeTold 27 = .ok (.invokevirtual 360, 3) := by decide +kernel
theorem dX8_placeTold_30 : decode cX8_placeTold 30 = .ok (.istore_n 2, 1) := by decide +kernel
theorem dX8_placeTold_31 : decode cX8_placeTold 31 = .ok (.aload_n 0, 1) := by decide +kernel
theorem dX8_placeTold_32 : decode cX8_placeTold 32 = .ok (.getfield 124, 3) := by decide +kernel
theorem dX8_placeTold_35 : decode cX8_placeTold 35 = .ok (.iload_n 1, 1) := by decide +kernel
theorem dX8_placeTold_36 : decode cX8_placeTold 36 = .ok (.iconst 2, 1) := by decide +kernel
theorem dX8_placeTold_37 : decode cX8_placeTold 37 = .ok (.iadd, 1) := by decide +kernel
theorem dX8_placeTold_38 : decode cX8_placeTold 38 = .ok (.iaload, 1) := by decide +kernel
theorem dX8_placeTold_39 : decode cX8_placeTold 39 = .ok (.ifCond .ne 7, 3) := by decide +kernel
theorem dX8_placeTold_42 : decode cX8_placeTold 42 = .ok (.iconst 0, 1) := by decide +kernel
theorem dX8_placeTold_43 : decode cX8_placeTold 43 = .ok (.goto 20, 3) := by decide +kernel
theorem dX8_placeTold_46 : decode cX8_placeTold 46 = .ok (.aload_n 0, 1) := by decide +kernel
theorem dX8_placeTold_47 : decode cX8_placeTold 47 = .ok (.getfield 124, 3) := by decide +kernel
theorem dX8_placeTold_50 : decode cX8_placeTold 50 = .ok (.iload_n 1, 1) := by decide +kernel
theorem dX8_placeTold_51 : decode cX8_placeTold 51 = .ok (.iconst 2, 1) := by decide +kernel
theorem dX8_placeTold_52 : decode cX8_placeTold 52 = .ok (.iadd, 1) := by decide +kernel
theorem dX8_placeTold_53 : decode cX8_placeTold 53 = .ok (.aload_n 0, 1) := by decide +kernel
theorem dX8_placeTold_54 : decode cX8_placeTold 54 = .ok (.getfield 124, 3) := by decide +kernel
theorem dX8_placeTold_57 : decode cX8_placeTold 57 = .ok (.iload_n 1, 1) := by decide +kernel
theorem dX8_placeTold_58 : decode cX8_placeTold 58 = .ok (.iconst 2, 1) := by decide +kernel
theorem dX8_placeTold_59 : decode cX8_placeTold 59 = .ok (.iadd, 1) := by decide +kernel
theorem dX8_placeTold_60 : decode cX8_placeTold 60 = .ok (.iaload, 1) := by decide +kernel
theorem dX8_placeTold_61 : decode cX8_placeTold 61 = .ok (.iadd, 1) := by decide +kernel
theorem dX8_placeTold_62 : decode cX8_placeTold 62 = .ok (.iaload, 1) := by decide +kernel
theorem dX8_placeTold_63 : decode cX8_placeTold 63 = .ok (.istore_n 3, 1) := by decide +kernel
theorem dX8_placeTold_64 : decode cX8_placeTold 64 = .ok (.aload_n 0, 1) := by decide +kernel
theorem dX8_placeTold_65 : decode cX8_placeTold 65 = .ok (.getfield 290, 3) := by decide +kernel
theorem dX8_placeTold_68 : decode cX8_placeTold 68 = .ok (.ifCond .ne 27, 3) := by decide +kernel
theorem dX8_placeTold_71 : decode cX8_placeTold 71 = .ok (.iload_n 2, 1) := by decide +kernel
theorem dX8_placeTold_72 : decode cX8_placeTold 72 = .ok (.iload_n 3, 1) := by decide +kernel
theorem dX8_placeTold_73 : decode cX8_placeTold 73 = .ok (.if_icmp .le 13, 3) := by decide +kernel
theorem dX8_placeTold_76 : decode cX8_placeTold 76 = .ok (.iload_n 2, 1) := by decide +kernel
theorem dX8_placeTold_77 : decode cX8_placeTold 77 = .ok (.aload_n 0, 1) := by decide +kernel
theorem dX8_placeTold_78 : decode cX8_placeTold 78 = .ok (.getfield 124, 3) := by decide +kernel
theorem dX8_placeTold_81 : decode cX8_placeTold 81 = .ok (.iload_n 1, 1) := by decide +kernel
theorem dX8_placeTold_82 : decode cX8_placeTold 82 = .ok (.iaload, 1) := by decide +kernel
theorem dX8_placeTold_83 : decode cX8_placeTold 83 = .ok (.if_icmp .lt 12, 3) := by decide +kernel
theorem dX8_placeTold_86 : decode cX8_placeTold 86 = .ok (.aload_n 0, 1) := by decide +kernel
theorem dX8_placeTold_87 : decode cX8_placeTold 87 = .ok (.iconst 2, 1) := by decide +kernel
theorem dX8_placeTold_88 : decode cX8_placeTold 88 = .ok (.aload_n 0, 1) := by decide +kernel
theorem dX8_placeTold_89 : decode cX8_placeTold 89 = .ok (.getfield 330, 3) := by decide +kernel
theorem dX8_placeTold_92 : decode cX8_placeTold 92 = .ok (.invokevirtual 320, 3) := by decide +kernel
theorem dX8_placeTold_95 : decode cX8_placeTold 95 = .ok (.aload_n 0, 1) := by decide +kernel
theorem dX8_placeTold_96 : decode cX8_placeTold 96 = .ok (.getfield 290, 3) := by decide +kernel
theorem dX8_placeTold_99 : decode cX8_placeTold 99 = .ok (.ifCond .eq 4, 3) := by decide +kernel
theorem dX8_placeTold_102 : decode cX8_placeTold 102 = .ok (.return_, 1) := by decide +kernel
theorem dX8_placeTold_103 : decode cX8_placeTold 103 = .ok (.aload_n 0, 1) := by decide +kernel
theorem dX8_placeTold_104 : decode cX8_placeTold 104 = .ok (.getfield 124, 3) := by decide +kernel
theorem dX8_placeTold_107 : decode cX8_placeTold 107 = .ok (.iload_n 1, 1) := by decide +kernel
theorem dX8_placeTold_108 : decode cX8_placeTold 108 = .ok (.iconst 2, 1) := by decide +kernel
theorem dX8_placeTold_109 : decode cX8_placeTold 109 = .ok (.iadd, 1) := by decide +kernel
theorem dX8_placeTold_110 : decode cX8_placeTold 110 = .ok (.dup2, 1) := by decide +kernel
theorem dX8_placeTold_111 : decode cX8_placeTold 111 = .ok (.iaload, 1) := by decide +kernel
theorem dX8_placeTold_112 : decode cX8_placeTold 112 = .ok (.iconst 1, 1) := by decide +kernel
theorem dX8_placeTold_113 : decode cX8_placeTold 113 = .ok (.iadd, 1) := by decide +kernel
theorem dX8_placeTold_114 : decode cX8_placeTold 114 = .ok (.iastore, 1) := by decide +kernel
theorem dX8_placeTold_115 : decode cX8_placeTold 115 = .ok (.aload_n 0, 1) := by decide +kernel
theorem dX8_placeTold_116 : decode cX8_placeTold 116 = .ok (.getfield 124, 3) := by decide +kernel
theorem dX8_placeTold_119 : decode cX8_placeTold 119 = .ok (.iload_n 1, 1) := by decide +kernel
theorem dX8_placeTold_120 : decode cX8_placeTold 120 = .ok (.iconst 2, 1) := by decide +kernel
theorem dX8_placeTold_121 : decode cX8_placeTold 121 = .ok (.iadd, 1) := by decide +kernel
theorem dX8_placeTold_122 : decode cX8_placeTold 122 = .ok (.aload_n 0, 1) := by decide +kernel
theorem dX8_placeTold_123 : decode cX8_placeTold 123 = .ok (.getfield 124, 3) := by decide +kernel
theorem dX8_placeTold_126 : decode cX8_placeTold 126 = .ok (.iload_n 1, 1) := by decide +kernel
theorem dX8_placeTold_127 : decode cX8_placeTold 127 = .ok (.iconst 2, 1) := by decide +kernel
theorem dX8_placeTold_128 : decode cX8_placeTold 128 = .ok (.iadd, 1) := by decide +kernel
theorem dX8_placeTold_129 : decode cX8_placeTold 129 = .ok (.iaload, 1) := by decide +kernel
theorem dX8_placeTold_130 : decode cX8_placeTold 130 = .ok (.iadd, 1) := by decide +kernel
theorem dX8_placeTold_131 : decode cX8_placeTold 131 = .ok (.iload_n 2, 1) := by decide +kernel
theorem dX8_placeTold_132 : decode cX8_placeTold 132 = .ok (.iastore, 1) := by decide +kernel
theorem dX8_placeTold_133 : decode cX8_placeTold 133 = .ok (.return_, 1) := by decide +kernel
theorem dX8_seamTold_0 : decode cX8_seamTold 0 = .ok (.aload_n 0, 1) := by decide +kernel
theorem dX8_seamTold_1 : decode cX8_seamTold 1 = .ok (.getfield 111, 3) := by decide +kernel
theorem dX8_seamTold_4 : decode cX8_seamTold 4 = .ok (.iconst 1, 1) := by decide +kernel
theorem dX8_seamTold_5 : decode cX8_seamTold 5 = .ok (.iaload, 1) := by decide +kernel
theorem dX8_seamTold_6 : decode cX8_seamTold 6 = .ok (.bipush 10, 2) := by decide +kernel
theorem dX8_seamTold_8 : decode cX8_seamTold 8 = .ok (.if_icmp .ne 9, 3) := by decide +kernel
theorem dX8_seamTold_11 : decode cX8_seamTold 11 = .ok (.aload_n 0, 1) := by decide +kernel
theorem dX8_seamTold_12 : decode cX8_seamTold 12 = .ok (.iconst 5, 1) := by decide +kernel
theorem dX8_seamTold_13 : decode cX8_seamTold 13 = .ok (.iload_n 1, 1) := by decide +kernel
theorem dX8_seamTold_14 : decode cX8_seamTold 14 = .ok (.invokevirtual 320, 3) := by decide +kernel
theorem dX8_seamTold_17 : decode cX8_seamTold 17 = .ok (.aload_n 0, 1) := by decide +kernel
theorem dX8_seamTold_18 : decode cX8_seamTold 18 = .ok (.getfield 290, 3) := by decide +kernel
theorem dX8_seamTold_21 : decode cX8_seamTold 21 = .ok (.ifCond .eq 4, 3) := by decide +kernel
theorem dX8_seamTold_24 : decode cX8_seamTold 24 = .ok (.return_, 1) := by decide +kernel
theorem dX8_seamTold_25 : decode cX8_seamTold 25 = .ok (.bipush 7, 2) := by decide +kernel
theorem dX8_seamTold_27 : decode cX8_seamTold 27 = .ok (.aload_n 0, 1) := by decide +kernel
theorem dX8_seamTold_28 : decode cX8_seamTold 28 = .ok (.getfield 111, 3) := by decide +kernel
theorem dX8_seamTold_31 : decode cX8_seamTold 31 = .ok (.iconst 1, 1) := by decide +kernel
theorem dX8_seamTold_32 : decode cX8_seamTold 32 = .ok (.iaload, 1) := by decide +kernel
theorem dX8_seamTold_33 : decode cX8_seamTold 33 = .ok (.imul, 1) := by decide +kernel
theorem dX8_seamTold_34 : decode cX8_seamTold 34 = .ok (.istore_n 2, 1) := by decide +kernel
theorem dX8_seamTold_35 : decode cX8_seamTold 35 = .ok (.aload_n 0, 1) := by decide +kernel
theorem dX8_seamTold_36 : decode cX8_seamTold 36 = .ok (.invokevirtual 377, 3) := by decide +kernel
theorem dX8_seamTold_39 : decode cX8_seamTold 39 = .ok (.lstore_n 3, 1) := by decide +kernel
theorem dX8_seamTold_40 : decode cX8_seamTold 40 = .ok (.aload_n 0, 1) := by decide +kernel
theorem dX8_seamTold_41 : decode cX8_seamTold 41 = .ok (.aload_n 0, 1) := by decide +kernel
theorem dX8_seamTold_42 : decode cX8_seamTold 42 = .ok (.getfield 33, 3) := by decide +kernel
theorem dX8_seamTold_45 : decode cX8_seamTold 45 = .ok (.invokevirtual 356, 3) := by decide +kernel
theorem dX8_seamTold_48 : decode cX8_seamTold 48 = .ok (.aload_n 0, 1) := by decide +kernel
theorem dX8_seamTold_49 : decode cX8_seamTold 49 = .ok (.getfield 124, 3) := by decide +kernel
theorem dX8_seamTold_52 : decode cX8_seamTold 52 = .ok (.iload_n 2, 1) := by decide +kernel
theorem dX8_seamTold_53 : decode cX8_seamTold 53 = .ok (.aload_n 0, 1) := by decide +kernel
theorem dX8_seamTold_54 : decode cX8_seamTold 54 = .ok (.iconst 1, 1) := by decide +kernel
theorem dX8_seamTold_55 : decode cX8_seamTold 55 = .ok (.bipush 99, 2) := by decide +kernel
theorem dX8_seamTold_57 : decode cX8_seamTold 57 = .ok (.invokevirtual 360, 3) := by decide +kernel
theorem dX8_seamTold_60 : decode cX8_seamTold 60 = .ok (.iastore, 1) := by decide +kernel
theorem dX8_seamTold_61 : decode cX8_seamTold 61 = .ok (.aload_n 0, 1) := by decide +kernel
theorem dX8_seamTold_62 : decode cX8_seamTold 62 = .ok (.getfield 124, 3) := by decide +kernel
theorem dX8_seamTold_65 : decode cX8_seamTold 65 = .ok (.iload_n 2, 1) := by decide +kernel
theorem dX8_seamTold_66 : decode cX8_seamTold 66 = .ok (.iconst 1, 1) := by decide +kernel
theorem dX8_seamTold_67 : decode cX8_seamTold 67 = .ok (.iadd, 1) := by decide +kernel
theorem dX8_seamTold_68 : decode cX8_seamTold 68 = .ok (.aload_n 0, 1) := by decide +kernel
theorem dX8_seamTold_69 : decode cX8_seamTold 69 = .ok (.aload_n 0, 1) := by decide +kernel
theorem dX8_seamTold_70 : decode cX8_seamTold 70 = .ok (.getfield 36, 3) := by decide +kernel
theorem dX8_seamTold_73 : decode cX8_seamTold 73 = .ok (.invokevirtual 317, 3) := by decide +kernel
theorem dX8_seamTold_76 : decode cX8_seamTold 76 = .ok (.ifCond .eq 7, 3) := by decide +kernel
theorem dX8_seamTold_79 : decode cX8_seamTold 79 = .ok (.iconst 1, 1) := by decide +kernel
theorem dX8_seamTold_80 : decode cX8_seamTold 80 = .ok (.goto 4, 3) := by decide +kernel
theorem dX8_seamTold_83 : decode cX8_seamTold 83 = .ok (.iconst 0, 1) := by decide +kernel
theorem dX8_seamTold_84 : decode cX8_seamTold 84 = .ok (.iastore, 1) := by decide +kernel
theorem dX8_seamTold_85 : decode cX8_seamTold 85 = .ok (.aload_n 0, 1) := by decide +kernel
theorem dX8_seamTold_86 : decode cX8_seamTold 86 = .ok (.getfield 124, 3) := by decide +kernel
theorem dX8_seamTold_89 : decode cX8_seamTold 89 = .ok (.iload_n 2, 1) := by decide +kernel
theorem dX8_seamTold_90 : decode cX8_seamTold 90 = .ok (.iconst 2, 1) := by decide +kernel
theorem dX8_seamTold_91 : decode cX8_seamTold 91 = .ok (.iadd, 1) := by decide +kernel
theorem dX8_seamTold_92 : decode cX8_seamTold 92 = .ok (.iconst 0, 1) := by decide +kernel
theorem dX8_seamTold_93 : decode cX8_seamTold 93 = .ok (.iastore, 1) := by decide +kernel
theorem dX8_seamTold_94 : decode cX8_seamTold 94 = .ok (.aload_n 0, 1) := by decide +kernel
theorem dX8_seamTold_95 : decode cX8_seamTold 95 = .ok (.aload_n 0, 1) := by decide +kernel
theorem dX8_seamTold_96 : decode cX8_seamTold 96 = .ok (.getfield 39, 3) := by decide +kernel
theorem dX8_seamTold_99 : decode cX8_seamTold 99 = .ok (.invokevirtual 317, 3) := by decide +kernel
theorem dX8_seamTold_102 : decode cX8_seamTold 102 = .ok (.ifCond .eq 25, 3) := by decide +kernel
theorem dX8_seamTold_105 : decode cX8_seamTold 105 = .ok (.aload_n 0, 1) := by decide +kernel
theorem dX8_seamTold_106 : decode cX8_seamTold 106 = .ok (.iload_n 2, 1) := by decide +kernel
theorem dX8_seamTold_107 : decode cX8_seamTold 107 = .ok (.invokevirtual 380, 3) := by decide +kernel
theorem dX8_seamTold_110 : decode cX8_seamTold 110 = .ok (.aload_n 0, 1) := by decide +kernel
theorem dX8_seamTold_111 : decode cX8_seamTold 111 = .ok (.getfield 290, 3) := by decide +kernel
theorem dX8_seamTold_114 : decode cX8_seamTold 114 = .ok (.ifCond .ne 13, 3) := by decide +kernel
theorem dX8_seamTold_117 : decode cX8_seamTold 117 = .ok (.aload_n 0, 1) := by decide +kernel
theorem dX8_seamTold_118 : decode cX8_seamTold 118 = .ok (.invokevirtual 302, 3) := by decide +kernel
theorem dX8_seamTold_121 : decode cX8_seamTold 121 = .ok (.invokestatic 327, 3) := by decide +kernel
theorem dX8_seamTold_124 : decode cX8_seamTold 124 = .ok (.ifCond .ne (-19), 3) := by decide +kernel
theorem dX8_seamTold_127 : decode cX8_seamTold 127 = .ok (.aload_n 0, 1) := by decide +kernel
theorem dX8_seamTold_128 : decode cX8_seamTold 128 = .ok (.getfield 290, 3) := by decide +kernel
theorem dX8_seamTold_131 : decode cX8_seamTold 131 = .ok (.ifCond .eq 4, 3) := by decide +kernel
theorem dX8_seamTold_134 : decode cX8_seamTold 134 = .ok (.return_, 1) := by decide +kernel
theorem dX8_seamTold_135 : decode cX8_seamTold 135 = .ok (.aload_n 0, 1) := by decide +kernel
theorem dX8_seamTold_136 : decode cX8_seamTold 136 = .ok (.getfield 114, 3) := by decide +kernel
theorem dX8_seamTold_139 : decode cX8_seamTold 139 = .ok (.aload_n 0, 1) := by decide +kernel
theorem dX8_seamTold_140 : decode cX8_seamTold 140 = .ok (.getfield 111, 3) := by decide +kernel
theorem dX8_seamTold_143 : decode cX8_seamTold 143 = .ok (.iconst 1, 1) := by decide +kernel
theorem dX8_seamTold_144 : decode cX8_seamTold 144 = .ok (.iaload, 1) := by decide +kernel
theorem dX8_seamTold_145 : decode cX8_seamTold 145 = .ok (.lload_n 3, 1) := by decide +kernel
theorem dX8_seamTold_146 : decode cX8_seamTold 146 = .ok (.lastore, 1) := by decide +kernel
theorem dX8_seamTold_147 : decode cX8_seamTold 147 = .ok (.aload_n 0, 1) := by decide +kernel
theorem dX8_seamTold_148 : decode cX8_seamTold 148 = .ok (.getfield 111, 3) := by decide +kernel
theorem dX8_seamTold_151 : decode cX8_seamTold 151 = .ok (.iconst 1, 1) := by decide +kernel
theorem dX8_seamTold_152 : decode cX8_seamTold 152 = .ok (.dup2, 1) := by decide +kernel
theorem dX8_seamTold_153 : decode cX8_seamTold 153 = .ok (.iaload, 1) := by decide +kernel
theorem dX8_seamTold_154 : decode cX8_seamTold 154 = .ok (.iconst 1, 1) := by decide +kernel
theorem dX8_seamTold_155 : decode cX8_seamTold 155 = .ok (.iadd, 1) := by decide +kernel
theorem dX8_seamTold_156 : decode cX8_seamTold 156 = .ok (.iastore, 1) := by decide +kernel
theorem dX8_seamTold_157 : decode cX8_seamTold 157 = .ok (.return_, 1) := by decide +kernel
theorem dX8_ruleTold_0 : decode cX8_ruleTold 0 = .ok (.aload_n 0, 1) := by decide +kernel
theorem dX8_ruleTold_1 : decode cX8_ruleTold 1 = .ok (.getfield 111, 3) := by decide +kernel
theorem dX8_ruleTold_4 : decode cX8_ruleTold 4 = .ok (.iconst 2, 1) := by decide +kernel
theorem dX8_ruleTold_5 : decode cX8_ruleTold 5 = .ok (.iaload, 1) := by decide +kernel
theorem dX8_ruleTold_6 : decode cX8_ruleTold 6 = .ok (.iconst 4, 1) := by decide +kernel
theorem dX8_ruleTold_7 : decode cX8_ruleTold 7 = .ok (.if_icmp .ne 9, 3) := by decide +kernel
theorem dX8_ruleTold_10 : decode cX8_ruleTold 10 = .ok (.aload_n 0, 1) := by decide +kernel
theorem dX8_ruleTold_11 : decode cX8_ruleTold 11 = .ok (.iconst 5, 1) := by decide +kernel
theorem dX8_ruleTold_12 : decode cX8_ruleTold 12 = .ok (.iload_n 1, 1) := by decide +kernel
theorem dX8_ruleTold_13 : decode cX8_ruleTold 13 = .ok (.invokevirtual 320, 3) := by decide +kernel
theorem dX8_ruleTold_16 : decode cX8_ruleTold 16 = .ok (.aload_n 0, 1) := by decide +kernel
theorem dX8_ruleTold_17 : decode cX8_ruleTold 17 = .ok (.getfield 290, 3) := by decide +kernel
theorem dX8_ruleTold_20 : decode cX8_ruleTold 20 = .ok (.ifCond .eq 4, 3) := by decide +kernel
theorem dX8_ruleTold_23 : decode cX8_ruleTold 23 = .ok (.return_, 1) := by decide +kernel
theorem dX8_ruleTold_24 : decode cX8_ruleTold 24 = .ok (.aload_n 0, 1) := by decide +kernel
theorem dX8_ruleTold_25 : decode cX8_ruleTold 25 = .ok (.invokevirtual 377, 3) := by decide +kernel
theorem dX8_ruleTold_28 : decode cX8_ruleTold 28 = .ok (.lstore_n 2, 1) := by decide +kernel
theorem dX8_ruleTold_29 : decode cX8_ruleTold 29 = .ok (.aload_n 0, 1) := by decide +kernel
theorem dX8_ruleTold_30 : decode cX8_ruleTold 30 = .ok (.aload_n 0, 1) := by decide +kernel
theorem dX8_ruleTold_31 : decode cX8_ruleTold 31 = .ok (.getfield 45, 3) := by decide +kernel
theorem dX8_ruleTold_34 : decode cX8_ruleTold 34 = .ok (.invokevirtual 356, 3) := by decide +kernel
theorem dX8_ruleTold_37 : decode cX8_ruleTold 37 = .ok (.aload_n 0, 1) := by decide +kernel
theorem dX8_ruleTold_38 : decode cX8_ruleTold 38 = .ok (.getfield 290, 3) := by decide +kernel
theorem dX8_ruleTold_41 : decode cX8_ruleTold 41 = .ok (.ifCond .eq 4, 3) := by decide +kernel
theorem dX8_ruleTold_44 : decode cX8_ruleTold 44 = .ok (.return_, 1) := by decide +kernel
theorem dX8_ruleTold_45 : decode cX8_ruleTold 45 = .ok (.aload_n 0, 1) := by decide +kernel
theorem dX8_ruleTold_46 : decode cX8_ruleTold 46 = .ok (.iconst 1, 1) := by decide +kernel
theorem dX8_ruleTold_47 : decode cX8_ruleTold 47 = .ok (.putfield 348, 3) := by decide +kernel
theorem dX8_ruleTold_50 : decode cX8_ruleTold 50 = .ok (.aload_n 0, 1) := by decide +kernel
theorem dX8_ruleTold_51 : decode cX8_ruleTold 51 = .ok (.iconst 0, 1) := by decide +kernel
theorem dX8_ruleTold_52 : decode cX8_ruleTold 52 = .ok (.putfield 383, 3) := by decide +kernel
theorem dX8_ruleTold_55 : decode cX8_ruleTold 55 = .ok (.aload_n 0, 1) := by decide +kernel
theorem dX8_ruleTold_56 : decode cX8_ruleTold 56 = .ok (.iconst 0, 1) := by decide +kernel
theorem dX8_ruleTold_57 : decode cX8_ruleTold 57 = .ok (.putfield 386, 3) := by decide +kernel
theorem dX8_ruleTold_60 : decode cX8_ruleTold 60 = .ok (.aload_n 0, 1) := by decide +kernel
theorem dX8_ruleTold_61 : decode cX8_ruleTold 61 = .ok (.iconst 0, 1) := by decide +kernel
theorem dX8_ruleTold_62 : decode cX8_ruleTold 62 = .ok (.putfield 389, 3) := by decide +kernel
theorem dX8_ruleTold_65 : decode cX8_ruleTold 65 = .ok (.aload_n 0, 1) := by decide +kernel
theorem dX8_ruleTold_66 : decode cX8_ruleTold 66 = .ok (.iconst 0, 1) := by decide +kernel
theorem dX8_ruleTold_67 : decode cX8_ruleTold 67 = .ok (.putfield 392, 3) := by decide +kernel
theorem dX8_ruleTold_70 : decode cX8_ruleTold 70 = .ok (.aload_n 0, 1) := by decide +kernel
theorem dX8_ruleTold_71 : decode cX8_ruleTold 71 = .ok (.invokevirtual 395, 3) := by decide +kernel
theorem dX8_ruleTold_74 : decode cX8_ruleTold 74 = .ok (.aload_n 0, 1) := by decide +kernel
theorem dX8_ruleTold_75 : decode cX8_ruleTold 75 = .ok (.getfield 290, 3) := by decide +kernel
theorem dX8_ruleTold_78 : decode cX8_ruleTold 78 = .ok (.ifCond .eq 4, 3) := by decide +kernel
theorem dX8_ruleTold_81 : decode cX8_ruleTold 81 = .ok (.return_, 1) := by decide +kernel
theorem dX8_ruleTold_82 : decode cX8_ruleTold 82 = .ok (.aload_n 0, 1) := by decide +kernel
theorem dX8_ruleTold_83 : decode cX8_ruleTold 83 = .ok (.getfield 130, 3) := by decide +kernel
theorem dX8_ruleTold_86 : decode cX8_ruleTold 86 = .ok (.aload_n 0, 1) := by decide +kernel
theorem dX8_ruleTold_87 : decode cX8_ruleTold 87 = .ok (.getfield 111, 3) := by decide +kernel
theorem dX8_ruleTold_90 : decode cX8_ruleTold 90 = .ok (.iconst 2, 1) := by decide +kernel
theorem dX8_ruleTold_91 : decode cX8_ruleTold 91 = .ok (.iaload, 1) := by decide +kernel
theorem dX8_ruleTold_92 : decode cX8_ruleTold 92 = .ok (.aload_n 0, 1) := by decide +kernel
theorem dX8_ruleTold_93 : decode cX8_ruleTold 93 = .ok (.getfield 398, 3) := by decide +kernel
theorem dX8_ruleTold_96 : decode cX8_ruleTold 96 = .ok (.iastore, 1) := by decide +kernel
theorem dX8_ruleTold_97 : decode cX8_ruleTold 97 = .ok (.iconst 0, 1) := by decide +kernel
theorem dX8_ruleTold_98 : decode cX8_ruleTold 98 = .ok (.istore 4, 2) := by decide +kernel
theorem dX8_ruleTold_100 : decode cX8_ruleTold 100 = .ok (.iload 4, 2) := by decide +kernel
theorem dX8_ruleTold_102 : decode cX8_ruleTold 102 = .ok (.aload_n 0, 1) := by decide +kernel
theorem dX8_ruleTold_103 : decode cX8_ruleTold 103 = .ok (.getfield 383, 3) := by decide +kernel
theorem dX8_ruleTold_106 : decode cX8_ruleTold 106 = .ok (.if_icmp .ge 35, 3) := by decide +kernel
theorem dX8_ruleTold_109 : decode cX8_ruleTold 109 = .ok (.aload_n 0, 1) := by decide +kernel
theorem dX8_ruleTold_110 : decode cX8_ruleTold 110 = .ok (.getfield 136, 3) := by decide +kernel
theorem dX8_ruleTold_113 : decode cX8_ruleTold 113 = .ok (.aload_n 0, 1) := by decide +kernel
theorem dX8_ruleTold_114 : decode cX8_ruleTold 114 = .ok (.getfield 398, 3) := by decide +kernel
theorem dX8_ruleTold_117 : decode cX8_ruleTold 117 = .ok (.aload_n 0, 1) := by decide +kernel
theorem dX8_ruleTold_118 : decode cX8_ruleTold 118 = .ok (.getfield 275, 3) := by decide +kernel
theorem dX8_ruleTold_121 : decode cX8_ruleTold 121 = .ok (.iload 4, 2) := by decide +kernel
theorem dX8_ruleTold_123 : decode cX8_ruleTold 123 = .ok (.iaload, 1) := by decide +kernel
theorem dX8_ruleTold_124 : decode cX8_ruleTold 124 = .ok (.iastore, 1) := by decide +kernel
theorem dX8_ruleTold_125 : decode cX8_ruleTold 125 = .ok (.aload_n 0, 1) := by decide +kernel
theorem dX8_ruleTold_126 : decode cX8_ruleTold 126 = .ok (.dup, 1) := by decide +kernel
theorem dX8_ruleTold_127 : decode cX8_ruleTold 127 = .ok (.getfield 398, 3) := by decide +kernel
theorem dX8_ruleTold_130 : decode cX8_ruleTold 130 = .ok (.iconst 1, 1) := by decide +kernel
theorem dX8_ruleTold_131 : decode cX8_ruleTold 131 = .ok (.iadd, 1) := by decide +kernel
theorem dX8_ruleTold_132 : decode cX8_ruleTold 132 = .ok (.putfield 398, 3) := by decide +kernel
theorem dX8_ruleTold_135 : decode cX8_ruleTold 135 = .ok (.iinc 4 1, 3) := by decide +kernel
theorem dX8_ruleTold_138 : decode cX8_ruleTold 138 = .ok (.goto (-38), 3) := by decide +kernel
theorem dX8_ruleTold_141 : decode cX8_ruleTold 141 = .ok (.aload_n 0, 1) := by decide +kernel
theorem dX8_ruleTold_142 : decode cX8_ruleTold 142 = .ok (.getfield 133, 3) := by decide +kernel
theorem dX8_ruleTold_145 : decode cX8_ruleTold 145 = .ok (.aload_n 0, 1) := by decide +kernel
theorem dX8_ruleTold_146 : decode cX8_ruleTold 146 = .ok (.getfield 111, 3) := by decide +kernel
theorem dX8_ruleTold_149 : decode cX8_ruleTold 149 = .ok (.iconst 2, 1) := by decide +kernel
theorem dX8_ruleTold_150 : decode cX8_ruleTold 150 = .ok (.iaload, 1) := by decide +kernel
theorem dX8_ruleTold_151 : decode cX8_ruleTold 151 = .ok (.aload_n 0, 1) := by decide +kernel
theorem dX8_ruleTold_152 : decode cX8_ruleTold 152 = .ok (.getfield 398, 3) := by decide +kernel
theorem dX8_ruleTold_155 : decode cX8_ruleTold 155 = .ok (.iastore, 1) := by decide +kernel
theorem dX8_ruleTold_156 : decode cX8_ruleTold 156 = .ok (.aload_n 0, 1) := by decide +kernel
theorem dX8_ruleTold_157 : decode cX8_ruleTold 157 = .ok (.getfield 114, 3) := by decide +kernel
theorem dX8_ruleTold_160 : decode cX8_ruleTold 160 = .ok (.bipush 10, 2) := by decide +kernel
theorem dX8_ruleTold_162 : decode cX8_ruleTold 162 = .ok (.aload_n 0, 1) := by decide +kernel
theorem dX8_ruleTold_163 : decode cX8_ruleTold 163 = .ok (.getfield 111, 3) := by decide +kernel
theorem dX8_ruleTold_166 : decode cX8_ruleTold 166 = .ok (.iconst 2, 1) := by decide +kernel
theorem dX8_ruleTold_167 : decode cX8_ruleTold 167 = .ok (.iaload, 1) := by decide +kernel
theorem dX8_ruleTold_168 : decode cX8_ruleTold 168 = .ok (.iadd, 1) := by decide +kernel
theorem dX8_ruleTold_169 : decode cX8_ruleTold 169 = .ok (.lload_n 2, 1) := by decide +kernel
theorem dX8_ruleTold_170 : decode cX8_ruleTold 170 = .ok (.lastore, 1) := by decide +kernel
theorem dX8_ruleTold_171 : decode cX8_ruleTold 171 = .ok (.aload_n 0, 1) := by decide +kernel
theorem dX8_ruleTold_172 : decode cX8_ruleTold 172 = .ok (.getfield 111, 3) := by decide +kernel
theorem dX8_ruleTold_175 : decode cX8_ruleTold 175 = .ok (.iconst 2, 1) := by decide +kernel
theorem dX8_ruleTold_176 : decode cX8_ruleTold 176 = .ok (.dup2, 1) := by decide +kernel
theorem dX8_ruleTold_177 : decode cX8_ruleTold 177 = .ok (.iaload, 1) := by decide +kernel
theorem dX8_ruleTold_178 : decode cX8_ruleTold 178 = .ok (.iconst 1, 1) := by decide +kernel
theorem dX8_ruleTold_179 : decode cX8_ruleTold 179 = .ok (.iadd, 1) := by decide +kernel
theorem dX8_ruleTold_180 : decode cX8_ruleTold 180 = .ok (.iastore, 1) := by decide +kernel
theorem dX8_ruleTold_181 : decode cX8_ruleTold 181 = .ok (.return_, 1) := by decide +kernel
theorem dX8_statementTold_0 : decode cX8_statementTold 0 = .ok (.aload_n 0, 1) := by decide +kernel
theorem dX8_statementTold_1 : decode cX8_statementTold 1 = .ok (.getfield 296, 3) := by decide +kernel
theorem dX8_statementTold_4 : decode cX8_statementTold 4 = .ok (.istore_n 1, 1) := by decide +kernel
theorem dX8_statementTold_5 : decode cX8_statementTold 5 = .ok (.aload_n 0, 1) := by decide +kernel
theorem dX8_statementTold_6 : decode cX8_statementTold 6 = .ok (.getfield 401, 3) := by decide +kernel
theorem dX8_statementTold_9 : decode cX8_statementTold 9 = .ok (.bipush 60, 2) := by decide +kernel
theorem dX8_statementTold_11 : decode cX8_statementTold 11 = .ok (.if_icmp .ne 10, 3) := by decide +kernel
theorem dX8_statementTold_14 : decode cX8_statementTold 14 = .ok (.aload_n 0, 1) := by decide +kernel
theorem dX8_statementTold_15 : decode cX8_statementTold 15 = .ok (.iconst 5, 1) := by decide +kernel
theorem dX8_statementTold_16 : decode cX8_statementTold 16 = .ok (.iload_n 1, 1) := by decide +kernel
theorem dX8_statementTold_17 : decode cX8_statementTold 17 = .ok (.invokevirtual 320, 3) := by decide +kernel
theorem dX8_statementTold_20 : decode cX8_statementTold 20 = .ok (.return_, 1) := by decide +kernel
theorem dX8_statementTold_21 : decode cX8_statementTold 21 = .ok (.aload_n 0, 1) := by decide +kernel
theorem dX8_statementTold_22 : decode cX8_statementTold 22 = .ok (.aload_n 0, 1) := by decide +kernel
theorem dX8_statementTold_23 : decode cX8_statementTold 23 = .ok (.getfield 30, 3) := by decide +kernel
theorem dX8_statementTold_26 : decode cX8_statementTold 26 = .ok (.invokevirtual 317, 3) := by decide +kernel
theorem dX8_statementTold_29 : decode cX8_statementTold 29 = .ok (.ifCond .eq 11, 3) := by decide +kernel
theorem dX8_statementTold_32 : decode cX8_statementTold 32 = .ok (.aload_n 0, 1) := by decide +kernel
theorem dX8_statementTold_33 : decode cX8_statementTold 33 = .ok (.iload_n 1, 1) := by decide +kernel
theorem dX8_statementTold_34 : decode cX8_statementTold 34 = .ok (.invokevirtual 404, 3) := by decide +kernel
theorem dX8_statementTold_37 : decode cX8_statementTold 37 = .ok (.goto 177, 3) := by decide +kernel
theorem dX8_statementTold_40 : decode cX8_statementTold 40 = .ok (.aload_n 0, 1) := by decide +kernel
theorem dX8_statementTold_41 : decode cX8_statementTold 41 = .ok (.aload_n 0, 1) := by decide +kernel
theorem dX8_statementTold_42 : decode cX8_statementTold 42 = .ok (.getfield 42, 3) := by decide +kernel
theorem dX8_statementTold_45 : decode cX8_statementTold 45 = .ok (.invokevirtual 317, 3) := by decide +kernel
theorem dX8_statementTold_48 : decode cX8_statementTold 48 = .ok (.ifCond .eq 11, 3) := by decide +kernel
theorem dX8_statementTold_51 : decode cX8_statementTold 51 = .ok (.aload_n 0, 1) := by decide +kernel
theorem dX8_statementTold_52 : decode cX8_statementTold 52 = .ok (.iload_n 1, 1) := by decide +kernel
theorem dX8_statementTold_53 : decode cX8_statementTold 53 = .ok (.invokevirtual 407, 3) := by decide +kernel
theorem dX8_statementTold_56 : decode cX8_statementTold 56 = .ok (.goto 158, 3) := by decide +kernel
theorem dX8_statementTold_59 : decode cX8_statementTold 59 = .ok (.aload_n 0, 1) := by decide +kernel
theorem dX8_statementTold_60 : decode cX8_statementTold 60 = .ok (.aload_n 0, 1) := by decide +kernel
theorem dX8_statementTold_61 : decode cX8_statementTold 61 = .ok (.getfield 48, 3) := by decide +kernel
theorem dX8_statementTold_64 : decode cX8_statementTold 64 = .ok (.invokevirtual 317, 3) := by decide +kernel
theorem dX8_statementTold_67 : decode cX8_statementTold 67 = .ok (.ifCond .eq 19, 3) := by decide +kernel
theorem dX8_statementTold_70 : decode cX8_statementTold 70 = .ok (.aload_n 0, 1) := by decide +kernel
theorem dX8_statementTold_71 : decode cX8_statementTold 71 = .ok (.getfield 127, 3) := by decide +kernel
theorem dX8_statementTold_74 : decode cX8_statementTold 74 = .ok (.iconst 0, 1) := by decide +kernel
theorem dX8_statementTold_75 : decode cX8_statementTold 75 = .ok (.aload_n 0, 1) := by decide +kernel
theorem dX8_statementTold_76 : decode cX8_statementTold 76 = .ok (.iconst 0, 1) := by decide +kernel
theorem dX8_statementTold_77 : decode cX8_statementTold 77 = .ok (.bipush 99, 2) := by decide +kernel
theorem dX8_statementTold_79 : decode cX8_statementTold 79 = .ok (.invokevirtual 360, 3) := by decide +kernel
theorem dX8_statementTold_82 : decode cX8_statementTold 82 = .ok (.iastore, 1) := by decide +kernel
theorem dX8_statementTold_83 : decode cX8_statementTold 83 = .ok (.goto 131, 3) := by decide +kernel
theorem dX8_statementTold_86 : decode cX8_statementTold 86 = .ok (.aload_n 0, 1) := by decide +kernel
theorem dX8_statementTold_87 : decode cX8_statementTold 87 = .ok (.aload_n 0, 1) := by decide +kernel
theorem dX8_statementTold_88 : decode cX8_statementTold 88 = .ok (.getfield 51, 3) := by decide +kernel
theorem dX8_statementTold_91 : decode cX8_statementTold 91 = .ok (.invokevirtual 317, 3) := by decide +kernel
theorem dX8_statementTold_94 : decode cX8_statementTold 94 = .ok (.ifCond .eq 19, 3) := by decide +kernel
theorem dX8_statementTold_97 : decode cX8_statementTold 97 = .ok (.aload_n 0, 1) := by decide +kernel
theorem dX8_statementTold_98 : decode cX8_statementTold 98 = .ok (.getfield 127, 3) := by decide +kernel
theorem dX8_statementTold_101 : decode cX8_statementTold 101 = .ok (.iconst 1, 1) := by decide +kernel
theorem dX8_statementTold_102 : decode cX8_statementTold 102 = .ok (.aload_n 0, 1) := by decide +kernel
theorem dX8_statementTold_103 : decode cX8_statementTold 103 = .ok (.iconst 0, 1) := by decide +kernel
theorem dX8_statementTold_104 : decode cX8_statementTold 104 = .ok (.bipush 99, 2) := by decide +kernel
theorem dX8_statementTold_106 : decode cX8_statementTold 106 = .ok (.invokevirtual 360, 3) := by decide +kernel
theorem dX8_statementTold_109 : decode cX8_statementTold 109 = .ok (.iastore, 1) := by decide +kernel
theorem dX8_statementTold_110 : decode cX8_statementTold 110 = .ok (.goto 104, 3) := by decide +kernel
theorem dX8_statementTold_113 : decode cX8_statementTold 113 = .ok (.aload_n 0, 1) := by decide +kernel
theorem dX8_statementTold_114 : decode cX8_statementTold 114 = .ok (.aload_n 0, 1) := by decide +kernel
theorem dX8_statementTold_115 : decode cX8_statementTold 115 = .ok (.getfield 54, 3) := by decide +kernel
theorem dX8_statementTold_118 : decode cX8_statementTold 118 = .ok (.invokevirtual 317, 3) := by decide +kernel
theorem dX8_statementTold_121 : decode cX8_statementTold 121 = .ok (.ifCond .eq 19, 3) := by decide +kernel
theorem dX8_statementTold_124 : decode cX8_statementTold 124 = .ok (.aload_n 0, 1) := by decide +kernel
theorem dX8_statementTold_125 : decode cX8_statementTold 125 = .ok (.getfield 127, 3) := by decide +kernel
theorem dX8_statementTold_128 : decode cX8_statementTold 128 = .ok (.iconst 2, 1) := by decide +kernel
theorem dX8_statementTold_129 : decode cX8_statementTold 129 = .ok (.aload_n 0, 1) := by decide +kernel
theorem dX8_statementTold_130 : decode cX8_statementTold 130 = .ok (.iconst 0, 1) := by decide +kernel
theorem dX8_statementTold_131 : decode cX8_statementTold 131 = .ok (.bipush 99, 2) := by decide +kernel
theorem dX8_statementTold_133 : decode cX8_statementTold 133 = .ok (.invokevirtual 360, 3) := by decide +kernel
theorem dX8_statementTold_136 : decode cX8_statementTold 136 = .ok (.iastore, 1) := by decide +kernel
theorem dX8_statementTold_137 : decode cX8_statementTold 137 = .ok (.goto 77, 3) := by decide +kernel
theorem dX8_statementTold_140 : decode cX8_statementTold 140 = .ok (.aload_n 0, 1) := by decide +kernel
theorem dX8_statementTold_141 : decode cX8_statementTold 141 = .ok (.aload_n 0, 1) := by decide +kernel
theorem dX8_statementTold_142 : decode cX8_statementTold 142 = .ok (.getfield 57, 3) := by decide +kernel
theorem dX8_statementTold_145 : decode cX8_statementTold 145 = .ok (.invokevirtual 317, 3) := by decide +kernel
theorem dX8_statementTold_148 : decode cX8_statementTold 148 = .ok (.ifCond .eq 19, 3) := by decide +kernel
theorem dX8_statementTold_151 : decode cX8_statementTold 151 = .ok (.aload_n 0, 1) := by decide +kernel
theorem dX8_statementTold_152 : decode cX8_statementTold 152 = .ok (.getfield 127, 3) := by decide +kernel
theorem dX8_statementTold_155 : decode cX8_statementTold 155 = .ok (.iconst 3, 1) := by decide +kernel
theorem dX8_statementTold_156 : decode cX8_statementTold 156 = .ok (.aload_n 0, 1) := by decide +kernel
theorem dX8_statementTold_157 : decode cX8_statementTold 157 = .ok (.iconst 0, 1) := by decide +kernel
theorem dX8_statementTold_158 : decode cX8_statementTold 158 = .ok (.bipush 99, 2) := by decide +kernel
theorem dX8_statementTold_160 : decode cX8_statementTold 160 = .ok (.invokevirtual 360, 3) := by decide +kernel
theorem dX8_statementTold_163 : decode cX8_statementTold 163 = .ok (.iastore, 1) := by decide +kernel
theorem dX8_statementTold_164 : decode cX8_statementTold 164 = .ok (.goto 50, 3) := by decide +kernel
theorem dX8_statementTold_167 : decode cX8_statementTold 167 = .ok (.aload_n 0, 1) := by decide +kernel
theorem dX8_statementTold_168 : decode cX8_statementTold 168 = .ok (.aload_n 0, 1) := by decide +kernel
theorem dX8_statementTold_169 : decode cX8_statementTold 169 = .ok (.getfield 60, 3) := by decide +kernel
theorem dX8_statementTold_172 : decode cX8_statementTold 172 = .ok (.invokevirtual 317, 3) := by decide +kernel
theorem dX8_statementTold_175 : decode cX8_statementTold 175 = .ok (.ifCond .eq 19, 3) := by decide +kernel
theorem dX8_statementTold_178 : decode cX8_statementTold 178 = .ok (.aload_n 0, 1) := by decide +kernel
theorem dX8_statementTold_179 : decode cX8_statementTold 179 = .ok (.getfield 127, 3) := by decide +kernel
theorem dX8_statementTold_182 : decode cX8_statementTold 182 = .ok (.iconst 4, 1) := by decide +kernel
theorem dX8_statementTold_183 : decode cX8_statementTold 183 = .ok (.aload_n 0, 1) := by decide +kernel
theorem dX8_statementTold_184 : decode cX8_statementTold 184 = .ok (.iconst 1, 1) := by decide +kernel
theorem dX8_statementTold_185 : decode cX8_statementTold 185 = .ok (.bipush 9, 2) := by decide +kernel
theorem dX8_statementTold_187 : decode cX8_statementTold 187 = .ok (.invokevirtual 360, 3) := by decide +kernel
theorem dX8_statementTold_190 : decode cX8_statementTold 190 = .ok (.iastore, 1) := by decide +kernel
theorem dX8_statementTold_191 : decode cX8_statementTold 191 = .ok (.goto 23, 3) := by decide +kernel
theorem dX8_statementTold_194 : decode cX8_statementTold 194 = .ok (.aload_n 0, 1) := by decide +kernel
theorem dX8_statementTold_195 : decode cX8_statementTold 195 = .ok (.aload_n 0, 1) := by decide +kernel
theorem dX8_statementTold_196 : decode cX8_statementTold 196 = .ok (.getfield 63, 3) := by decide +kernel
theorem dX8_statementTold_199 : decode cX8_statementTold 199 = .ok (.invokevirtual 356, 3) := by decide +kernel
theorem dX8_statementTold_202 : decode cX8_statementTold 202 = .ok (.aload_n 0, 1) := by decide +kernel
theorem dX8_statementTold_203 : decode cX8_statementTold 203 = .ok (.getfield 127, 3) := by decide +kernel
theorem dX8_statementTold_206 : decode cX8_statementTold 206 = .ok (.iconst 5, 1) := by decide +kernel
theorem dX8_statementTold_207 : decode cX8_statementTold 207 = .ok (.aload_n 0, 1) := by decide +kernel
theorem dX8_statementTold_208 : decode cX8_statementTold 208 = .ok (.iconst 1, 1) := by decide +kernel
theorem dX8_statementTold_209 : decode cX8_statementTold 209 = .ok (.iconst 3, 1) := by decide +kernel
theorem dX8_statementTold_210 : decode cX8_statementTold 210 = .ok (.invokevirtual 360, 3) := by decide +kernel
theorem dX8_statementTold_213 : decode cX8_statementTold 213 = .ok (.iastore, 1) := by decide +kernel
theorem dX8_statementTold_214 : decode cX8_statementTold 214 = .ok (.aload_n 0, 1) := by decide +kernel
theorem dX8_statementTold_215 : decode cX8_statementTold 215 = .ok (.bipush 59, 2) := by decide +kernel
theorem dX8_statementTold_217 : decode cX8_statementTold 217 = .ok (.invokevirtual 373, 3) := by decide +kernel
theorem dX8_statementTold_220 : decode cX8_statementTold 220 = .ok (.aload_n 0, 1) := by decide +kernel
theorem dX8_statementTold_221 : decode cX8_statementTold 221 = .ok (.dup, 1) := by decide +kernel
theorem dX8_statementTold_222 : decode cX8_statementTold 222 = .ok (.getfield 401, 3) := by decide +kernel
theorem dX8_statementTold_225 : decode cX8_statementTold 225 = .ok (.iconst 1, 1) := by decide +kernel
theorem dX8_statementTold_226 : decode cX8_statementTold 226 = .ok (.iadd, 1) := by decide +kernel
theorem dX8_statementTold_227 : decode cX8_statementTold 227 = .ok (.putfield 401, 3) := by decide +kernel
theorem dX8_statementTold_230 : decode cX8_statementTold 230 = .ok (.return_, 1) := by decide +kernel
theorem dX8_room_0 : decode cX8_room 0 = .ok (.aload_n 0, 1) := by decide +kernel
theorem dX8_room_1 : decode cX8_room 1 = .ok (.aload_n 0, 1) := by decide +kernel
theorem dX8_room_2 : decode cX8_room 2 = .ok (.getfield 287, 3) := by decide +kernel
theorem dX8_room_5 : decode cX8_room 5 = .ok (.putfield 299, 3) := by decide +kernel
theorem dX8_room_8 : decode cX8_room 8 = .ok (.aload_n 0, 1) := by decide +kernel
theorem dX8_room_9 : decode cX8_room 9 = .ok (.iconst 0, 1) := by decide +kernel
theorem dX8_room_10 : decode cX8_room 10 = .ok (.putfield 287, 3) := by decide +kernel
theorem dX8_room_13 : decode cX8_room 13 = .ok (.aload_n 0, 1) := by decide +kernel
theorem dX8_room_14 : decode cX8_room 14 = .ok (.iconst 0, 1) := by decide +kernel
theorem dX8_room_15 : decode cX8_room 15 = .ok (.putfield 296, 3) := by decide +kernel
theorem dX8_room_18 : decode cX8_room 18 = .ok (.aload_n 0, 1) := by decide +kernel
theorem dX8_room_19 : decode cX8_room 19 = .ok (.iconst (-1), 1) := by decide +kernel
theorem dX8_room_20 : decode cX8_room 20 = .ok (.putfield 310, 3) := by decide +kernel
theorem dX8_room_23 : decode cX8_room 23 = .ok (.aload_n 0, 1) := by decide +kernel
theorem dX8_room_24 : decode cX8_room 24 = .ok (.iconst 0, 1) := by decide +kernel
theorem dX8_room_25 : decode cX8_room 25 = .ok (.putfield 290, 3) := by decide +kernel
theorem dX8_room_28 : decode cX8_room 28 = .ok (.aload_n 0, 1) := by decide +kernel
theorem dX8_room_29 : decode cX8_room 29 = .ok (.iconst (-1), 1) := by decide +kernel
theorem dX8_room_30 : decode cX8_room 30 = .ok (.putfield 293, 3) := by decide +kernel
theorem dX8_room_33 : decode cX8_room 33 = .ok (.aload_n 0, 1) := by decide +kernel
theorem dX8_room_34 : decode cX8_room 34 = .ok (.iconst 0, 1) := by decide +kernel
theorem dX8_room_35 : decode cX8_room 35 = .ok (.putfield 398, 3) := by decide +kernel
theorem dX8_room_38 : decode cX8_room 38 = .ok (.iconst 0, 1) := by decide +kernel
theorem dX8_room_39 : decode cX8_room 39 = .ok (.istore_n 1, 1) := by decide +kernel
theorem dX8_room_40 : decode cX8_room 40 = .ok (.iload_n 1, 1) := by decide +kernel
theorem dX8_room_41 : decode cX8_room 41 = .ok (.iconst 3, 1) := by decide +kernel
theorem dX8_room_42 : decode cX8_room 42 = .ok (.if_icmp .ge 16, 3) := by decide +kernel
theorem dX8_room_45 : decode cX8_room 45 = .ok (.aload_n 0, 1) := by decide +kernel
theorem dX8_room_46 : decode cX8_room 46 = .ok (.getfield 111, 3) := by decide +kernel
theorem dX8_room_49 : decode cX8_room 49 = .ok (.iload_n 1, 1) := by decide +kernel
theorem dX8_room_50 : decode cX8_room 50 = .ok (.iconst 0, 1) := by decide +kernel
theorem dX8_room_51 : decode cX8_room 51 = .ok (.iastore, 1) := by decide +kernel
theorem dX8_room_52 : decode cX8_room 52 = .ok (.iinc 1 1, 3) := by decide +kernel
theorem dX8_room_55 : decode cX8_room 55 = .ok (.goto (-15), 3) := by decide +kernel
theorem dX8_room_58 : decode cX8_room 58 = .ok (.aload_n 0, 1) := by decide +kernel
theorem dX8_room_59 : decode cX8_room 59 = .ok (.getfield 127, 3) := by decide +kernel
theorem dX8_room_62 : decode cX8_room 62 = .ok (.iconst 0, 1) := by decide +kernel
theorem dX8_room_63 : decode cX8_room 63 = .ok (.iconst 2, 1) := by decide +kernel
theorem dX8_room_64 : decode cX8_room 64 = .ok (.iastore, 1) := by decide +kernel
theorem dX8_room_65 : decode cX8_room 65 = .ok (.aload_n 0, 1) := by decide +kernel
theorem dX8_room_66 : decode cX8_room 66 = .ok (.getfield 127, 3) := by decide +kernel
theorem dX8_room_69 : decode cX8_room 69 = .ok (.iconst 1, 1) := by decide +kernel
theorem dX8_room_70 : decode cX8_room 70 = .ok (.bipush 9, 2) := by decide +kernel
theorem dX8_room_72 : decode cX8_room 72 = .ok (.iastore, 1) := by decide +kernel
theorem dX8_room_73 : decode cX8_room 73 = .ok (.aload_n 0, 1) := by decide +kernel
theorem dX8_room_74 : decode cX8_room 74 = .ok (.getfield 127, 3) := by decide +kernel
theorem dX8_room_77 : decode cX8_room 77 = .ok (.iconst 2, 1) := by decide +kernel
theorem dX8_room_78 : decode cX8_room 78 = .ok (.iconst 1, 1) := by decide +kernel
theorem dX8_room_79 : decode cX8_room 79 = .ok (.iastore, 1) := by decide +kernel
theorem dX8_room_80 : decode cX8_room 80 = .ok (.aload_n 0, 1) := by decide +kernel
theorem dX8_room_81 : decode cX8_room 81 = .ok (.getfield 127, 3) := by decide +kernel
theorem dX8_room_84 : decode cX8_room 84 = .ok (.iconst 3, 1) := by decide +kernel
theorem dX8_room_85 : decode cX8_room 85 = .ok (.bipush 9, 2) := by decide +kernel
theorem dX8_room_87 : decode cX8_room 87 = .ok (.iastore, 1) := by decide +kernel
theorem dX8_room_88 : decode cX8_room 88 = .ok (.aload_n 0, 1) := by decide +kernel
theorem dX8_room_89 : decode cX8_room 89 = .ok (.getfield 127, 3) := by decide +kernel
theorem dX8_room_92 : decode cX8_room 92 = .ok (.iconst 4, 1) := by decide +kernel
theorem dX8_room_93 : decode cX8_room 93 = .ok (.iconst 5, 1) := by decide +kernel
theorem dX8_room_94 : decode cX8_room 94 = .ok (.iastore, 1) := by decide +kernel
theorem dX8_room_95 : decode cX8_room 95 = .ok (.aload_n 0, 1) := by decide +kernel
theorem dX8_room_96 : decode cX8_room 96 = .ok (.getfield 127, 3) := by decide +kernel
theorem dX8_room_99 : decode cX8_room 99 = .ok (.iconst 5, 1) := by decide +kernel
theorem dX8_room_100 : decode cX8_room 100 = .ok (.iconst 1, 1) := by decide +kernel
theorem dX8_room_101 : decode cX8_room 101 = .ok (.iastore, 1) := by decide +kernel
theorem dX8_room_102 : decode cX8_room 102 = .ok (.aload_n 0, 1) := by decide +kernel
theorem dX8_room_103 : decode cX8_room 103 = .ok (.invokevirtual 410, 3) := by decide +kernel
theorem dX8_room_106 : decode cX8_room 106 = .ok (.aload_n 0, 1) := by decide +kernel
theorem dX8_room_107 : decode cX8_room 107 = .ok (.iconst 1, 1) := by decide +kernel
theorem dX8_room_108 : decode cX8_room 108 = .ok (.putfield 401, 3) := by decide +kernel
theorem dX8_room_111 : decode cX8_room 111 = .ok (.aload_n 0, 1) := by decide +kernel
theorem dX8_room_112 : decode cX8_room 112 = .ok (.getfield 290, 3) := by decide +kernel
theorem dX8_room_115 : decode cX8_room 115 = .ok (.ifCond .ne 18, 3) := by decide +kernel
theorem dX8_room_118 : decode cX8_room 118 = .ok (.aload_n 0, 1) := by decide +kernel
theorem dX8_room_119 : decode cX8_room 119 = .ok (.invokevirtual 302, 3) := by decide +kernel
theorem dX8_room_122 : decode cX8_room 122 = .ok (.iconst (-1), 1) := by decide +kernel
theorem dX8_room_123 : decode cX8_room 123 = .ok (.if_icmp .eq 10, 3) := by decide +kernel
theorem dX8_room_126 : decode cX8_room 126 = .ok (.aload_n 0, 1) := by decide +kernel
theorem dX8_room_127 : decode cX8_room 127 = .ok (.invokevirtual 413, 3) := by decide +kernel
theorem dX8_room_130 : decode cX8_room 130 = .ok (.goto (-19), 3) := by decide +kernel
theorem dX8_room_133 : decode cX8_room 133 = .ok (.aload_n 0, 1) := by decide +kernel
theorem dX8_room_134 : decode cX8_room 134 = .ok (.aload_n 0, 1) := by decide +kernel
theorem dX8_room_135 : decode cX8_room 135 = .ok (.getfield 290, 3) := by decide +kernel
theorem dX8_room_138 : decode cX8_room 138 = .ok (.putfield 416, 3) := by decide +kernel
theorem dX8_room_141 : decode cX8_room 141 = .ok (.aload_n 0, 1) := by decide +kernel
theorem dX8_room_142 : decode cX8_room 142 = .ok (.aload_n 0, 1) := by decide +kernel
theorem dX8_room_143 : decode cX8_room 143 = .ok (.getfield 293, 3) := by decide +kernel
theorem dX8_room_146 : decode cX8_room 146 = .ok (.putfield 13, 3) := by decide +kernel
theorem dX8_room_149 : decode cX8_room 149 = .ok (.aload_n 0, 1) := by decide +kernel
theorem dX8_room_150 : decode cX8_room 150 = .ok (.getfield 290, 3) := by decide +kernel
theorem dX8_room_153 : decode cX8_room 153 = .ok (.ifCond .eq 15, 3) := by decide +kernel
theorem dX8_room_156 : decode cX8_room 156 = .ok (.aload_n 0, 1) := by decide +kernel
theorem dX8_room_157 : decode cX8_room 157 = .ok (.getfield 17, 3) := by decide +kernel
theorem dX8_room_160 : decode cX8_room 160 = .ok (.iconst 1, 1) := by decide +kernel
theorem dX8_room_161 : decode cX8_room 161 = .ok (.dup2, 1) := by decide +kernel
theorem dX8_room_162 : decode cX8_room 162 = .ok (.iaload, 1) := by decide +kernel
theorem dX8_room_163 : decode cX8_room 163 = .ok (.iconst 1, 1) := by decide +kernel
theorem dX8_room_164 : decode cX8_room 164 = .ok (.iadd, 1) := by decide +kernel
theorem dX8_room_165 : decode cX8_room 165 = .ok (.iastore, 1) := by decide +kernel
theorem dX8_room_166 : decode cX8_room 166 = .ok (.iconst (-1), 1) := by decide +kernel
theorem dX8_room_167 : decode cX8_room 167 = .ok (.ireturn, 1) := by decide +kernel
theorem dX8_room_168 : decode cX8_room 168 = .ok (.aload_n 0, 1) := by decide +kernel
theorem dX8_room_169 : decode cX8_room 169 = .ok (.invokevirtual 419, 3) := by decide +kernel
theorem dX8_room_172 : decode cX8_room 172 = .ok (.aload_n 0, 1) := by decide +kernel
theorem dX8_room_173 : decode cX8_room 173 = .ok (.getfield 401, 3) := by decide +kernel
theorem dX8_room_176 : decode cX8_room 176 = .ok (.ireturn, 1) := by decide +kernel
theorem dX8_stands_0 : decode cX8_stands 0 = .ok (.aload_n 0, 1) := by decide +kernel
theorem dX8_stands_1 : decode cX8_stands 1 = .ok (.iconst 1, 1) := by decide +kernel
theorem dX8_stands_2 : decode cX8_stands 2 = .ok (.putfield 422, 3) := by decide +kernel
theorem dX8_stands_5 : decode cX8_stands 5 = .ok (.iconst 0, 1) := by decide +kernel
theorem dX8_stands_6 : decode cX8_stands 6 = .ok (.istore_n 1, 1) := by decide +kernel
theorem dX8_stands_7 : decode cX8_stands 7 = .ok (.iload_n 1, 1) := by decide +kernel
theorem dX8_stands_8 : decode cX8_stands 8 = .ok (.iconst 3, 1) := by decide +kernel
theorem dX8_stands_9 : decode cX8_stands 9 = .ok (.if_icmp .ge 23, 3) := by decide +kernel
theorem dX8_stands_12 : decode cX8_stands 12 = .ok (.aload_n 0, 1) := by decide +kernel
theorem dX8_stands_13 : decode cX8_stands 13 = .ok (.getfield 111, 3) := by decide +kernel
theorem dX8_stands_16 : decode cX8_stands 16 = .ok (.iconst 3, 1) := by decide +kernel
theorem dX8_stands_17 : decode cX8_stands 17 = .ok (.iload_n 1, 1) := by decide +kernel
theorem dX8_stands_18 : decode cX8_stands 18 = .ok (.iadd, 1) := by decide +kernel
theorem dX8_stands_19 : decode cX8_stands 19 = .ok (.aload_n 0, 1) := by decide +kernel
theorem dX8_stands_20 : decode cX8_stands 20 = .ok (.getfield 111, 3) := by decide +kernel
theorem dX8_stands_23 : decode cX8_stands 23 = .ok (.iload_n 1, 1) := by decide +kernel
theorem dX8_stands_24 : decode cX8_stands 24 = .ok (.iaload, 1) := by decide +kernel
theorem dX8_stands_25 : decode cX8_stands 25 = .ok (.iastore, 1) := by decide +kernel
theorem dX8_stands_26 : decode cX8_stands 26 = .ok (.iinc 1 1, 3) := by decide +kernel
theorem dX8_stands_29 : decode cX8_stands 29 = .ok (.goto (-22), 3) := by decide +kernel
theorem dX8_stands_32 : decode cX8_stands 32 = .ok (.iconst 0, 1) := by decide +kernel
theorem dX8_stands_33 : decode cX8_stands 33 = .ok (.istore_n 1, 1) := by decide +kernel
theorem dX8_stands_34 : decode cX8_stands 34 = .ok (.iload_n 1, 1) := by decide +kernel
theorem dX8_stands_35 : decode cX8_stands 35 = .ok (.bipush 20, 2) := by decide +kernel
theorem dX8_stands_37 : decode cX8_stands 37 = .ok (.if_icmp .ge 24, 3) := by decide +kernel
theorem dX8_stands_40 : decode cX8_stands 40 = .ok (.aload_n 0, 1) := by decide +kernel
theorem dX8_stands_41 : decode cX8_stands 41 = .ok (.getfield 114, 3) := by decide +kernel
theorem dX8_stands_44 : decode cX8_stands 44 = .ok (.bipush 20, 2) := by decide +kernel
theorem dX8_stands_46 : decode cX8_stands 46 = .ok (.iload_n 1, 1) := by decide +kernel
theorem dX8_stands_47 : decode cX8_stands 47 = .ok (.iadd, 1) := by decide +kernel
theorem dX8_stands_48 : decode cX8_stands 48 = .ok (.aload_n 0, 1) := by decide +kernel
theorem dX8_stands_49 : decode cX8_stands 49 = .ok (.getfield 114, 3) := by decide +kernel
theorem dX8_stands_52 : decode cX8_stands 52 = .ok (.iload_n 1, 1) := by decide +kernel
theorem dX8_stands_53 : decode cX8_stands 53 = .ok (.laload, 1) := by decide +kernel
theorem dX8_stands_54 : decode cX8_stands 54 = .ok (.lastore, 1) := by decide +kernel
theorem dX8_stands_55 : decode cX8_stands 55 = .ok (.iinc 1 1, 3) := by decide +kernel
theorem dX8_stands_58 : decode cX8_stands 58 = .ok (.goto (-24), 3) := by decide +kernel
theorem dX8_stands_61 : decode cX8_stands 61 = .ok (.iconst 0, 1) := by decide +kernel
theorem dX8_stands_62 : decode cX8_stands 62 = .ok (.istore_n 1, 1) := by decide +kernel
theorem dX8_stands_63 : decode cX8_stands 63 = .ok (.iload_n 1, 1) := by decide +kernel
theorem dX8_stands_64 : decode cX8_stands 64 = .ok (.bipush 6, 2) := by decide +kernel
theorem dX8_stands_66 : decode cX8_stands 66 = .ok (.if_icmp .ge 54, 3) := by decide +kernel
theorem dX8_stands_69 : decode cX8_stands 69 = .ok (.aload_n 0, 1) := by decide +kernel
theorem dX8_stands_70 : decode cX8_stands 70 = .ok (.getfield 118, 3) := by decide +kernel
theorem dX8_stands_73 : decode cX8_stands 73 = .ok (.bipush 6, 2) := by decide +kernel
theorem dX8_stands_75 : decode cX8_stands 75 = .ok (.iload_n 1, 1) := by decide +kernel
theorem dX8_stands_76 : decode cX8_stands 76 = .ok (.iadd, 1) := by decide +kernel
theorem dX8_stands_77 : decode cX8_stands 77 = .ok (.aload_n 0, 1) := by decide +kernel
theorem dX8_stands_78 : decode cX8_stands 78 = .ok (.getfield 118, 3) := by decide +kernel
theorem dX8_stands_81 : decode cX8_stands 81 = .ok (.iload_n 1, 1) := by decide +kernel
theorem dX8_stands_82 : decode cX8_stands 82 = .ok (.iaload, 1) := by decide +kernel
theorem dX8_stands_83 : decode cX8_stands 83 = .ok (.iastore, 1) := by decide +kernel
theorem dX8_stands_84 : decode cX8_stands 84 = .ok (.aload_n 0, 1) := by decide +kernel
theorem dX8_stands_85 : decode cX8_stands 85 = .ok (.getfield 121, 3) := by decide +kernel
theorem dX8_stands_88 : decode cX8_stands 88 = .ok (.bipush 6, 2) := by decide +kernel
theorem dX8_stands_90 : decode cX8_stands 90 = .ok (.iload_n 1, 1) := by decide +kernel
theorem dX8_stands_91 : decode cX8_stands 91 = .ok (.iadd, 1) := by decide +kernel
theorem dX8_stands_92 : decode cX8_stands 92 = .ok (.aload_n 0, 1) := by decide +kernel
theorem dX8_stands_93 : decode cX8_stands 93 = .ok (.getfield 121, 3) := by decide +kernel
theorem dX8_stands_96 : decode cX8_stands 96 = .ok (.iload_n 1, 1) := by decide +kernel
theorem dX8_stands_97 : decode cX8_stands 97 = .ok (.iaload, 1) := by decide +kernel
theorem dX8_stands_98 : decode cX8_stands 98 = .ok (.iastore, 1) := by decide +kernel
theorem dX8_stands_99 : decode cX8_stands 99 = .ok (.aload_n 0, 1) := by decide +kernel
theorem dX8_stands_100 : decode cX8_stands 100 = .ok (.getfield 127, 3) := by decide +kernel
theorem dX8_stands_103 : decode cX8_stands 103 = .ok (.bipush 6, 2) := by decide +kernel
theorem dX8_stands_105 : decode cX8_stands 105 = .ok (.iload_n 1, 1) := by decide +kernel
theorem dX8_stands_106 : decode cX8_stands 106 = .ok (.iadd, 1) := by decide +kernel
theorem dX8_stands_107 : decode cX8_stands 107 = .ok (.aload_n 0, 1) := by decide +kernel
theorem dX8_stands_108 : decode cX8_stands 108 = .ok (.getfield 127, 3) := by decide +kernel
theorem dX8_stands_111 : decode cX8_stands 111 = .ok (.iload_n 1, 1) := by decide +kernel
theorem dX8_stands_112 : decode cX8_stands 112 = .ok (.iaload, 1) := by decide +kernel
theorem dX8_stands_113 : decode cX8_stands 113 = .ok (.iastore, 1) := by decide +kernel
theorem dX8_stands_114 : decode cX8_stands 114 = .ok (.iinc 1 1, 3) := by decide +kernel
theorem dX8_stands_117 : decode cX8_stands 117 = .ok (.goto (-54), 3) := by decide +kernel
theorem dX8_stands_120 : decode cX8_stands 120 = .ok (.iconst 0, 1) := by decide +kernel
theorem dX8_stands_121 : decode cX8_stands 121 = .ok (.istore_n 1, 1) := by decide +kernel
theorem dX8_stands_122 : decode cX8_stands 122 = .ok (.iload_n 1, 1) := by decide +kernel
theorem dX8_stands_123 : decode cX8_stands 123 = .ok (.bipush 70, 2) := by decide +kernel
theorem dX8_stands_125 : decode cX8_stands 125 = .ok (.if_icmp .ge 24, 3) := by decide +kernel
theorem dX8_stands_128 : decode cX8_stands 128 = .ok (.aload_n 0, 1) := by decide +kernel
theorem dX8_stands_129 : decode cX8_stands 129 = .ok (.getfield 124, 3) := by decide +kernel
theorem dX8_stands_132 : decode cX8_stands 132 = .ok (.bipush 70, 2) := by decide +kernel
theorem dX8_stands_134 : decode cX8_stands 134 = .ok (.iload_n 1, 1) := by decide +kernel
theorem dX8_stands_135 : decode cX8_stands 135 = .ok (.iadd, 1) := by decide +kernel
theorem dX8_stands_136 : decode cX8_stands 136 = .ok (.aload_n 0, 1) := by decide +kernel
theorem dX8_stands_137 : decode cX8_stands 137 = .ok (.getfield 124, 3) := by decide +kernel
theorem dX8_stands_140 : decode cX8_stands 140 = .ok (.iload_n 1, 1) := by decide +kernel
theorem dX8_stands_141 : decode cX8_stands 141 = .ok (.iaload, 1) := by decide +kernel
theorem dX8_stands_142 : decode cX8_stands 142 = .ok (.iastore, 1) := by decide +kernel
theorem dX8_stands_143 : decode cX8_stands 143 = .ok (.iinc 1 1, 3) := by decide +kernel
theorem dX8_stands_146 : decode cX8_stands 146 = .ok (.goto (-24), 3) := by decide +kernel
theorem dX8_stands_149 : decode cX8_stands 149 = .ok (.iconst 0, 1) := by decide +kernel
theorem dX8_stands_150 : decode cX8_stands 150 = .ok (.istore_n 1, 1) := by decide +kernel
theorem dX8_stands_151 : decode cX8_stands 151 = .ok (.iload_n 1, 1) := by decide +kernel
theorem dX8_stands_152 : decode cX8_stands 152 = .ok (.iconst 4, 1) := by decide +kernel
theorem dX8_stands_153 : decode cX8_stands 153 = .ok (.if_icmp .ge 37, 3) := by decide +kernel
theorem dX8_stands_156 : decode cX8_stands 156 = .ok (.aload_n 0, 1) := by decide +kernel
theorem dX8_stands_157 : decode cX8_stands 157 = .ok (.getfield 130, 3) := by decide +kernel
theorem dX8_stands_160 : decode cX8_stands 160 = .ok (.iconst 4, 1) := by decide +kernel
theorem dX8_stands_161 : decode cX8_stands 161 = .ok (.iload_n 1, 1) := by decide +kernel
theorem dX8_stands_162 : decode cX8_stands 162 = .ok (.iadd, 1) := by decide +kernel
theorem dX8_stands_163 : decode cX8_stands 163 = .ok (.aload_n 0, 1) := by decide +kernel
theorem dX8_stands_164 : decode cX8_stands 164 = .ok (.getfield 130, 3) := by decide +kernel
theorem dX8_stands_167 : decode cX8_stands 167 = .ok (.iload_n 1, 1) := by decide +kernel
theorem dX8_stands_168 : decode cX8_stands 168 = .ok (.iaload, 1) := by decide +kernel
theorem dX8_stands_169 : decode cX8_stands 169 = .ok (.iastore, 1) := by decide +kernel
theorem dX8_stands_170 : decode cX8_stands 170 = .ok (.aload_n 0, 1) := by decide +kernel
theorem dX8_stands_171 : decode cX8_stands 171 = .ok (.getfield 133, 3) := by decide +kernel
theorem dX8_stands_174 : decode cX8_stands 174 = .ok (.iconst 4, 1) := by decide +kernel
theorem dX8_stands_175 : decode cX8_stands 175 = .ok (.iload_n 1, 1) := by decide +kernel
theorem dX8_stands_176 : decode cX8_stands 176 = .ok (.iadd, 1) := by decide +kernel
theorem dX8_stands_177 : decode cX8_stands 177 = .ok (.aload_n 0, 1) := by decide +kernel
theorem dX8_stands_178 : decode cX8_stands 178 = .ok (.getfield 133, 3) := by decide +kernel
theorem dX8_stands_181 : decode cX8_stands 181 = .ok (.iload_n 1, 1) := by decide +kernel
theorem dX8_stands_182 : decode cX8_stands 182 = .ok (.iaload, 1) := by decide +kernel
theorem dX8_stands_183 : decode cX8_stands 183 = .ok (.iastore, 1) := by decide +kernel
theorem dX8_stands_184 : decode cX8_stands 184 = .ok (.iinc 1 1, 3) := by decide +kernel
theorem dX8_stands_187 : decode cX8_stands 187 = .ok (.goto (-36), 3) := by decide +kernel
theorem dX8_stands_190 : decode cX8_stands 190 = .ok (.iconst 0, 1) := by decide +kernel
theorem dX8_stands_191 : decode cX8_stands 191 = .ok (.istore_n 1, 1) := by decide +kernel
theorem dX8_stands_192 : decode cX8_stands 192 = .ok (.iload_n 1, 1) := by decide +kernel
theorem dX8_stands_193 : decode cX8_stands 193 = .ok (.aload_n 0, 1) := by decide +kernel
theorem dX8_stands_194 : decode cX8_stands 194 = .ok (.getfield 398, 3) := by decide +kernel
theorem dX8_stands_197 : decode cX8_stands 197 = .ok (.if_icmp .ge 25, 3) := by decide +kernel
theorem dX8_stands_200 : decode cX8_stands 200 = .ok (.aload_n 0, 1) := by decide +kernel
theorem dX8_stands_201 : decode cX8_stands 201 = .ok (.getfield 136, 3) := by decide +kernel
theorem dX8_stands_204 : decode cX8_stands 204 = .ok (.sipush 1600, 3) := by decide +kernel
theorem dX8_stands_207 : decode cX8_stands 207 = .ok (.iload_n 1, 1) := by decide +kernel
theorem dX8_stands_208 : decode cX8_stands 208 = .ok (.iadd, 1) := by decide +kernel
theorem dX8_stands_209 : decode cX8_stands 209 = .ok (.aload_n 0, 1) := by decide +kernel
theorem dX8_stands_210 : decode cX8_stands 210 = .ok (.getfield 136, 3) := by decide +kernel
theorem dX8_stands_213 : decode cX8_stands 213 = .ok (.iload_n 1, 1) := by decide +kernel
theorem dX8_stands_214 : decode cX8_stands 214 = .ok (.iaload, 1) := by decide +kernel
theorem dX8_stands_215 : decode cX8_stands 215 = .ok (.iastore, 1) := by decide +kernel
theorem dX8_stands_216 : decode cX8_stands 216 = .ok (.iinc 1 1, 3) := by decide +kernel
theorem dX8_stands_219 : decode cX8_stands 219 = .ok (.goto (-27), 3) := by decide +kernel
theorem dX8_stands_222 : decode cX8_stands 222 = .ok (.iconst 0, 1) := by decide +kernel
theorem dX8_stands_223 : decode cX8_stands 223 = .ok (.istore_n 1, 1) := by decide +kernel
theorem dX8_stands_224 : decode cX8_stands 224 = .ok (.iload_n 1, 1) := by decide +kernel
theorem dX8_stands_225 : decode cX8_stands 225 = .ok (.bipush 6, 2) := by decide +kernel
theorem dX8_stands_227 : decode cX8_stands 227 = .ok (.if_icmp .ge 16, 3) := by decide +kernel
theorem dX8_stands_230 : decode cX8_stands 230 = .ok (.aload_n 0, 1) := by decide +kernel
theorem dX8_stands_231 : decode cX8_stands 231 = .ok (.getfield 199, 3) := by decide +kernel
theorem dX8_stands_234 : decode cX8_stands 234 = .ok (.iload_n 1, 1) := by decide +kernel
theorem dX8_stands_235 : decode cX8_stands 235 = .ok (.iconst 0, 1) := by decide +kernel
theorem dX8_stands_236 : decode cX8_stands 236 = .ok (.iastore, 1) := by decide +kernel
theorem dX8_stands_237 : decode cX8_stands 237 = .ok (.iinc 1 1, 3) := by decide +kernel
theorem dX8_stands_240 : decode cX8_stands 240 = .ok (.goto (-16), 3) := by decide +kernel
theorem dX8_stands_243 : decode cX8_stands 243 = .ok (.aload_n 0, 1) := by decide +kernel
theorem dX8_stands_244 : decode cX8_stands 244 = .ok (.getfield 199, 3) := by decide +kernel
theorem dX8_stands_247 : decode cX8_stands 247 = .ok (.iconst 2, 1) := by decide +kernel
theorem dX8_stands_248 : decode cX8_stands 248 = .ok (.aload_n 0, 1) := by decide +kernel
theorem dX8_stands_249 : decode cX8_stands 249 = .ok (.getfield 118, 3) := by decide +kernel
theorem dX8_stands_252 : decode cX8_stands 252 = .ok (.bipush 6, 2) := by decide +kernel
theorem dX8_stands_254 : decode cX8_stands 254 = .ok (.iaload, 1) := by decide +kernel
theorem dX8_stands_255 : decode cX8_stands 255 = .ok (.iastore, 1) := by decide +kernel
theorem dX8_stands_256 : decode cX8_stands 256 = .ok (.aload_n 0, 1) := by decide +kernel
theorem dX8_stands_257 : decode cX8_stands 257 = .ok (.iconst 0, 1) := by decide +kernel
theorem dX8_stands_258 : decode cX8_stands 258 = .ok (.putfield 425, 3) := by decide +kernel
theorem dX8_stands_261 : decode cX8_stands 261 = .ok (.aload_n 0, 1) := by decide +kernel
theorem dX8_stands_262 : decode cX8_stands 262 = .ok (.iconst 0, 1) := by decide +kernel
theorem dX8_stands_263 : decode cX8_stands 263 = .ok (.putfield 428, 3) := by decide +kernel
theorem dX8_stands_266 : decode cX8_stands 266 = .ok (.return_, 1) := by decide +kernel
theorem dX8_fault_0 : decode cX8_fault 0 = .ok (.iload_n 1, 1) := by decide +kernel
theorem dX8_fault_1 : decode cX8_fault 1 = .ok (.ifCond .ne 10, 3) := by decide +kernel
theorem dX8_fault_4 : decode cX8_fault 4 = .ok (.aload_n 0, 1) := by decide +kernel
theorem dX8_fault_5 : decode cX8_fault 5 = .ok (.getfield 416, 3) := by decide +kernel
theorem dX8_fault_8 : decode cX8_fault 8 = .ok (.goto 16, 3) := by decide +kernel
theorem dX8_fault_11 : decode cX8_fault 11 = .ok (.iload_n 1, 1) := by decide +kernel
theorem dX8_fault_12 : decode cX8_fault 12 = .ok (.iconst 1, 1) := by decide +kernel
theorem dX8_fault_13 : decode cX8_fault 13 = .ok (.if_icmp .ne 10, 3) := by decide +kernel
theorem dX8_fault_16 : decode cX8_fault 16 = .ok (.aload_n 0, 1) := by decide +kernel
theorem dX8_fault_17 : decode cX8_fault 17 = .ok (.getfield 13, 3) := by decide +kernel
theorem dX8_fault_20 : decode cX8_fault 20 = .ok (.goto 4, 3) := by decide +kernel
theorem dX8_fault_23 : decode cX8_fault 23 = .ok (.iconst (-1), 1) := by decide +kernel
theorem dX8_fault_24 : decode cX8_fault 24 = .ok (.ireturn, 1) := by decide +kernel
theorem dX8_lengthMany_0 : decode cX8_lengthMany 0 = .ok (.aload_n 0, 1) := by decide +kernel
theorem dX8_lengthMany_1 : decode cX8_lengthMany 1 = .ok (.getfield 111, 3) := by decide +kernel
theorem dX8_lengthMany_4 : decode cX8_lengthMany 4 = .ok (.iconst 3, 1) := by decide +kernel
theorem dX8_lengthMany_5 : decode cX8_lengthMany 5 = .ok (.iaload, 1) := by decide +kernel
theorem dX8_lengthMany_6 : decode cX8_lengthMany 6 = .ok (.ireturn, 1) := by decide +kernel
theorem dX8_seamMany_0 : decode cX8_seamMany 0 = .ok (.aload_n 0, 1) := by decide +kernel
theorem dX8_seamMany_1 : decode cX8_seamMany 1 = .ok (.getfield 111, 3) := by decide +kernel
theorem dX8_seamMany_4 : decode cX8_seamMany 4 = .ok (.iconst 4, 1) := by decide +kernel
theorem dX8_seamMany_5 : decode cX8_seamMany 5 = .ok (.iaload, 1) := by decide +kernel
theorem dX8_seamMany_6 : decode cX8_seamMany 6 = .ok (.ireturn, 1) := by decide +kernel
theorem dX8_ruleMany_0 : decode cX8_ruleMany 0 = .ok (.aload_n 0, 1) := by decide +kernel
theorem dX8_ruleMany_1 : decode cX8_ruleMany 1 = .ok (.getfield 111, 3) := by decide +kernel
theorem dX8_ruleMany_4 : decode cX8_ruleMany 4 = .ok (.iconst 5, 1) := by decide +kernel
theorem dX8_ruleMany_5 : decode cX8_ruleMany 5 = .ok (.iaload, 1) := by decide +kernel
theorem dX8_ruleMany_6 : decode cX8_ruleMany 6 = .ok (.ireturn, 1) := by decide +kernel
theorem dX8_settingOf_0 : decode cX8_settingOf 0 = .ok (.aload_n 0, 1) := by decide +kernel
theorem dX8_settingOf_1 : decode cX8_settingOf 1 = .ok (.getfield 127, 3) := by decide +kernel
theorem dX8_settingOf_4 : decode cX8_settingOf 4 = .ok (.bipush 6, 2) := by decide +kernel
theorem dX8_settingOf_6 : decode cX8_settingOf 6 = .ok (.iload_n 1, 1) := by decide +kernel
theorem dX8_settingOf_7 : decode cX8_settingOf 7 = .ok (.iadd, 1) := by decide +kernel
theorem dX8_settingOf_8 : decode cX8_settingOf 8 = .ok (.iaload, 1) := by decide +kernel
theorem dX8_settingOf_9 : decode cX8_settingOf 9 = .ok (.ireturn, 1) := by decide +kernel
theorem dX8_takesOf_0 : decode cX8_takesOf 0 = .ok (.aload_n 0, 1) := by decide +kernel
theorem dX8_takesOf_1 : decode cX8_takesOf 1 = .ok (.getfield 124, 3) := by decide +kernel
theorem dX8_takesOf_4 : decode cX8_takesOf 4 = .ok (.bipush 70, 2) := by decide +kernel
theorem dX8_takesOf_6 : decode cX8_takesOf 6 = .ok (.bipush 7, 2) := by decide +kernel
theorem dX8_takesOf_8 : decode cX8_takesOf 8 = .ok (.iload_n 1, 1) := by decide +kernel
theorem dX8_takesOf_9 : decode cX8_takesOf 9 = .ok (.imul, 1) := by decide +kernel
theorem dX8_takesOf_10 : decode cX8_takesOf 10 = .ok (.iadd, 1) := by decide +kernel
theorem dX8_takesOf_11 : decode cX8_takesOf 11 = .ok (.iaload, 1) := by decide +kernel
theorem dX8_takesOf_12 : decode cX8_takesOf 12 = .ok (.ireturn, 1) := by decide +kernel
theorem dX8_isShown_0 : decode cX8_isShown 0 = .ok (.aload_n 0, 1) := by decide +kernel
theorem dX8_isShown_1 : decode cX8_isShown 1 = .ok (.getfield 124, 3) := by decide +kernel
theorem dX8_isShown_4 : decode cX8_isShown 4 = .ok (.bipush 71, 2) := by decide +kernel
theorem dX8_isShown_6 : decode cX8_isShown 6 = .ok (.bipush 7, 2) := by decide +kernel
theorem dX8_isShown_8 : decode cX8_isShown 8 = .ok (.iload_n 1, 1) := by decide +kernel
theorem dX8_isShown_9 : decode cX8_isShown 9 = .ok (.imul, 1) := by decide +kernel
theorem dX8_isShown_10 : decode cX8_isShown 10 = .ok (.iadd, 1) := by decide +kernel
theorem dX8_isShown_11 : decode cX8_isShown 11 = .ok (.iaload, 1) := by decide +kernel
theorem dX8_isShown_12 : decode cX8_isShown 12 = .ok (.iconst 1, 1) := by decide +kernel
theorem dX8_isShown_13 : decode cX8_isShown 13 = .ok (.if_icmp .ne 7, 3) := by decide +kernel
theorem dX8_isShown_16 : decode cX8_isShown 16 = .ok (.iconst 1, 1) := by decide +kernel
theorem dX8_isShown_17 : decode cX8_isShown 17 = .ok (.goto 4, 3) := by decide +kernel
theorem dX8_isShown_20 : decode cX8_isShown 20 = .ok (.iconst 0, 1) := by decide +kernel
theorem dX8_isShown_21 : decode cX8_isShown 21 = .ok (.ireturn, 1) := by decide +kernel
theorem dX8_placeMany_0 : decode cX8_placeMany 0 = .ok (.aload_n 0, 1) := by decide +kernel
theorem dX8_placeMany_1 : decode cX8_placeMany 1 = .ok (.getfield 124, 3) := by decide +kernel
theorem dX8_placeMany_4 : decode cX8_placeMany 4 = .ok (.bipush 72, 2) := by decide +kernel
theorem dX8_placeMany_6 : decode cX8_placeMany 6 = .ok (.bipush 7, 2) := by decide +kernel
theorem dX8_placeMany_8 : decode cX8_placeMany 8 = .ok (.iload_n 1, 1) := by decide +kernel
theorem dX8_placeMany_9 : decode cX8_placeMany 9 = .ok (.imul, 1) := by decide +kernel
theorem dX8_placeMany_10 : decode cX8_placeMany 10 = .ok (.iadd, 1) := by decide +kernel
theorem dX8_placeMany_11 : decode cX8_placeMany 11 = .ok (.iaload, 1) := by decide +kernel
theorem dX8_placeMany_12 : decode cX8_placeMany 12 = .ok (.ireturn, 1) := by decide +kernel
theorem dX8_placeOf_0 : decode cX8_placeOf 0 = .ok (.aload_n 0, 1) := by decide +kernel
theorem dX8_placeOf_1 : decode cX8_placeOf 1 = .ok (.getfield 124, 3) := by decide +kernel
theorem dX8_placeOf_4 : decode cX8_placeOf 4 = .ok (.bipush 73, 2) := by decide +kernel
theorem dX8_placeOf_6 : decode cX8_placeOf 6 = .ok (.bipush 7, 2) := by decide +kernel
theorem dX8_placeOf_8 : decode cX8_placeOf 8 = .ok (.iload_n 1, 1) := by decide +kernel
theorem dX8_placeOf_9 : decode cX8_placeOf 9 = .ok (.imul, 1) := by decide +kernel
theorem dX8_placeOf_10 : decode cX8_placeOf 10 = .ok (.iadd, 1) := by decide +kernel
theorem dX8_placeOf_11 : decode cX8_placeOf 11 = .ok (.iload_n 2, 1) := by decide +kernel
theorem dX8_placeOf_12 : decode cX8_placeOf 12 = .ok (.iadd, 1) := by decide +kernel
theorem dX8_placeOf_13 : decode cX8_placeOf 13 = .ok (.iaload, 1) := by decide +kernel
theorem dX8_placeOf_14 : decode cX8_placeOf 14 = .ok (.ireturn, 1) := by decide +kernel
theorem dX8_restOf_0 : decode cX8_restOf 0 = .ok (.iconst 0, 1) := by decide +kernel
theorem dX8_restOf_1 : decode cX8_restOf 1 = .ok (.istore_n 2, 1) := by decide +kernel
theorem dX8_restOf_2 : decode cX8_restOf 2 = .ok (.iload_n 1, 1) := by decide +kernel
theorem dX8_restOf_3 : decode cX8_restOf 3 = .ok (.istore_n 3, 1) := by decide +kernel
theorem dX8_restOf_4 : decode cX8_restOf 4 = .ok (.iload_n 3, 1) := by decide +kernel
theorem dX8_restOf_5 : decode cX8_restOf 5 = .ok (.aload_n 0, 1) := by decide +kernel
theorem dX8_restOf_6 : decode cX8_restOf 6 = .ok (.invokevirtual 431, 3) := by decide +kernel
theorem dX8_restOf_9 : decode cX8_restOf 9 = .ok (.if_icmp .ge 17, 3) := by decide +kernel
theorem dX8_restOf_12 : decode cX8_restOf 12 = .ok (.iload_n 2, 1) := by decide +kernel
theorem dX8_restOf_13 : decode cX8_restOf 13 = .ok (.aload_n 0, 1) := by decide +kernel
theorem dX8_restOf_14 : decode cX8_restOf 14 = .ok (.iload_n 3, 1) := by decide +kernel
theorem dX8_restOf_15 : decode cX8_restOf 15 = .ok (.invokevirtual 434, 3) := by decide +kernel
theorem dX8_restOf_18 : decode cX8_restOf 18 = .ok (.iadd, 1) := by decide +kernel
theorem dX8_restOf_19 : decode cX8_restOf 19 = .ok (.istore_n 2, 1) := by decide +kernel
theorem dX8_restOf_20 : decode cX8_restOf 20 = .ok (.iinc 3 1, 3) := by decide +kernel
theorem dX8_restOf_23 : decode cX8_restOf 23 = .ok (.goto (-19), 3) := by decide +kernel
theorem dX8_restOf_26 : decode cX8_restOf 26 = .ok (.iload_n 2, 1) := by decide +kernel
theorem dX8_restOf_27 : decode cX8_restOf 27 = .ok (.ireturn, 1) := by decide +kernel
theorem dX8_leastLength_0 : decode cX8_leastLength 0 = .ok (.aload_n 0, 1) := by decide +kernel
theorem dX8_leastLength_1 : decode cX8_leastLength 1 = .ok (.getfield 118, 3) := by decide +kernel
theorem dX8_leastLength_4 : decode cX8_leastLength 4 = .ok (.bipush 6, 2) := by decide +kernel
theorem dX8_leastLength_6 : decode cX8_leastLength 6 = .ok (.iaload, 1) := by decide +kernel
theorem dX8_leastLength_7 : decode cX8_leastLength 7 = .ok (.istore_n 1, 1) := by decide +kernel
theorem dX8_leastLength_8 : decode cX8_leastLength 8 = .ok (.iconst 1, 1) := by decide +kernel
theorem dX8_leastLength_9 : decode cX8_leastLength 9 = .ok (.istore_n 2, 1) := by decide +kernel
theorem dX8_leastLength_10 : decode cX8_leastLength 10 = .ok (.iload_n 2, 1) := by decide +kernel
theorem dX8_leastLength_11 : decode cX8_leastLength 11 = .ok (.aload_n 0, 1) := by decide +kernel
theorem dX8_leastLength_12 : decode cX8_leastLength 12 = .ok (.invokevirtual 438, 3) := by decide +kernel
theorem dX8_leastLength_15 : decode cX8_leastLength 15 = .ok (.if_icmp .ge 32, 3) := by decide +kernel
theorem dX8_leastLength_18 : decode cX8_leastLength 18 = .ok (.aload_n 0, 1) := by decide +kernel
theorem dX8_leastLength_19 : decode cX8_leastLength 19 = .ok (.getfield 118, 3) := by decide +kernel
theorem dX8_leastLength_22 : decode cX8_leastLength 22 = .ok (.bipush 6, 2) := by decide +kernel
theorem dX8_leastLength_24 : decode cX8_leastLength 24 = .ok (.iload_n 2, 1) := by decide +kernel
theorem dX8_leastLength_25 : decode cX8_leastLength 25 = .ok (.iadd, 1) := by decide +kernel
theorem dX8_leastLength_26 : decode cX8_leastLength 26 = .ok (.iaload, 1) := by decide +kernel
theorem dX8_leastLength_27 : decode cX8_leastLength 27 = .ok (.iload_n 1, 1) := by decide +kernel
theorem dX8_leastLength_28 : decode cX8_leastLength 28 = .ok (.if_icmp .ge 13, 3) := by decide +kernel
theorem dX8_leastLength_31 : decode cX8_leastLength 31 = .ok (.aload_n 0, 1) := by decide +kernel
theorem dX8_leastLength_32 : decode cX8_leastLength 32 = .ok (.getfield 118, 3) := by decide +kernel
theorem dX8_leastLength_35 : decode cX8_leastLength 35 = .ok (.bipush 6, 2) := by decide +kernel
theorem dX8_leastLength_37 : decode cX8_leastLength 37 = .ok (.iload_n 2, 1) := by decide +kernel
theorem dX8_leastLength_38 : decode cX8_leastLength 38 = .ok (.iadd, 1) := by decide +kernel
theorem dX8_leastLength_39 : decode cX8_leastLength 39 = .ok (.iaload, 1) := by decide +kernel
theorem dX8_leastLength_40 : decode cX8_leastLength 40 = .ok (.istore_n 1, 1) := by decide +kernel
theorem dX8_leastLength_41 : decode cX8_leastLength 41 = .ok (.iinc 2 1, 3) := by decide +kernel
theorem dX8_leastLength_44 : decode cX8_leastLength 44 = .ok (.goto (-34), 3) := by decide +kernel
theorem dX8_leastLength_47 : decode cX8_leastLength 47 = .ok (.iload_n 1, 1) := by decide +kernel
theorem dX8_leastLength_48 : decode cX8_leastLength 48 = .ok (.ireturn, 1) := by decide +kernel
theorem dX8_mostLength_0 : decode cX8_mostLength 0 = .ok (.iconst 0, 1) := by decide +kernel
theorem dX8_mostLength_1 : decode cX8_mostLength 1 = .ok (.istore_n 1, 1) := by decide +kernel
theorem dX8_mostLength_2 : decode cX8_mostLength 2 = .ok (.iconst 0, 1) := by decide +kernel
theorem dX8_mostLength_3 : decode cX8_mostLength 3 = .ok (.istore_n 2, 1) := by decide +kernel
theorem dX8_mostLength_4 : decode cX8_mostLength 4 = .ok (.iload_n 2, 1) := by decide +kernel
theorem dX8_mostLength_5 : decode cX8_mostLength 5 = .ok (.aload_n 0, 1) := by decide +kernel
theorem dX8_mostLength_6 : decode cX8_mostLength 6 = .ok (.invokevirtual 438, 3) := by decide +kernel
theorem dX8_mostLength_9 : decode cX8_mostLength 9 = .ok (.if_icmp .ge 32, 3) := by decide +kernel
theorem dX8_mostLength_12 : decode cX8_mostLength 12 = .ok (.aload_n 0, 1) := by decide +kernel
theorem dX8_mostLength_13 : decode cX8_mostLength 13 = .ok (.getfield 118, 3) := by decide +kernel
theorem dX8_mostLength_16 : decode cX8_mostLength 16 = .ok (.bipush 6, 2) := by decide +kernel
theorem dX8_mostLength_18 : decode cX8_mostLength 18 = .ok (.iload_n 2, 1) := by decide +kernel
theorem dX8_mostLength_19 : decode cX8_mostLength 19 = .ok (.iadd, 1) := by decide +kernel
theorem dX8_mostLength_20 : decode cX8_mostLength 20 = .ok (.iaload, 1) := by decide +kernel
theorem dX8_mostLength_21 : decode cX8_mostLength 21 = .ok (.iload_n 1, 1) := by decide +kernel
theorem dX8_mostLength_22 : decode cX8_mostLength 22 = .ok (.if_icmp .le 13, 3) := by decide +kernel
theorem dX8_mostLength_25 : decode cX8_mostLength 25 = .ok (.aload_n 0, 1) := by decide +kernel
theorem dX8_mostLength_26 : decode cX8_mostLength 26 = .ok (.getfield 118, 3) := by decide +kernel
theorem dX8_mostLength_29 : decode cX8_mostLength 29 = .ok (.bipush 6, 2) := by decide +kernel
theorem dX8_mostLength_31 : decode cX8_mostLength 31 = .ok (.iload_n 2, 1) := by decide +kernel
theorem dX8_mostLength_32 : decode cX8_mostLength 32 = .ok (.iadd, 1) := by decide +kernel
theorem dX8_mostLength_33 : decode cX8_mostLength 33 = .ok (.iaload, 1) := by decide +kernel
theorem dX8_mostLength_34 : decode cX8_mostLength 34 = .ok (.istore_n 1, 1) := by decide +kernel
theorem dX8_mostLength_35 : decode cX8_mostLength 35 = .ok (.iinc 2 1, 3) := by decide +kernel
theorem dX8_mostLength_38 : decode cX8_mostLength 38 = .ok (.goto (-34), 3) := by decide +kernel
theorem dX8_mostLength_41 : decode cX8_mostLength 41 = .ok (.iload_n 1, 1) := by decide +kernel
theorem dX8_mostLength_42 : decode cX8_mostLength 42 = .ok (.ireturn, 1) := by decide +kernel
theorem dX8_oddsFrom_0 : decode cX8_oddsFrom 0 = .ok (.iconst 0, 1) := by decide +kernel
theorem dX8_oddsFrom_1 : decode cX8_oddsFrom 1 = .ok (.istore_n 2, 1) := by decide +kernel
theorem dX8_oddsFrom_2 : decode cX8_oddsFrom 2 = .ok (.iconst 0, 1) := by decide +kernel
theorem dX8_oddsFrom_3 : decode cX8_oddsFrom 3 = .ok (.istore_n 3, 1) := by decide +kernel
theorem dX8_oddsFrom_4 : decode cX8_oddsFrom 4 = .ok (.iload_n 3, 1) := by decide +kernel
theorem dX8_oddsFrom_5 : decode cX8_oddsFrom 5 = .ok (.aload_n 0, 1) := by decide +kernel
theorem dX8_oddsFrom_6 : decode cX8_oddsFrom 6 = .ok (.invokevirtual 438, 3) := by decide +kernel
theorem dX8_oddsFrom_9 : decode cX8_oddsFrom 9 = .ok (.if_icmp .ge 34, 3) := by decide +kernel
theorem dX8_oddsFrom_12 : decode cX8_oddsFrom 12 = .ok (.aload_n 0, 1) := by decide +kernel
theorem dX8_oddsFrom_13 : decode cX8_oddsFrom 13 = .ok (.getfield 118, 3) := by decide +kernel
theorem dX8_oddsFrom_16 : decode cX8_oddsFrom 16 = .ok (.bipush 6, 2) := by decide +kernel
theorem dX8_oddsFrom_18 : decode cX8_oddsFrom 18 = .ok (.iload_n 3, 1) := by decide +kernel
theorem dX8_oddsFrom_19 : decode cX8_oddsFrom 19 = .ok (.iadd, 1) := by decide +kernel
theorem dX8_oddsFrom_20 : decode cX8_oddsFrom 20 = .ok (.iaload, 1) := by decide +kernel
theorem dX8_oddsFrom_21 : decode cX8_oddsFrom 21 = .ok (.iload_n 1, 1) := by decide +kernel
theorem dX8_oddsFrom_22 : decode cX8_oddsFrom 22 = .ok (.if_icmp .lt 15, 3) := by decide +kernel
theorem dX8_oddsFrom_25 : decode cX8_oddsFrom 25 = .ok (.iload_n 2, 1) := by decide +kernel
theorem dX8_oddsFrom_26 : decode cX8_oddsFrom 26 = .ok (.aload_n 0, 1) := by decide +kernel
theorem dX8_oddsFrom_27 : decode cX8_oddsFrom 27 = .ok (.getfield 121, 3) := by decide +kernel
theorem dX8_oddsFrom_30 : decode cX8_oddsFrom 30 = .ok (.bipush 6, 2) := by decide +kernel
theorem dX8_oddsFrom_32 : decode cX8_oddsFrom 32 = .ok (.iload_n 3, 1) := by decide +kernel
theorem dX8_oddsFrom_33 : decode cX8_oddsFrom 33 = .ok (.iadd, 1) := by decide +kernel
theorem dX8_oddsFrom_34 : decode cX8_oddsFrom 34 = .ok (.iaload, 1) := by decide +kernel
theorem dX8_oddsFrom_35 : decode cX8_oddsFrom 35 = .ok (.iadd, 1) := by decide +kernel
theorem dX8_oddsFrom_36 : decode cX8_oddsFrom 36 = .ok (.istore_n 2, 1) := by decide +kernel
theorem dX8_oddsFrom_37 : decode cX8_oddsFrom 37 = .ok (.iinc 3 1, 3) := by decide +kernel
theorem dX8_oddsFrom_40 : decode cX8_oddsFrom 40 = .ok (.goto (-36), 3) := by decide +kernel
theorem dX8_oddsFrom_43 : decode cX8_oddsFrom 43 = .ok (.iload_n 2, 1) := by decide +kernel
theorem dX8_oddsFrom_44 : decode cX8_oddsFrom 44 = .ok (.ireturn, 1) := by decide +kernel
theorem dX8_isTold_0 : decode cX8_isTold 0 = .ok (.aload_n 0, 1) := by decide +kernel
theorem dX8_isTold_1 : decode cX8_isTold 1 = .ok (.iload_n 2, 1) := by decide +kernel
theorem dX8_isTold_2 : decode cX8_isTold 2 = .ok (.putfield 441, 3) := by decide +kernel
theorem dX8_isTold_5 : decode cX8_isTold 5 = .ok (.aload_n 0, 1) := by decide +kernel
theorem dX8_isTold_6 : decode cX8_isTold 6 = .ok (.iload_n 3, 1) := by decide +kernel
theorem dX8_isTold_7 : decode cX8_isTold 7 = .ok (.putfield 444, 3) := by decide +kernel
theorem dX8_isTold_10 : decode cX8_isTold 10 = .ok (.aload_n 0, 1) := by decide +kernel
theorem dX8_isTold_11 : decode cX8_isTold 11 = .ok (.iconst 0, 1) := by decide +kernel
theorem dX8_isTold_12 : decode cX8_isTold 12 = .ok (.putfield 447, 3) := by decide +kernel
theorem dX8_isTold_15 : decode cX8_isTold 15 = .ok (.aload_n 0, 1) := by decide +kernel
theorem dX8_isTold_16 : decode cX8_isTold 16 = .ok (.getfield 130, 3) := by decide +kernel
theorem dX8_isTold_19 : decode cX8_isTold 19 = .ok (.iconst 4, 1) := by decide +kernel
theorem dX8_isTold_20 : decode cX8_isTold 20 = .ok (.iload_n 1, 1) := by decide +kernel
theorem dX8_isTold_21 : decode cX8_isTold 21 = .ok (.iadd, 1) := by decide +kernel
theorem dX8_isTold_22 : decode cX8_isTold 22 = .ok (.iaload, 1) := by decide +kernel
theorem dX8_isTold_23 : decode cX8_isTold 23 = .ok (.istore 4, 2) := by decide +kernel
theorem dX8_isTold_25 : decode cX8_isTold 25 = .ok (.iload 4, 2) := by decide +kernel
theorem dX8_isTold_27 : decode cX8_isTold 27 = .ok (.aload_n 0, 1) := by decide +kernel
theorem dX8_isTold_28 : decode cX8_isTold 28 = .ok (.getfield 133, 3) := by decide +kernel
theorem dX8_isTold_31 : decode cX8_isTold 31 = .ok (.iconst 4, 1) := by decide +kernel
theorem dX8_isTold_32 : decode cX8_isTold 32 = .ok (.iload_n 1, 1) := by decide +kernel
theorem dX8_isTold_33 : decode cX8_isTold 33 = .ok (.iadd, 1) := by decide +kernel
theorem dX8_isTold_34 : decode cX8_isTold 34 = .ok (.iaload, 1) := by decide +kernel
theorem dX8_isTold_35 : decode cX8_isTold 35 = .ok (.if_icmp .ge 123, 3) := by decide +kernel
theorem dX8_isTold_38 : decode cX8_isTold 38 = .ok (.aload_n 0, 1) := by decide +kernel
theorem dX8_isTold_39 : decode cX8_isTold 39 = .ok (.getfield 136, 3) := by decide +kernel
theorem dX8_isTold_42 : decode cX8_isTold 42 = .ok (.sipush 1600, 3) := by decide +kernel
theorem dX8_isTold_45 : decode cX8_isTold 45 = .ok (.iload 4, 2) := by decide +kernel
theorem dX8_isTold_47 : decode cX8_isTold 47 = .ok (.iadd, 1) := by decide +kernel
theorem dX8_isTold_48 : decode cX8_isTold 48 = .ok (.iaload, 1) := by decide +kernel
theorem dX8_isTold_49 : decode cX8_isTold 49 = .ok (.istore 5, 2) := by decide +kernel
theorem dX8_isTold_51 : decode cX8_isTold 51 = .ok (.iload 5, 2) := by decide +kernel
theorem dX8_isTold_53 : decode cX8_isTold 53 = .ok (.sipush 1000, 3) := by decide +kernel
theorem dX8_isTold_56 : decode cX8_isTold 56 = .ok (.if_icmp .lt 17, 3) := by decide +kernel
theorem dX8_isTold_59 : decode cX8_isTold 59 = .ok (.aload_n 0, 1) := by decide +kernel
theorem dX8_isTold_60 : decode cX8_isTold 60 = .ok (.iload 5, 2) := by decide +kernel
theorem dX8_isTold_62 : decode cX8_isTold 62 = .ok (.sipush 1000, 3) := by decide +kernel
theorem dX8_isTold_65 : decode cX8_isTold 65 = .ok (.isub, 1) := by decide +kernel
theorem dX8_isTold_66 : decode cX8_isTold 66 = .ok (.i2l, 1) := by decide +kernel
theorem dX8_isTold_67 : decode cX8_isTold 67 = .ok (.invokevirtual 450, 3) := by decide +kernel
theorem dX8_isTold_70 : decode cX8_isTold 70 = .ok (.goto 82, 3) := by decide +kernel
theorem dX8_isTold_73 : decode cX8_isTold 73 = .ok (.iload 5, 2) := by decide +kernel
theorem dX8_isTold_75 : decode cX8_isTold 75 = .ok (.bipush 40, 2) := by decide +kernel
theorem dX8_isTold_77 : decode cX8_isTold 77 = .ok (.if_icmp .lt 20, 3) := by decide +kernel
theorem dX8_isTold_80 : decode cX8_isTold 80 = .ok (.aload_n 0, 1) := by decide +kernel
theorem dX8_isTold_81 : decode cX8_isTold 81 = .ok (.aload_n 0, 1) := by decide +kernel
theorem dX8_isTold_82 : decode cX8_isTold 82 = .ok (.iload 5, 2) := by decide +kernel
theorem dX8_isTold_84 : decode cX8_isTold 84 = .ok (.bipush 40, 2) := by decide +kernel
theorem dX8_isTold_86 : decode cX8_isTold 86 = .ok (.isub, 1) := by decide +kernel
theorem dX8_isTold_87 : decode cX8_isTold 87 = .ok (.iload_n 2, 1) := by decide +kernel
theorem dX8_isTold_88 : decode cX8_isTold 88 = .ok (.invokevirtual 454, 3) := by decide +kernel
theorem dX8_isTold_91 : decode cX8_isTold 91 = .ok (.invokevirtual 450, 3) := by decide +kernel
theorem dX8_isTold_94 : decode cX8_isTold 94 = .ok (.goto 58, 3) := by decide +kernel
theorem dX8_isTold_97 : decode cX8_isTold 97 = .ok (.iload 5, 2) := by decide +kernel
theorem dX8_isTold_99 : decode cX8_isTold 99 = .ok (.bipush 13, 2) := by decide +kernel
theorem dX8_isTold_101 : decode cX8_isTold 101 = .ok (.if_icmp .ne 11, 3) := by decide +kernel
theorem dX8_isTold_104 : decode cX8_isTold 104 = .ok (.aload_n 0, 1) := by decide +kernel
theorem dX8_isTold_105 : decode cX8_isTold 105 = .ok (.lconst 1, 1) := by decide +kernel
theorem dX8_isTold_106 : decode cX8_isTold 106 = .ok (.invokevirtual 450, 3) := by decide +kernel
theorem dX8_isTold_109 : decode cX8_isTold 109 = .ok (.goto 43, 3) := by decide +kernel
theorem dX8_isTold_112 : decode cX8_isTold 112 = .ok (.iload 5, 2) := by decide +kernel
theorem dX8_isTold_114 : decode cX8_isTold 114 = .ok (.bipush 12, 2) := by decide +kernel
theorem dX8_isTold_116 : decode cX8_isTold 116 = .ok (.if_icmp .ne 30, 3) := by decide +kernel
theorem dX8_isTold_119 : decode cX8_isTold 119 = .ok (.aload_n 0, 1) := by decide +kernel
theorem dX8_isTold_120 : decode cX8_isTold 120 = .ok (.getfield 281, 3) := by decide +kernel
theorem dX8_isTold_123 : decode cX8_isTold 123 = .ok (.aload_n 0, 1) := by decide +kernel
theorem dX8_isTold_124 : decode cX8_isTold 124 = .ok (.getfield 447, 3) := by decide +kernel
theorem dX8_isTold_127 : decode cX8_isTold 127 = .ok (.iconst 1, 1) := by decide +kernel
theorem dX8_isTold_128 : decode cX8_isTold 128 = .ok (.isub, 1) := by decide +kernel
theorem dX8_isTold_129 : decode cX8_isTold 129 = .ok (.lconst 1, 1) := by decide +kernel
theorem dX8_isTold_130 : decode cX8_isTold 130 = .ok (.aload_n 0, 1) := by decide +kernel
theorem dX8_isTold_131 : decode cX8_isTold 131 = .ok (.getfield 281, 3) := by decide +kernel
theorem dX8_isTold_134 : decode cX8_isTold 134 = .ok (.aload_n 0, 1) := by decide +kernel
theorem dX8_isTold_135 : decode cX8_isTold 135 = .ok (.getfield 447, 3) := by decide +kernel
theorem dX8_isTold_138 : decode cX8_isTold 138 = .ok (.iconst 1, 1) := by decide +kernel
theorem dX8_isTold_139 : decode cX8_isTold 139 = .ok (.isub, 1) := by decide +kernel
theorem dX8_isTold_140 : decode cX8_isTold 140 = .ok (.laload, 1) := by decide +kernel
theorem dX8_isTold_141 : decode cX8_isTold 141 = .ok (.lsub, 1) := by decide +kernel
theorem dX8_isTold_142 : decode cX8_isTold 142 = .ok (.lastore, 1) := by decide +kernel
theorem dX8_isTold_143 : decode cX8_isTold 143 = .ok (.goto 9, 3) := by decide +kernel
theorem dX8_isTold_146 : decode cX8_isTold 146 = .ok (.aload_n 0, 1) := by decide +kernel
theorem dX8_isTold_147 : decode cX8_isTold 147 = .ok (.iload 5, 2) := by decide +kernel
theorem dX8_isTold_149 : decode cX8_isTold 149 = .ok (.invokevirtual 458, 3) := by decide +kernel
theorem dX8_isTold_152 : decode cX8_isTold 152 = .ok (.iinc 4 1, 3) := by decide +kernel
theorem dX8_isTold_155 : decode cX8_isTold 155 = .ok (.goto (-130), 3) := by decide +kernel
theorem dX8_isTold_158 : decode cX8_isTold 158 = .ok (.aload_n 0, 1) := by decide +kernel
theorem dX8_isTold_159 : decode cX8_isTold 159 = .ok (.getfield 281, 3) := by decide +kernel
theorem dX8_isTold_162 : decode cX8_isTold 162 = .ok (.iconst 0, 1) := by decide +kernel
theorem dX8_isTold_163 : decode cX8_isTold 163 = .ok (.laload, 1) := by decide +kernel
theorem dX8_isTold_164 : decode cX8_isTold 164 = .ok (.lconst 1, 1) := by decide +kernel
theorem dX8_isTold_165 : decode cX8_isTold 165 = .ok (.lcmp, 1) := by decide +kernel
theorem dX8_isTold_166 : decode cX8_isTold 166 = .ok (.ifCond .ne 7, 3) := by decide +kernel
theorem dX8_isTold_169 : decode cX8_isTold 169 = .ok (.iconst 1, 1) := by decide +kernel
theorem dX8_isTold_170 : decode cX8_isTold 170 = .ok (.goto 4, 3) := by decide +kernel
theorem dX8_isTold_173 : decode cX8_isTold 173 = .ok (.iconst 0, 1) := by decide +kernel
theorem dX8_isTold_174 : decode cX8_isTold 174 = .ok (.ireturn, 1) := by decide +kernel
theorem dX8_meantAt_0 : decode cX8_meantAt 0 = .ok (.iload_n 2, 1) := by decide +kernel
theorem dX8_meantAt_1 : decode cX8_meantAt 1 = .ok (.bipush 99, 2) := by decide +kernel
theorem dX8_meantAt_3 : decode cX8_meantAt 3 = .ok (.if_icmp .le 7, 3) := by decide +kernel
theorem dX8_meantAt_6 : decode cX8_meantAt 6 = .ok (.lconst 0, 1) := by decide +kernel
theorem dX8_meantAt_7 : decode cX8_meantAt 7 = .ok (.goto 14, 3) := by decide +kernel
theorem dX8_meantAt_10 : decode cX8_meantAt 10 = .ok (.aload_n 0, 1) := by decide +kernel
theorem dX8_meantAt_11 : decode cX8_meantAt 11 = .ok (.getfield 145, 3) := by decide +kernel
theorem dX8_meantAt_14 : decode cX8_meantAt 14 = .ok (.bipush 100, 2) := by decide +kernel
theorem dX8_meantAt_16 : decode cX8_meantAt 16 = .ok (.iload_n 1, 1) := by decide +kernel
theorem dX8_meantAt_17 : decode cX8_meantAt 17 = .ok (.imul, 1) := by decide +kernel
theorem dX8_meantAt_18 : decode cX8_meantAt 18 = .ok (.iload_n 2, 1) := by decide +kernel
theorem dX8_meantAt_19 : decode cX8_meantAt 19 = .ok (.iadd, 1) := by decide +kernel
theorem dX8_meantAt_20 : decode cX8_meantAt 20 = .ok (.laload, 1) := by decide +kernel
theorem dX8_meantAt_21 : decode cX8_meantAt 21 = .ok (.lreturn, 1) := by decide +kernel
theorem dX8_behindMended_0 : decode cX8_behindMended 0 = .ok (.aload_n 0, 1) := by decide +kernel
theorem dX8_behindMended_1 : decode cX8_behindMended 1 = .ok (.iconst 1, 1) := by decide +kernel
theorem dX8_behindMended_2 : decode cX8_behindMended 2 = .ok (.invokevirtual 461, 3) := by decide +kernel
theorem dX8_behindMended_5 : decode cX8_behindMended 5 = .ok (.aload_n 0, 1) := by decide +kernel
theorem dX8_behindMended_6 : decode cX8_behindMended 6 = .ok (.iconst 0, 1) := by decide +kernel
theorem dX8_behindMended_7 : decode cX8_behindMended 7 = .ok (.invokevirtual 461, 3) := by decide +kernel
theorem dX8_behindMended_10 : decode cX8_behindMended 10 = .ok (.iadd, 1) := by decide +kernel
theorem dX8_behindMended_11 : decode cX8_behindMended 11 = .ok (.i2l, 1) := by decide +kernel
theorem dX8_behindMended_12 : decode cX8_behindMended 12 = .ok (.aload_n 0, 1) := by decide +kernel
theorem dX8_behindMended_13 : decode cX8_behindMended 13 = .ok (.getfield 139, 3) := by decide +kernel
theorem dX8_behindMended_16 : decode cX8_behindMended 16 = .ok (.iload_n 1, 1) := by decide +kernel
theorem dX8_behindMended_17 : decode cX8_behindMended 17 = .ok (.iconst 1, 1) := by decide +kernel
theorem dX8_behindMended_18 : decode cX8_behindMended 18 = .ok (.iadd, 1) := by decide +kernel
theorem dX8_behindMended_19 : decode cX8_behindMended 19 = .ok (.laload, 1) := by decide +kernel
theorem dX8_behindMended_20 : decode cX8_behindMended 20 = .ok (.lmul, 1) := by decide +kernel
theorem dX8_behindMended_21 : decode cX8_behindMended 21 = .ok (.aload_n 0, 1) := by decide +kernel
theorem dX8_behindMended_22 : decode cX8_behindMended 22 = .ok (.getfield 142, 3) := by decide +kernel
theorem dX8_behindMended_25 : decode cX8_behindMended 25 = .ok (.iload_n 1, 1) := by decide +kernel
theorem dX8_behindMended_26 : decode cX8_behindMended 26 = .ok (.iconst 1, 1) := by decide +kernel
theorem dX8_behindMended_27 : decode cX8_behindMended 27 = .ok (.iadd, 1) := by decide +kernel
theorem dX8_behindMended_28 : decode cX8_behindMended 28 = .ok (.laload, 1) := by decide +kernel
theorem dX8_behindMended_29 : decode cX8_behindMended 29 = .ok (.ladd, 1) := by decide +kernel
theorem dX8_behindMended_30 : decode cX8_behindMended 30 = .ok (.lreturn, 1) := by decide +kernel
theorem dX8_unchanged_0 : decode cX8_unchanged 0 = .ok (.iload_n 2, 1) := by decide +kernel
theorem dX8_unchanged_1 : decode cX8_unchanged 1 = .ok (.aload_n 0, 1) := by decide +kernel
theorem dX8_unchanged_2 : decode cX8_unchanged 2 = .ok (.iload_n 1, 1) := by decide +kernel
theorem dX8_unchanged_3 : decode cX8_unchanged 3 = .ok (.invokevirtual 434, 3) := by decide +kernel
theorem dX8_unchanged_6 : decode cX8_unchanged 6 = .ok (.iadd, 1) := by decide +kernel
theorem dX8_unchanged_7 : decode cX8_unchanged 7 = .ok (.istore_n 3, 1) := by decide +kernel
theorem dX8_unchanged_8 : decode cX8_unchanged 8 = .ok (.ldc2_w 464, 3) := by decide +kernel
theorem dX8_unchanged_11 : decode cX8_unchanged 11 = .ok (.aload_n 0, 1) := by decide +kernel
theorem dX8_unchanged_12 : decode cX8_unchanged 12 = .ok (.iload_n 1, 1) := by decide +kernel
theorem dX8_unchanged_13 : decode cX8_unchanged 13 = .ok (.iconst 1, 1) := by decide +kernel
theorem dX8_unchanged_14 : decode cX8_unchanged 14 = .ok (.iadd, 1) := by decide +kernel
theorem dX8_unchanged_15 : decode cX8_unchanged 15 = .ok (.iload_n 3, 1) := by decide +kernel
theorem dX8_unchanged_16 : decode cX8_unchanged 16 = .ok (.invokevirtual 466, 3) := by decide +kernel
theorem dX8_unchanged_19 : decode cX8_unchanged 19 = .ok (.aload_n 0, 1) := by decide +kernel
theorem dX8_unchanged_20 : decode cX8_unchanged 20 = .ok (.iload_n 2, 1) := by decide +kernel
theorem dX8_unchanged_21 : decode cX8_unchanged 21 = .ok (.invokevirtual 469, 3) := by decide +kernel
theorem dX8_unchanged_24 : decode cX8_unchanged 24 = .ok (.aload_n 0, 1) := by decide +kernel
theorem dX8_unchanged_25 : decode cX8_unchanged 25 = .ok (.iload_n 3, 1) := by decide +kernel
theorem dX8_unchanged_26 : decode cX8_unchanged 26 = .ok (.invokevirtual 469, 3) := by decide +kernel
theorem dX8_unchanged_29 : decode cX8_unchanged 29 = .ok (.isub, 1) := by decide +kernel
theorem dX8_unchanged_30 : decode cX8_unchanged 30 = .ok (.i2l, 1) := by decide +kernel
theorem dX8_unchanged_31 : decode cX8_unchanged 31 = .ok (.aload_n 0, 1) := by decide +kernel
theorem dX8_unchanged_32 : decode cX8_unchanged 32 = .ok (.iload_n 1, 1) := by decide +kernel
theorem dX8_unchanged_33 : decode cX8_unchanged 33 = .ok (.invokevirtual 472, 3) := by decide +kernel
theorem dX8_unchanged_36 : decode cX8_unchanged 36 = .ok (.lmul, 1) := by decide +kernel
theorem dX8_unchanged_37 : decode cX8_unchanged 37 = .ok (.ladd, 1) := by decide +kernel
theorem dX8_unchanged_38 : decode cX8_unchanged 38 = .ok (.lmul, 1) := by decide +kernel
theorem dX8_unchanged_39 : decode cX8_unchanged 39 = .ok (.lreturn, 1) := by decide +kernel
theorem dX8_changed_0 : decode cX8_changed 0 = .ok (.aload_n 0, 1) := by decide +kernel
theorem dX8_changed_1 : decode cX8_changed 1 = .ok (.iconst 0, 1) := by decide +kernel
theorem dX8_changed_2 : decode cX8_changed 2 = .ok (.invokevirtual 461, 3) := by decide +kernel
theorem dX8_changed_5 : decode cX8_changed 5 = .ok (.i2l, 1) := by decide +kernel
theorem dX8_changed_6 : decode cX8_changed 6 = .ok (.aload_n 0, 1) := by decide +kernel
theorem dX8_changed_7 : decode cX8_changed 7 = .ok (.getfield 139, 3) := by decide +kernel
theorem dX8_changed_10 : decode cX8_changed 10 = .ok (.iload_n 1, 1) := by decide +kernel
theorem dX8_changed_11 : decode cX8_changed 11 = .ok (.laload, 1) := by decide +kernel
theorem dX8_changed_12 : decode cX8_changed 12 = .ok (.lmul, 1) := by decide +kernel
theorem dX8_changed_13 : decode cX8_changed 13 = .ok (.aload_n 0, 1) := by decide +kernel
theorem dX8_changed_14 : decode cX8_changed 14 = .ok (.getfield 142, 3) := by decide +kernel
theorem dX8_changed_17 : decode cX8_changed 17 = .ok (.iload_n 1, 1) := by decide +kernel
theorem dX8_changed_18 : decode cX8_changed 18 = .ok (.laload, 1) := by decide +kernel
theorem dX8_changed_19 : decode cX8_changed 19 = .ok (.ladd, 1) := by decide +kernel
theorem dX8_changed_20 : decode cX8_changed 20 = .ok (.lreturn, 1) := by decide +kernel
theorem dX8_looked_0 : decode cX8_looked 0 = .ok (.iload_n 2, 1) := by decide +kernel
theorem dX8_looked_1 : decode cX8_looked 1 = .ok (.aload_n 0, 1) := by decide +kernel
theorem dX8_looked_2 : decode cX8_looked 2 = .ok (.iload_n 1, 1) := by decide +kernel
theorem dX8_looked_3 : decode cX8_looked 3 = .ok (.invokevirtual 434, 3) := by decide +kernel
theorem dX8_looked_6 : decode cX8_looked 6 = .ok (.iadd, 1) := by decide +kernel
theorem dX8_looked_7 : decode cX8_looked 7 = .ok (.istore_n 3, 1) := by decide +kernel
theorem dX8_looked_8 : decode cX8_looked 8 = .ok (.aload_n 0, 1) := by decide +kernel
theorem dX8_looked_9 : decode cX8_looked 9 = .ok (.iload_n 2, 1) := by decide +kernel
theorem dX8_looked_10 : decode cX8_looked 10 = .ok (.invokevirtual 469, 3) := by decide +kernel
theorem dX8_looked_13 : decode cX8_looked 13 = .ok (.aload_n 0, 1) := by decide +kernel
theorem dX8_looked_14 : decode cX8_looked 14 = .ok (.iconst 2, 1) := by decide +kernel
theorem dX8_looked_15 : decode cX8_looked 15 = .ok (.invokevirtual 461, 3) := by decide +kernel
theorem dX8_looked_18 : decode cX8_looked 18 = .ok (.imul, 1) := by decide +kernel
theorem dX8_looked_19 : decode cX8_looked 19 = .ok (.i2l, 1) := by decide +kernel
theorem dX8_looked_20 : decode cX8_looked 20 = .ok (.aload_n 0, 1) := by decide +kernel
theorem dX8_looked_21 : decode cX8_looked 21 = .ok (.getfield 139, 3) := by decide +kernel
theorem dX8_looked_24 : decode cX8_looked 24 = .ok (.iload_n 1, 1) := by decide +kernel
theorem dX8_looked_25 : decode cX8_looked 25 = .ok (.laload, 1) := by decide +kernel
theorem dX8_looked_26 : decode cX8_looked 26 = .ok (.lmul, 1) := by decide +kernel
theorem dX8_looked_27 : decode cX8_looked 27 = .ok (.ldc2_w 464, 3) := by decide +kernel
theorem dX8_looked_30 : decode cX8_looked 30 = .ok (.aload_n 0, 1) := by decide +kernel
theorem dX8_looked_31 : decode cX8_looked 31 = .ok (.iload_n 1, 1) := by decide +kernel
theorem dX8_looked_32 : decode cX8_looked 32 = .ok (.iconst 1, 1) := by decide +kernel
theorem dX8_looked_33 : decode cX8_looked 33 = .ok (.iadd, 1) := by decide +kernel
theorem dX8_looked_34 : decode cX8_looked 34 = .ok (.iload_n 3, 1) := by decide +kernel
theorem dX8_looked_35 : decode cX8_looked 35 = .ok (.invokevirtual 466, 3) := by decide +kernel
theorem dX8_looked_38 : decode cX8_looked 38 = .ok (.lmul, 1) := by decide +kernel
theorem dX8_looked_39 : decode cX8_looked 39 = .ok (.ladd, 1) := by decide +kernel
theorem dX8_looked_40 : decode cX8_looked 40 = .ok (.aload_n 0, 1) := by decide +kernel
theorem dX8_looked_41 : decode cX8_looked 41 = .ok (.iload_n 2, 1) := by decide +kernel
theorem dX8_looked_42 : decode cX8_looked 42 = .ok (.invokevirtual 469, 3) := by decide +kernel
theorem dX8_looked_45 : decode cX8_looked 45 = .ok (.aload_n 0, 1) := by decide +kernel
theorem dX8_looked_46 : decode cX8_looked 46 = .ok (.iload_n 3, 1) := by decide +kernel
theorem dX8_looked_47 : decode cX8_looked 47 = .ok (.invokevirtual 469, 3) := by decide +kernel
theorem dX8_looked_50 : decode cX8_looked 50 = .ok (.isub, 1) := by decide +kernel
theorem dX8_looked_51 : decode cX8_looked 51 = .ok (.i2l, 1) := by decide +kernel
theorem dX8_looked_52 : decode cX8_looked 52 = .ok (.aload_n 0, 1) := by decide +kernel
theorem dX8_looked_53 : decode cX8_looked 53 = .ok (.iload_n 1, 1) := by decide +kernel
theorem dX8_looked_54 : decode cX8_looked 54 = .ok (.invokevirtual 476, 3) := by decide +kernel
theorem dX8_looked_57 : decode cX8_looked 57 = .ok (.lmul, 1) := by decide +kernel
theorem dX8_looked_58 : decode cX8_looked 58 = .ok (.ladd, 1) := by decide +kernel
theorem dX8_looked_59 : decode cX8_looked 59 = .ok (.lreturn, 1) := by decide +kernel
theorem dX8_chosen_0 : decode cX8_chosen 0 = .ok (.aload_n 0, 1) := by decide +kernel
theorem dX8_chosen_1 : decode cX8_chosen 1 = .ok (.iload_n 2, 1) := by decide +kernel
theorem dX8_chosen_2 : decode cX8_chosen 2 = .ok (.iload_n 3, 1) := by decide +kernel
theorem dX8_chosen_3 : decode cX8_chosen 3 = .ok (.invokevirtual 479, 3) := by decide +kernel
theorem dX8_chosen_6 : decode cX8_chosen 6 = .ok (.lstore 4, 2) := by decide +kernel
theorem dX8_chosen_8 : decode cX8_chosen 8 = .ok (.aload_n 0, 1) := by decide +kernel
theorem dX8_chosen_9 : decode cX8_chosen 9 = .ok (.iload_n 3, 1) := by decide +kernel
theorem dX8_chosen_10 : decode cX8_chosen 10 = .ok (.invokevirtual 469, 3) := by decide +kernel
theorem dX8_chosen_13 : decode cX8_chosen 13 = .ok (.i2l, 1) := by decide +kernel
theorem dX8_chosen_14 : decode cX8_chosen 14 = .ok (.aload_n 0, 1) := by decide +kernel
theorem dX8_chosen_15 : decode cX8_chosen 15 = .ok (.iload_n 2, 1) := by decide +kernel
theorem dX8_chosen_16 : decode cX8_chosen 16 = .ok (.invokevirtual 476, 3) := by decide +kernel
theorem dX8_chosen_19 : decode cX8_chosen 19 = .ok (.lmul, 1) := by decide +kernel
theorem dX8_chosen_20 : decode cX8_chosen 20 = .ok (.lstore 6, 2) := by decide +kernel
theorem dX8_chosen_22 : decode cX8_chosen 22 = .ok (.iload_n 1, 1) := by decide +kernel
theorem dX8_chosen_23 : decode cX8_chosen 23 = .ok (.iconst 2, 1) := by decide +kernel
theorem dX8_chosen_24 : decode cX8_chosen 24 = .ok (.if_icmp .ne 10, 3) := by decide +kernel
theorem dX8_chosen_27 : decode cX8_chosen 27 = .ok (.aload_n 0, 1) := by decide +kernel
theorem dX8_chosen_28 : decode cX8_chosen 28 = .ok (.iload_n 2, 1) := by decide +kernel
theorem dX8_chosen_29 : decode cX8_chosen 29 = .ok (.iload_n 3, 1) := by decide +kernel
theorem dX8_chosen_30 : decode cX8_chosen 30 = .ok (.invokevirtual 482, 3) := by decide +kernel
theorem dX8_chosen_33 : decode cX8_chosen 33 = .ok (.lreturn, 1) := by decide +kernel
theorem dX8_chosen_34 : decode cX8_chosen 34 = .ok (.iload_n 1, 1) := by decide +kernel
theorem dX8_chosen_35 : decode cX8_chosen 35 = .ok (.iconst 3, 1) := by decide +kernel
theorem dX8_chosen_36 : decode cX8_chosen 36 = .ok (.if_icmp .eq 9, 3) := by decide +kernel
theorem dX8_chosen_39 : decode cX8_chosen 39 = .ok (.iload_n 1, 1) := by decide +kernel
theorem dX8_chosen_40 : decode cX8_chosen 40 = .ok (.bipush 100, 2) := by decide +kernel
theorem dX8_chosen_42 : decode cX8_chosen 42 = .ok (.if_icmp .ne 50, 3) := by decide +kernel
theorem dX8_chosen_45 : decode cX8_chosen 45 = .ok (.lload 6, 2) := by decide +kernel
theorem dX8_chosen_47 : decode cX8_chosen 47 = .ok (.lload 4, 2) := by decide +kernel
theorem dX8_chosen_49 : decode cX8_chosen 49 = .ok (.lcmp, 1) := by decide +kernel
theorem dX8_chosen_50 : decode cX8_chosen 50 = .ok (.ifCond .ge 8, 3) := by decide +kernel
theorem dX8_chosen_53 : decode cX8_chosen 53 = .ok (.lload 6, 2) := by decide +kernel
theorem dX8_chosen_55 : decode cX8_chosen 55 = .ok (.goto 5, 3) := by decide +kernel
theorem dX8_chosen_58 : decode cX8_chosen 58 = .ok (.lload 4, 2) := by decide +kernel
theorem dX8_chosen_60 : decode cX8_chosen 60 = .ok (.lstore 8, 2) := by decide +kernel
theorem dX8_chosen_62 : decode cX8_chosen 62 = .ok (.iload_n 1, 1) := by decide +kernel
theorem dX8_chosen_63 : decode cX8_chosen 63 = .ok (.bipush 100, 2) := by decide +kernel
theorem dX8_chosen_65 : decode cX8_chosen 65 = .ok (.if_icmp .ne 24, 3) := by decide +kernel
theorem dX8_chosen_68 : decode cX8_chosen 68 = .ok (.aload_n 0, 1) := by decide +kernel
theorem dX8_chosen_69 : decode cX8_chosen 69 = .ok (.iload_n 2, 1) := by decide +kernel
theorem dX8_chosen_70 : decode cX8_chosen 70 = .ok (.iload_n 3, 1) := by decide +kernel
theorem dX8_chosen_71 : decode cX8_chosen 71 = .ok (.invokevirtual 482, 3) := by decide +kernel
theorem dX8_chosen_74 : decode cX8_chosen 74 = .ok (.lload 8, 2) := by decide +kernel
theorem dX8_chosen_76 : decode cX8_chosen 76 = .ok (.lcmp, 1) := by decide +kernel
theorem dX8_chosen_77 : decode cX8_chosen 77 = .ok (.ifCond .ge 12, 3) := by decide +kernel
theorem dX8_chosen_80 : decode cX8_chosen 80 = .ok (.aload_n 0, 1) := by decide +kernel
theorem dX8_chosen_81 : decode cX8_chosen 81 = .ok (.iload_n 2, 1) := by decide +kernel
theorem dX8_chosen_82 : decode cX8_chosen 82 = .ok (.iload_n 3, 1) := by decide +kernel
theorem dX8_chosen_83 : decode cX8_chosen 83 = .ok (.invokevirtual 482, 3) := by decide +kernel
theorem dX8_chosen_86 : decode cX8_chosen 86 = .ok (.goto 5, 3) := by decide +kernel
theorem dX8_chosen_89 : decode cX8_chosen 89 = .ok (.lload 8, 2) := by decide +kernel
theorem dX8_chosen_91 : decode cX8_chosen 91 = .ok (.lreturn, 1) := by decide +kernel
theorem dX8_chosen_92 : decode cX8_chosen 92 = .ok (.aload_n 0, 1) := by decide +kernel
theorem dX8_chosen_93 : decode cX8_chosen 93 = .ok (.iload_n 1, 1) := by decide +kernel
theorem dX8_chosen_94 : decode cX8_chosen 94 = .ok (.iload_n 2, 1) := by decide +kernel
theorem dX8_chosen_95 : decode cX8_chosen 95 = .ok (.iload_n 3, 1) := by decide +kernel
theorem dX8_chosen_96 : decode cX8_chosen 96 = .ok (.invokevirtual 485, 3) := by decide +kernel
theorem dX8_chosen_99 : decode cX8_chosen 99 = .ok (.ifCond .eq 8, 3) := by decide +kernel
theorem dX8_chosen_102 : decode cX8_chosen 102 = .ok (.lload 6, 2) := by decide +kernel
theorem dX8_chosen_104 : decode cX8_chosen 104 = .ok (.goto 5, 3) := by decide +kernel
theorem dX8_chosen_107 : decode cX8_chosen 107 = .ok (.lload 4, 2) := by decide +kernel
theorem dX8_chosen_109 : decode cX8_chosen 109 = .ok (.lreturn, 1) := by decide +kernel
theorem dX8_isChange_0 : decode cX8_isChange 0 = .ok (.iload_n 1, 1) := by decide +kernel
theorem dX8_isChange_1 : decode cX8_isChange 1 = .ok (.iconst 1, 1) := by decide +kernel
theorem dX8_isChange_2 : decode cX8_isChange 2 = .ok (.if_icmp .ne 25, 3) := by decide +kernel
theorem dX8_isChange_5 : decode cX8_isChange 5 = .ok (.iload_n 3, 1) := by decide +kernel
theorem dX8_isChange_6 : decode cX8_isChange 6 = .ok (.aload_n 0, 1) := by decide +kernel
theorem dX8_isChange_7 : decode cX8_isChange 7 = .ok (.iload_n 2, 1) := by decide +kernel
theorem dX8_isChange_8 : decode cX8_isChange 8 = .ok (.invokevirtual 434, 3) := by decide +kernel
theorem dX8_isChange_11 : decode cX8_isChange 11 = .ok (.iadd, 1) := by decide +kernel
theorem dX8_isChange_12 : decode cX8_isChange 12 = .ok (.aload_n 0, 1) := by decide +kernel
theorem dX8_isChange_13 : decode cX8_isChange 13 = .ok (.invokevirtual 489, 3) := by decide +kernel
theorem dX8_isChange_16 : decode cX8_isChange 16 = .ok (.if_icmp .le 7, 3) := by decide +kernel
theorem dX8_isChange_19 : decode cX8_isChange 19 = .ok (.iconst 1, 1) := by decide +kernel
theorem dX8_isChange_20 : decode cX8_isChange 20 = .ok (.goto 29, 3) := by decide +kernel
theorem dX8_isChange_23 : decode cX8_isChange 23 = .ok (.iconst 0, 1) := by decide +kernel
theorem dX8_isChange_24 : decode cX8_isChange 24 = .ok (.goto 25, 3) := by decide +kernel
theorem dX8_isChange_27 : decode cX8_isChange 27 = .ok (.iload_n 1, 1) := by decide +kernel
theorem dX8_isChange_28 : decode cX8_isChange 28 = .ok (.iconst 4, 1) := by decide +kernel
theorem dX8_isChange_29 : decode cX8_isChange 29 = .ok (.if_icmp .lt 19, 3) := by decide +kernel
theorem dX8_isChange_32 : decode cX8_isChange 32 = .ok (.aload_n 0, 1) := by decide +kernel
theorem dX8_isChange_33 : decode cX8_isChange 33 = .ok (.iload_n 1, 1) := by decide +kernel
theorem dX8_isChange_34 : decode cX8_isChange 34 = .ok (.iconst 4, 1) := by decide +kernel
theorem dX8_isChange_35 : decode cX8_isChange 35 = .ok (.isub, 1) := by decide +kernel
theorem dX8_isChange_36 : decode cX8_isChange 36 = .ok (.iload_n 2, 1) := by decide +kernel
theorem dX8_isChange_37 : decode cX8_isChange 37 = .ok (.iload_n 3, 1) := by decide +kernel
theorem dX8_isChange_38 : decode cX8_isChange 38 = .ok (.invokevirtual 492, 3) := by decide +kernel
theorem dX8_isChange_41 : decode cX8_isChange 41 = .ok (.ifCond .eq 7, 3) := by decide +kernel
theorem dX8_isChange_44 : decode cX8_isChange 44 = .ok (.iconst 1, 1) := by decide +kernel
theorem dX8_isChange_45 : decode cX8_isChange 45 = .ok (.goto 4, 3) := by decide +kernel
theorem dX8_isChange_48 : decode cX8_isChange 48 = .ok (.iconst 0, 1) := by decide +kernel
theorem dX8_isChange_49 : decode cX8_isChange 49 = .ok (.ireturn, 1) := by decide +kernel
