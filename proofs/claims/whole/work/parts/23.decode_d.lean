theorem dX7_feed_0 : decode cX7_feed 0 = .ok (.aload_n 0, 1) := by decide +kernel
theorem dX7_feed_1 : decode cX7_feed 1 = .ok (.getfield 70, 3) := by decide +kernel
theorem dX7_feed_4 : decode cX7_feed 4 = .ok (.bipush 20, 2) := by decide +kernel
theorem dX7_feed_6 : decode cX7_feed 6 = .ok (.iadd, 1) := by decide +kernel
theorem dX7_feed_7 : decode cX7_feed 7 = .ok (.sipush 1600, 3) := by decide +kernel
theorem dX7_feed_10 : decode cX7_feed 10 = .ok (.if_icmp .le 9, 3) := by decide +kernel
theorem dX7_feed_13 : decode cX7_feed 13 = .ok (.aload_n 0, 1) := by decide +kernel
theorem dX7_feed_14 : decode cX7_feed 14 = .ok (.iconst 0, 1) := by decide +kernel
theorem dX7_feed_15 : decode cX7_feed 15 = .ok (.invokevirtual 74, 3) := by decide +kernel
theorem dX7_feed_18 : decode cX7_feed 18 = .ok (.ireturn, 1) := by decide +kernel
theorem dX7_feed_19 : decode cX7_feed 19 = .ok (.aload_n 0, 1) := by decide +kernel
theorem dX7_feed_20 : decode cX7_feed 20 = .ok (.iload_n 1, 1) := by decide +kernel
theorem dX7_feed_21 : decode cX7_feed 21 = .ok (.invokevirtual 78, 3) := by decide +kernel
theorem dX7_feed_24 : decode cX7_feed 24 = .ok (.aload_n 0, 1) := by decide +kernel
theorem dX7_feed_25 : decode cX7_feed 25 = .ok (.iload_n 2, 1) := by decide +kernel
theorem dX7_feed_26 : decode cX7_feed 26 = .ok (.invokevirtual 78, 3) := by decide +kernel
theorem dX7_feed_29 : decode cX7_feed 29 = .ok (.aload_n 0, 1) := by decide +kernel
theorem dX7_feed_30 : decode cX7_feed 30 = .ok (.iload_n 3, 1) := by decide +kernel
theorem dX7_feed_31 : decode cX7_feed 31 = .ok (.invokevirtual 78, 3) := by decide +kernel
theorem dX7_feed_34 : decode cX7_feed 34 = .ok (.aload_n 0, 1) := by decide +kernel
theorem dX7_feed_35 : decode cX7_feed 35 = .ok (.iload 4, 2) := by decide +kernel
theorem dX7_feed_37 : decode cX7_feed 37 = .ok (.invokevirtual 78, 3) := by decide +kernel
theorem dX7_feed_40 : decode cX7_feed 40 = .ok (.aload_n 0, 1) := by decide +kernel
theorem dX7_feed_41 : decode cX7_feed 41 = .ok (.iload 5, 2) := by decide +kernel
theorem dX7_feed_43 : decode cX7_feed 43 = .ok (.invokevirtual 78, 3) := by decide +kernel
theorem dX7_feed_46 : decode cX7_feed 46 = .ok (.aload_n 0, 1) := by decide +kernel
theorem dX7_feed_47 : decode cX7_feed 47 = .ok (.getfield 70, 3) := by decide +kernel
theorem dX7_feed_50 : decode cX7_feed 50 = .ok (.ireturn, 1) := by decide +kernel
theorem dX7_append_0 : decode cX7_append 0 = .ok (.bipush 24, 2) := by decide +kernel
theorem dX7_append_2 : decode cX7_append 2 = .ok (.istore_n 2, 1) := by decide +kernel
theorem dX7_append_3 : decode cX7_append 3 = .ok (.iload_n 2, 1) := by decide +kernel
theorem dX7_append_4 : decode cX7_append 4 = .ok (.ifCond .lt 47, 3) := by decide +kernel
theorem dX7_append_7 : decode cX7_append 7 = .ok (.aload_n 0, 1) := by decide +kernel
theorem dX7_append_8 : decode cX7_append 8 = .ok (.getfield 70, 3) := by decide +kernel
theorem dX7_append_11 : decode cX7_append 11 = .ok (.aload_n 0, 1) := by decide +kernel
theorem dX7_append_12 : decode cX7_append 12 = .ok (.getfield 9, 3) := by decide +kernel
theorem dX7_append_15 : decode cX7_append 15 = .ok (.arraylength, 1) := by decide +kernel
theorem dX7_append_16 : decode cX7_append 16 = .ok (.if_icmp .ge 29, 3) := by decide +kernel
theorem dX7_append_19 : decode cX7_append 19 = .ok (.aload_n 0, 1) := by decide +kernel
theorem dX7_append_20 : decode cX7_append 20 = .ok (.getfield 9, 3) := by decide +kernel
theorem dX7_append_23 : decode cX7_append 23 = .ok (.aload_n 0, 1) := by decide +kernel
theorem dX7_append_24 : decode cX7_append 24 = .ok (.getfield 70, 3) := by decide +kernel
theorem dX7_append_27 : decode cX7_append 27 = .ok (.iload_n 1, 1) := by decide +kernel
theorem dX7_append_28 : decode cX7_append 28 = .ok (.iload_n 2, 1) := by decide +kernel
theorem dX7_append_29 : decode cX7_append 29 = .ok (.iushr, 1) := by decide +kernel
theorem dX7_append_30 : decode cX7_append 30 = .ok (.sipush 255, 3) := by decide +kernel
theorem dX7_append_33 : decode cX7_append 33 = .ok (.iand, 1) := by decide +kernel
theorem dX7_append_34 : decode cX7_append 34 = .ok (.iastore, 1) := by decide +kernel
theorem dX7_append_35 : decode cX7_append 35 = .ok (.aload_n 0, 1) := by decide +kernel
theorem dX7_append_36 : decode cX7_append 36 = .ok (.dup, 1) := by decide +kernel
theorem dX7_append_37 : decode cX7_append 37 = .ok (.getfield 70, 3) := by decide +kernel
theorem dX7_append_40 : decode cX7_append 40 = .ok (.iconst 1, 1) := by decide +kernel
theorem dX7_append_41 : decode cX7_append 41 = .ok (.iadd, 1) := by decide +kernel
theorem dX7_append_42 : decode cX7_append 42 = .ok (.putfield 70, 3) := by decide +kernel
theorem dX7_append_45 : decode cX7_append 45 = .ok (.iinc 2 (-8), 3) := by decide +kernel
theorem dX7_append_48 : decode cX7_append 48 = .ok (.goto (-45), 3) := by decide +kernel
theorem dX7_append_51 : decode cX7_append 51 = .ok (.return_, 1) := by decide +kernel
theorem dX7_refuse_0 : decode cX7_refuse 0 = .ok (.iload_n 1, 1) := by decide +kernel
theorem dX7_refuse_1 : decode cX7_refuse 1 = .ok (.ifCond .lt 22, 3) := by decide +kernel
theorem dX7_refuse_4 : decode cX7_refuse 4 = .ok (.iload_n 1, 1) := by decide +kernel
theorem dX7_refuse_5 : decode cX7_refuse 5 = .ok (.aload_n 0, 1) := by decide +kernel
theorem dX7_refuse_6 : decode cX7_refuse 6 = .ok (.getfield 64, 3) := by decide +kernel
theorem dX7_refuse_9 : decode cX7_refuse 9 = .ok (.arraylength, 1) := by decide +kernel
theorem dX7_refuse_10 : decode cX7_refuse 10 = .ok (.if_icmp .ge 13, 3) := by decide +kernel
theorem dX7_refuse_13 : decode cX7_refuse 13 = .ok (.aload_n 0, 1) := by decide +kernel
theorem dX7_refuse_14 : decode cX7_refuse 14 = .ok (.getfield 64, 3) := by decide +kernel
theorem dX7_refuse_17 : decode cX7_refuse 17 = .ok (.iload_n 1, 1) := by decide +kernel
theorem dX7_refuse_18 : decode cX7_refuse 18 = .ok (.dup2, 1) := by decide +kernel
theorem dX7_refuse_19 : decode cX7_refuse 19 = .ok (.iaload, 1) := by decide +kernel
theorem dX7_refuse_20 : decode cX7_refuse 20 = .ok (.iconst 1, 1) := by decide +kernel
theorem dX7_refuse_21 : decode cX7_refuse 21 = .ok (.iadd, 1) := by decide +kernel
theorem dX7_refuse_22 : decode cX7_refuse 22 = .ok (.iastore, 1) := by decide +kernel
theorem dX7_refuse_23 : decode cX7_refuse 23 = .ok (.iconst (-1), 1) := by decide +kernel
theorem dX7_refuse_24 : decode cX7_refuse 24 = .ok (.ireturn, 1) := by decide +kernel
theorem dX7_end_0 : decode cX7_end 0 = .ok (.iload_n 1, 1) := by decide +kernel
theorem dX7_end_1 : decode cX7_end 1 = .ok (.ifCond .lt 11, 3) := by decide +kernel
theorem dX7_end_4 : decode cX7_end 4 = .ok (.iload_n 1, 1) := by decide +kernel
theorem dX7_end_5 : decode cX7_end 5 = .ok (.aload_n 0, 1) := by decide +kernel
theorem dX7_end_6 : decode cX7_end 6 = .ok (.getfield 70, 3) := by decide +kernel
theorem dX7_end_9 : decode cX7_end 9 = .ok (.if_icmp .le 11, 3) := by decide +kernel
theorem dX7_end_12 : decode cX7_end 12 = .ok (.aload_n 0, 1) := by decide +kernel
theorem dX7_end_13 : decode cX7_end 13 = .ok (.iconst 0, 1) := by decide +kernel
theorem dX7_end_14 : decode cX7_end 14 = .ok (.invokevirtual 74, 3) := by decide +kernel
theorem dX7_end_17 : decode cX7_end 17 = .ok (.pop, 1) := by decide +kernel
theorem dX7_end_18 : decode cX7_end 18 = .ok (.iconst 0, 1) := by decide +kernel
theorem dX7_end_19 : decode cX7_end 19 = .ok (.ireturn, 1) := by decide +kernel
theorem dX7_end_20 : decode cX7_end 20 = .ok (.aload_n 0, 1) := by decide +kernel
theorem dX7_end_21 : decode cX7_end 21 = .ok (.iload_n 1, 1) := by decide +kernel
theorem dX7_end_22 : decode cX7_end 22 = .ok (.putfield 70, 3) := by decide +kernel
theorem dX7_end_25 : decode cX7_end 25 = .ok (.iconst 1, 1) := by decide +kernel
theorem dX7_end_26 : decode cX7_end 26 = .ok (.ireturn, 1) := by decide +kernel
theorem dX7_room_0 : decode cX7_room 0 = .ok (.aload_n 0, 1) := by decide +kernel
theorem dX7_room_1 : decode cX7_room 1 = .ok (.getfield 26, 3) := by decide +kernel
theorem dX7_room_4 : decode cX7_room 4 = .ok (.aload_n 0, 1) := by decide +kernel
theorem dX7_room_5 : decode cX7_room 5 = .ok (.getfield 20, 3) := by decide +kernel
theorem dX7_room_8 : decode cX7_room 8 = .ok (.aload_n 0, 1) := by decide +kernel
theorem dX7_room_9 : decode cX7_room 9 = .ok (.getfield 9, 3) := by decide +kernel
theorem dX7_room_12 : decode cX7_room 12 = .ok (.aload_n 0, 1) := by decide +kernel
theorem dX7_room_13 : decode cX7_room 13 = .ok (.getfield 70, 3) := by decide +kernel
theorem dX7_room_16 : decode cX7_room 16 = .ok (.invokevirtual 82, 3) := by decide +kernel
theorem dX7_room_19 : decode cX7_room 19 = .ok (.aload_n 0, 1) := by decide +kernel
theorem dX7_room_20 : decode cX7_room 20 = .ok (.iconst 0, 1) := by decide +kernel
theorem dX7_room_21 : decode cX7_room 21 = .ok (.putfield 70, 3) := by decide +kernel
theorem dX7_room_24 : decode cX7_room 24 = .ok (.aload_n 0, 1) := by decide +kernel
theorem dX7_room_25 : decode cX7_room 25 = .ok (.getfield 26, 3) := by decide +kernel
theorem dX7_room_28 : decode cX7_room 28 = .ok (.getfield 86, 3) := by decide +kernel
theorem dX7_room_31 : decode cX7_room 31 = .ok (.ifCond .eq 9, 3) := by decide +kernel
theorem dX7_room_34 : decode cX7_room 34 = .ok (.aload_n 0, 1) := by decide +kernel
theorem dX7_room_35 : decode cX7_room 35 = .ok (.iconst 1, 1) := by decide +kernel
theorem dX7_room_36 : decode cX7_room 36 = .ok (.invokevirtual 74, 3) := by decide +kernel
theorem dX7_room_39 : decode cX7_room 39 = .ok (.ireturn, 1) := by decide +kernel
theorem dX7_room_40 : decode cX7_room 40 = .ok (.aload_n 0, 1) := by decide +kernel
theorem dX7_room_41 : decode cX7_room 41 = .ok (.getfield 16, 3) := by decide +kernel
theorem dX7_room_44 : decode cX7_room 44 = .ok (.astore_n 1, 1) := by decide +kernel
theorem dX7_room_45 : decode cX7_room 45 = .ok (.aload_n 0, 1) := by decide +kernel
theorem dX7_room_46 : decode cX7_room 46 = .ok (.aload_n 0, 1) := by decide +kernel
theorem dX7_room_47 : decode cX7_room 47 = .ok (.getfield 20, 3) := by decide +kernel
theorem dX7_room_50 : decode cX7_room 50 = .ok (.putfield 16, 3) := by decide +kernel
theorem dX7_room_53 : decode cX7_room 53 = .ok (.aload_n 0, 1) := by decide +kernel
theorem dX7_room_54 : decode cX7_room 54 = .ok (.aload_n 1, 1) := by decide +kernel
theorem dX7_room_55 : decode cX7_room 55 = .ok (.putfield 20, 3) := by decide +kernel
theorem dX7_room_58 : decode cX7_room 58 = .ok (.aload_n 0, 1) := by decide +kernel
theorem dX7_room_59 : decode cX7_room 59 = .ok (.getfield 33, 3) := by decide +kernel
theorem dX7_room_62 : decode cX7_room 62 = .ok (.invokevirtual 89, 3) := by decide +kernel
theorem dX7_room_65 : decode cX7_room 65 = .ok (.aload_n 0, 1) := by decide +kernel
theorem dX7_room_66 : decode cX7_room 66 = .ok (.getfield 47, 3) := by decide +kernel
theorem dX7_room_69 : decode cX7_room 69 = .ok (.invokevirtual 92, 3) := by decide +kernel
theorem dX7_room_72 : decode cX7_room 72 = .ok (.aload_n 0, 1) := by decide +kernel
theorem dX7_room_73 : decode cX7_room 73 = .ok (.getfield 54, 3) := by decide +kernel
theorem dX7_room_76 : decode cX7_room 76 = .ok (.aload_n 0, 1) := by decide +kernel
theorem dX7_room_77 : decode cX7_room 77 = .ok (.getfield 16, 3) := by decide +kernel
theorem dX7_room_80 : decode cX7_room 80 = .ok (.invokevirtual 93, 3) := by decide +kernel
theorem dX7_room_83 : decode cX7_room 83 = .ok (.aload_n 0, 1) := by decide +kernel
theorem dX7_room_84 : decode cX7_room 84 = .ok (.iconst 0, 1) := by decide +kernel
theorem dX7_room_85 : decode cX7_room 85 = .ok (.putfield 97, 3) := by decide +kernel
theorem dX7_room_88 : decode cX7_room 88 = .ok (.aload_n 0, 1) := by decide +kernel
theorem dX7_room_89 : decode cX7_room 89 = .ok (.getfield 16, 3) := by decide +kernel
theorem dX7_room_92 : decode cX7_room 92 = .ok (.getfield 100, 3) := by decide +kernel
theorem dX7_room_95 : decode cX7_room 95 = .ok (.ireturn, 1) := by decide +kernel
theorem dX7_fault_0 : decode cX7_fault 0 = .ok (.iload_n 1, 1) := by decide +kernel
theorem dX7_fault_1 : decode cX7_fault 1 = .ok (.ifCond .ne 11, 3) := by decide +kernel
theorem dX7_fault_4 : decode cX7_fault 4 = .ok (.aload_n 0, 1) := by decide +kernel
theorem dX7_fault_5 : decode cX7_fault 5 = .ok (.getfield 26, 3) := by decide +kernel
theorem dX7_fault_8 : decode cX7_fault 8 = .ok (.getfield 86, 3) := by decide +kernel
theorem dX7_fault_11 : decode cX7_fault 11 = .ok (.ireturn, 1) := by decide +kernel
theorem dX7_fault_12 : decode cX7_fault 12 = .ok (.iload_n 1, 1) := by decide +kernel
theorem dX7_fault_13 : decode cX7_fault 13 = .ok (.iconst 1, 1) := by decide +kernel
theorem dX7_fault_14 : decode cX7_fault 14 = .ok (.if_icmp .ne 13, 3) := by decide +kernel
theorem dX7_fault_17 : decode cX7_fault 17 = .ok (.aload_n 0, 1) := by decide +kernel
theorem dX7_fault_18 : decode cX7_fault 18 = .ok (.getfield 26, 3) := by decide +kernel
theorem dX7_fault_21 : decode cX7_fault 21 = .ok (.getfield 103, 3) := by decide +kernel
theorem dX7_fault_24 : decode cX7_fault 24 = .ok (.goto 4, 3) := by decide +kernel
theorem dX7_fault_27 : decode cX7_fault 27 = .ok (.iconst (-1), 1) := by decide +kernel
theorem dX7_fault_28 : decode cX7_fault 28 = .ok (.ireturn, 1) := by decide +kernel
theorem dX7_has_0 : decode cX7_has 0 = .ok (.iload_n 1, 1) := by decide +kernel
theorem dX7_has_1 : decode cX7_has 1 = .ok (.iconst 3, 1) := by decide +kernel
theorem dX7_has_2 : decode cX7_has 2 = .ok (.if_icmp .lt 21, 3) := by decide +kernel
theorem dX7_has_5 : decode cX7_has 5 = .ok (.iload_n 1, 1) := by decide +kernel
theorem dX7_has_6 : decode cX7_has 6 = .ok (.bipush 8, 2) := by decide +kernel
theorem dX7_has_8 : decode cX7_has 8 = .ok (.if_icmp .gt 15, 3) := by decide +kernel
theorem dX7_has_11 : decode cX7_has 11 = .ok (.aload_n 0, 1) := by decide +kernel
theorem dX7_has_12 : decode cX7_has 12 = .ok (.getfield 16, 3) := by decide +kernel
theorem dX7_has_15 : decode cX7_has 15 = .ok (.getfield 106, 3) := by decide +kernel
theorem dX7_has_18 : decode cX7_has 18 = .ok (.iload_n 1, 1) := by decide +kernel
theorem dX7_has_19 : decode cX7_has 19 = .ok (.iconst 3, 1) := by decide +kernel
theorem dX7_has_20 : decode cX7_has 20 = .ok (.isub, 1) := by decide +kernel
theorem dX7_has_21 : decode cX7_has 21 = .ok (.iaload, 1) := by decide +kernel
theorem dX7_has_22 : decode cX7_has 22 = .ok (.ireturn, 1) := by decide +kernel
theorem dX7_has_23 : decode cX7_has 23 = .ok (.iload_n 1, 1) := by decide +kernel
theorem dX7_has_24 : decode cX7_has 24 = .ok (.tableswitch 117 0 11 #[64, 72, 80, 117, 117, 117, 117, 117, 117, 88, 104, 109], 64) := by decide +kernel
theorem dX7_has_88 : decode cX7_has 88 = .ok (.aload_n 0, 1) := by decide +kernel
theorem dX7_has_89 : decode cX7_has 89 = .ok (.getfield 16, 3) := by decide +kernel
theorem dX7_has_92 : decode cX7_has 92 = .ok (.getfield 109, 3) := by decide +kernel
theorem dX7_has_95 : decode cX7_has 95 = .ok (.ireturn, 1) := by decide +kernel
theorem dX7_has_96 : decode cX7_has 96 = .ok (.aload_n 0, 1) := by decide +kernel
theorem dX7_has_97 : decode cX7_has 97 = .ok (.getfield 16, 3) := by decide +kernel
theorem dX7_has_100 : decode cX7_has 100 = .ok (.getfield 112, 3) := by decide +kernel
theorem dX7_has_103 : decode cX7_has 103 = .ok (.ireturn, 1) := by decide +kernel
theorem dX7_has_104 : decode cX7_has 104 = .ok (.aload_n 0, 1) := by decide +kernel
theorem dX7_has_105 : decode cX7_has 105 = .ok (.getfield 16, 3) := by decide +kernel
theorem dX7_has_108 : decode cX7_has 108 = .ok (.getfield 115, 3) := by decide +kernel
theorem dX7_has_111 : decode cX7_has 111 = .ok (.ireturn, 1) := by decide +kernel
theorem dX7_has_112 : decode cX7_has 112 = .ok (.aload_n 0, 1) := by decide +kernel
theorem dX7_has_113 : decode cX7_has 113 = .ok (.getfield 16, 3) := by decide +kernel
theorem dX7_has_116 : decode cX7_has 116 = .ok (.getfield 118, 3) := by decide +kernel
theorem dX7_has_119 : decode cX7_has 119 = .ok (.aload_n 0, 1) := by decide +kernel
theorem dX7_has_120 : decode cX7_has 120 = .ok (.getfield 16, 3) := by decide +kernel
theorem dX7_has_123 : decode cX7_has 123 = .ok (.getfield 112, 3) := by decide +kernel
theorem dX7_has_126 : decode cX7_has 126 = .ok (.iaload, 1) := by decide +kernel
theorem dX7_has_127 : decode cX7_has 127 = .ok (.ireturn, 1) := by decide +kernel
theorem dX7_has_128 : decode cX7_has 128 = .ok (.aload_n 0, 1) := by decide +kernel
theorem dX7_has_129 : decode cX7_has 129 = .ok (.getfield 97, 3) := by decide +kernel
theorem dX7_has_132 : decode cX7_has 132 = .ok (.ireturn, 1) := by decide +kernel
theorem dX7_has_133 : decode cX7_has 133 = .ok (.aload_n 0, 1) := by decide +kernel
theorem dX7_has_134 : decode cX7_has 134 = .ok (.getfield 54, 3) := by decide +kernel
theorem dX7_has_137 : decode cX7_has 137 = .ok (.getfield 121, 3) := by decide +kernel
theorem dX7_has_140 : decode cX7_has 140 = .ok (.ireturn, 1) := by decide +kernel
theorem dX7_has_141 : decode cX7_has 141 = .ok (.iconst (-1), 1) := by decide +kernel
theorem dX7_has_142 : decode cX7_has 142 = .ok (.ireturn, 1) := by decide +kernel
theorem dX7_letter_0 : decode cX7_letter 0 = .ok (.iload_n 3, 1) := by decide +kernel
theorem dX7_letter_1 : decode cX7_letter 1 = .ok (.ifCond .lt 13, 3) := by decide +kernel
theorem dX7_letter_4 : decode cX7_letter 4 = .ok (.iload_n 3, 1) := by decide +kernel
theorem dX7_letter_5 : decode cX7_letter 5 = .ok (.bipush 6, 2) := by decide +kernel
theorem dX7_letter_7 : decode cX7_letter 7 = .ok (.if_icmp .ge 7, 3) := by decide +kernel
theorem dX7_letter_10 : decode cX7_letter 10 = .ok (.iload_n 2, 1) := by decide +kernel
theorem dX7_letter_11 : decode cX7_letter 11 = .ok (.ifCond .ge 5, 3) := by decide +kernel
theorem dX7_letter_14 : decode cX7_letter 14 = .ok (.iconst (-1), 1) := by decide +kernel
theorem dX7_letter_15 : decode cX7_letter 15 = .ok (.ireturn, 1) := by decide +kernel
theorem dX7_letter_16 : decode cX7_letter 16 = .ok (.iload_n 1, 1) := by decide +kernel
theorem dX7_letter_17 : decode cX7_letter 17 = .ok (.ifCond .ne 29, 3) := by decide +kernel
theorem dX7_letter_20 : decode cX7_letter 20 = .ok (.iload_n 2, 1) := by decide +kernel
theorem dX7_letter_21 : decode cX7_letter 21 = .ok (.aload_n 0, 1) := by decide +kernel
theorem dX7_letter_22 : decode cX7_letter 22 = .ok (.getfield 16, 3) := by decide +kernel
theorem dX7_letter_25 : decode cX7_letter 25 = .ok (.getfield 112, 3) := by decide +kernel
theorem dX7_letter_28 : decode cX7_letter 28 = .ok (.if_icmp .ge 18, 3) := by decide +kernel
theorem dX7_letter_31 : decode cX7_letter 31 = .ok (.aload_n 0, 1) := by decide +kernel
theorem dX7_letter_32 : decode cX7_letter 32 = .ok (.getfield 16, 3) := by decide +kernel
theorem dX7_letter_35 : decode cX7_letter 35 = .ok (.getfield 124, 3) := by decide +kernel
theorem dX7_letter_38 : decode cX7_letter 38 = .ok (.iload_n 2, 1) := by decide +kernel
theorem dX7_letter_39 : decode cX7_letter 39 = .ok (.bipush 6, 2) := by decide +kernel
theorem dX7_letter_41 : decode cX7_letter 41 = .ok (.imul, 1) := by decide +kernel
theorem dX7_letter_42 : decode cX7_letter 42 = .ok (.iload_n 3, 1) := by decide +kernel
theorem dX7_letter_43 : decode cX7_letter 43 = .ok (.iadd, 1) := by decide +kernel
theorem dX7_letter_44 : decode cX7_letter 44 = .ok (.iaload, 1) := by decide +kernel
theorem dX7_letter_45 : decode cX7_letter 45 = .ok (.ireturn, 1) := by decide +kernel
theorem dX7_letter_46 : decode cX7_letter 46 = .ok (.iload_n 1, 1) := by decide +kernel
theorem dX7_letter_47 : decode cX7_letter 47 = .ok (.iconst 1, 1) := by decide +kernel
theorem dX7_letter_48 : decode cX7_letter 48 = .ok (.if_icmp .ne 32, 3) := by decide +kernel
theorem dX7_letter_51 : decode cX7_letter 51 = .ok (.iload_n 2, 1) := by decide +kernel
theorem dX7_letter_52 : decode cX7_letter 52 = .ok (.aload_n 0, 1) := by decide +kernel
theorem dX7_letter_53 : decode cX7_letter 53 = .ok (.getfield 16, 3) := by decide +kernel
theorem dX7_letter_56 : decode cX7_letter 56 = .ok (.getfield 115, 3) := by decide +kernel
theorem dX7_letter_59 : decode cX7_letter 59 = .ok (.if_icmp .ge 21, 3) := by decide +kernel
theorem dX7_letter_62 : decode cX7_letter 62 = .ok (.aload_n 0, 1) := by decide +kernel
theorem dX7_letter_63 : decode cX7_letter 63 = .ok (.getfield 16, 3) := by decide +kernel
theorem dX7_letter_66 : decode cX7_letter 66 = .ok (.getfield 124, 3) := by decide +kernel
theorem dX7_letter_69 : decode cX7_letter 69 = .ok (.bipush 10, 2) := by decide +kernel
theorem dX7_letter_71 : decode cX7_letter 71 = .ok (.iload_n 2, 1) := by decide +kernel
theorem dX7_letter_72 : decode cX7_letter 72 = .ok (.iadd, 1) := by decide +kernel
theorem dX7_letter_73 : decode cX7_letter 73 = .ok (.bipush 6, 2) := by decide +kernel
theorem dX7_letter_75 : decode cX7_letter 75 = .ok (.imul, 1) := by decide +kernel
theorem dX7_letter_76 : decode cX7_letter 76 = .ok (.iload_n 3, 1) := by decide +kernel
theorem dX7_letter_77 : decode cX7_letter 77 = .ok (.iadd, 1) := by decide +kernel
theorem dX7_letter_78 : decode cX7_letter 78 = .ok (.iaload, 1) := by decide +kernel
theorem dX7_letter_79 : decode cX7_letter 79 = .ok (.ireturn, 1) := by decide +kernel
theorem dX7_letter_80 : decode cX7_letter 80 = .ok (.iconst (-1), 1) := by decide +kernel
theorem dX7_letter_81 : decode cX7_letter 81 = .ok (.ireturn, 1) := by decide +kernel
theorem dX7_bobbin_0 : decode cX7_bobbin 0 = .ok (.iload_n 1, 1) := by decide +kernel
theorem dX7_bobbin_1 : decode cX7_bobbin 1 = .ok (.ifCond .lt 14, 3) := by decide +kernel
theorem dX7_bobbin_4 : decode cX7_bobbin 4 = .ok (.iload_n 1, 1) := by decide +kernel
theorem dX7_bobbin_5 : decode cX7_bobbin 5 = .ok (.aload_n 0, 1) := by decide +kernel
theorem dX7_bobbin_6 : decode cX7_bobbin 6 = .ok (.getfield 16, 3) := by decide +kernel
theorem dX7_bobbin_9 : decode cX7_bobbin 9 = .ok (.getfield 109, 3) := by decide +kernel
theorem dX7_bobbin_12 : decode cX7_bobbin 12 = .ok (.if_icmp .lt 5, 3) := by decide +kernel
theorem dX7_bobbin_15 : decode cX7_bobbin 15 = .ok (.iconst (-1), 1) := by decide +kernel
theorem dX7_bobbin_16 : decode cX7_bobbin 16 = .ok (.ireturn, 1) := by decide +kernel
theorem dX7_bobbin_17 : decode cX7_bobbin 17 = .ok (.iload_n 2, 1) := by decide +kernel
theorem dX7_bobbin_18 : decode cX7_bobbin 18 = .ok (.ifCond .ne 13, 3) := by decide +kernel
theorem dX7_bobbin_21 : decode cX7_bobbin 21 = .ok (.aload_n 0, 1) := by decide +kernel
theorem dX7_bobbin_22 : decode cX7_bobbin 22 = .ok (.getfield 16, 3) := by decide +kernel
theorem dX7_bobbin_25 : decode cX7_bobbin 25 = .ok (.getfield 127, 3) := by decide +kernel
theorem dX7_bobbin_28 : decode cX7_bobbin 28 = .ok (.iload_n 1, 1) := by decide +kernel
theorem dX7_bobbin_29 : decode cX7_bobbin 29 = .ok (.iaload, 1) := by decide +kernel
theorem dX7_bobbin_30 : decode cX7_bobbin 30 = .ok (.ireturn, 1) := by decide +kernel
theorem dX7_bobbin_31 : decode cX7_bobbin 31 = .ok (.iload_n 2, 1) := by decide +kernel
theorem dX7_bobbin_32 : decode cX7_bobbin 32 = .ok (.iconst 1, 1) := by decide +kernel
theorem dX7_bobbin_33 : decode cX7_bobbin 33 = .ok (.if_icmp .ne 15, 3) := by decide +kernel
theorem dX7_bobbin_36 : decode cX7_bobbin 36 = .ok (.aload_n 0, 1) := by decide +kernel
theorem dX7_bobbin_37 : decode cX7_bobbin 37 = .ok (.getfield 16, 3) := by decide +kernel
theorem dX7_bobbin_40 : decode cX7_bobbin 40 = .ok (.getfield 130, 3) := by decide +kernel
theorem dX7_bobbin_43 : decode cX7_bobbin 43 = .ok (.iload_n 1, 1) := by decide +kernel
theorem dX7_bobbin_44 : decode cX7_bobbin 44 = .ok (.iaload, 1) := by decide +kernel
theorem dX7_bobbin_45 : decode cX7_bobbin 45 = .ok (.goto 4, 3) := by decide +kernel
theorem dX7_bobbin_48 : decode cX7_bobbin 48 = .ok (.iconst (-1), 1) := by decide +kernel
theorem dX7_bobbin_49 : decode cX7_bobbin 49 = .ok (.ireturn, 1) := by decide +kernel
theorem dX7_seam_0 : decode cX7_seam 0 = .ok (.iload_n 1, 1) := by decide +kernel
theorem dX7_seam_1 : decode cX7_seam 1 = .ok (.ifCond .lt 14, 3) := by decide +kernel
theorem dX7_seam_4 : decode cX7_seam 4 = .ok (.iload_n 1, 1) := by decide +kernel
theorem dX7_seam_5 : decode cX7_seam 5 = .ok (.aload_n 0, 1) := by decide +kernel
theorem dX7_seam_6 : decode cX7_seam 6 = .ok (.getfield 16, 3) := by decide +kernel
theorem dX7_seam_9 : decode cX7_seam 9 = .ok (.getfield 112, 3) := by decide +kernel
theorem dX7_seam_12 : decode cX7_seam 12 = .ok (.if_icmp .lt 5, 3) := by decide +kernel
theorem dX7_seam_15 : decode cX7_seam 15 = .ok (.iconst (-1), 1) := by decide +kernel
theorem dX7_seam_16 : decode cX7_seam 16 = .ok (.ireturn, 1) := by decide +kernel
theorem dX7_seam_17 : decode cX7_seam 17 = .ok (.iload_n 2, 1) := by decide +kernel
theorem dX7_seam_18 : decode cX7_seam 18 = .ok (.tableswitch 56 0 2 #[26, 36, 46], 26) := by decide +kernel
theorem dX7_seam_44 : decode cX7_seam 44 = .ok (.aload_n 0, 1) := by decide +kernel
theorem dX7_seam_45 : decode cX7_seam 45 = .ok (.getfield 16, 3) := by decide +kernel
theorem dX7_seam_48 : decode cX7_seam 48 = .ok (.getfield 133, 3) := by decide +kernel
theorem dX7_seam_51 : decode cX7_seam 51 = .ok (.iload_n 1, 1) := by decide +kernel
theorem dX7_seam_52 : decode cX7_seam 52 = .ok (.iaload, 1) := by decide +kernel
theorem dX7_seam_53 : decode cX7_seam 53 = .ok (.ireturn, 1) := by decide +kernel
theorem dX7_seam_54 : decode cX7_seam 54 = .ok (.aload_n 0, 1) := by decide +kernel
theorem dX7_seam_55 : decode cX7_seam 55 = .ok (.getfield 16, 3) := by decide +kernel
theorem dX7_seam_58 : decode cX7_seam 58 = .ok (.getfield 136, 3) := by decide +kernel
theorem dX7_seam_61 : decode cX7_seam 61 = .ok (.iload_n 1, 1) := by decide +kernel
theorem dX7_seam_62 : decode cX7_seam 62 = .ok (.iaload, 1) := by decide +kernel
theorem dX7_seam_63 : decode cX7_seam 63 = .ok (.ireturn, 1) := by decide +kernel
theorem dX7_seam_64 : decode cX7_seam 64 = .ok (.aload_n 0, 1) := by decide +kernel
theorem dX7_seam_65 : decode cX7_seam 65 = .ok (.getfield 16, 3) := by decide +kernel
theorem dX7_seam_68 : decode cX7_seam 68 = .ok (.getfield 139, 3) := by decide +kernel
theorem dX7_seam_71 : decode cX7_seam 71 = .ok (.iload_n 1, 1) := by decide +kernel
theorem dX7_seam_72 : decode cX7_seam 72 = .ok (.iaload, 1) := by decide +kernel
theorem dX7_seam_73 : decode cX7_seam 73 = .ok (.ireturn, 1) := by decide +kernel
theorem dX7_seam_74 : decode cX7_seam 74 = .ok (.iload_n 2, 1) := by decide +kernel
theorem dX7_seam_75 : decode cX7_seam 75 = .ok (.bipush 10, 2) := by decide +kernel
theorem dX7_seam_77 : decode cX7_seam 77 = .ok (.if_icmp .lt 19, 3) := by decide +kernel
theorem dX7_seam_80 : decode cX7_seam 80 = .ok (.iload_n 2, 1) := by decide +kernel
theorem dX7_seam_81 : decode cX7_seam 81 = .ok (.bipush 10, 2) := by decide +kernel
theorem dX7_seam_83 : decode cX7_seam 83 = .ok (.isub, 1) := by decide +kernel
theorem dX7_seam_84 : decode cX7_seam 84 = .ok (.aload_n 0, 1) := by decide +kernel
theorem dX7_seam_85 : decode cX7_seam 85 = .ok (.getfield 16, 3) := by decide +kernel
theorem dX7_seam_88 : decode cX7_seam 88 = .ok (.getfield 139, 3) := by decide +kernel
theorem dX7_seam_91 : decode cX7_seam 91 = .ok (.iload_n 1, 1) := by decide +kernel
theorem dX7_seam_92 : decode cX7_seam 92 = .ok (.iaload, 1) := by decide +kernel
theorem dX7_seam_93 : decode cX7_seam 93 = .ok (.if_icmp .lt 5, 3) := by decide +kernel
theorem dX7_seam_96 : decode cX7_seam 96 = .ok (.iconst (-1), 1) := by decide +kernel
theorem dX7_seam_97 : decode cX7_seam 97 = .ok (.ireturn, 1) := by decide +kernel
theorem dX7_seam_98 : decode cX7_seam 98 = .ok (.aload_n 0, 1) := by decide +kernel
theorem dX7_seam_99 : decode cX7_seam 99 = .ok (.getfield 16, 3) := by decide +kernel
theorem dX7_seam_102 : decode cX7_seam 102 = .ok (.getfield 142, 3) := by decide +kernel
theorem dX7_seam_105 : decode cX7_seam 105 = .ok (.iload_n 1, 1) := by decide +kernel
theorem dX7_seam_106 : decode cX7_seam 106 = .ok (.iconst 4, 1) := by decide +kernel
theorem dX7_seam_107 : decode cX7_seam 107 = .ok (.imul, 1) := by decide +kernel
theorem dX7_seam_108 : decode cX7_seam 108 = .ok (.iload_n 2, 1) := by decide +kernel
theorem dX7_seam_109 : decode cX7_seam 109 = .ok (.iadd, 1) := by decide +kernel
theorem dX7_seam_110 : decode cX7_seam 110 = .ok (.bipush 10, 2) := by decide +kernel
theorem dX7_seam_112 : decode cX7_seam 112 = .ok (.isub, 1) := by decide +kernel
theorem dX7_seam_113 : decode cX7_seam 113 = .ok (.iaload, 1) := by decide +kernel
theorem dX7_seam_114 : decode cX7_seam 114 = .ok (.ireturn, 1) := by decide +kernel
theorem dX7_row_0 : decode cX7_row 0 = .ok (.iload_n 3, 1) := by decide +kernel
theorem dX7_row_1 : decode cX7_row 1 = .ok (.ifCond .lt 23, 3) := by decide +kernel
theorem dX7_row_4 : decode cX7_row 4 = .ok (.iload_n 3, 1) := by decide +kernel
theorem dX7_row_5 : decode cX7_row 5 = .ok (.aload_n 0, 1) := by decide +kernel
theorem dX7_row_6 : decode cX7_row 6 = .ok (.getfield 16, 3) := by decide +kernel
theorem dX7_row_9 : decode cX7_row 9 = .ok (.getfield 112, 3) := by decide +kernel
theorem dX7_row_12 : decode cX7_row 12 = .ok (.if_icmp .ge 12, 3) := by decide +kernel
theorem dX7_row_15 : decode cX7_row 15 = .ok (.aload_n 0, 1) := by decide +kernel
theorem dX7_row_16 : decode cX7_row 16 = .ok (.iload_n 1, 1) := by decide +kernel
theorem dX7_row_17 : decode cX7_row 17 = .ok (.iload_n 2, 1) := by decide +kernel
theorem dX7_row_18 : decode cX7_row 18 = .ok (.invokevirtual 145, 3) := by decide +kernel
theorem dX7_row_21 : decode cX7_row 21 = .ok (.ifCond .ne 5, 3) := by decide +kernel
theorem dX7_row_24 : decode cX7_row 24 = .ok (.iconst (-1), 1) := by decide +kernel
theorem dX7_row_25 : decode cX7_row 25 = .ok (.ireturn, 1) := by decide +kernel
theorem dX7_row_26 : decode cX7_row 26 = .ok (.iload 4, 2) := by decide +kernel
theorem dX7_row_28 : decode cX7_row 28 = .ok (.tableswitch 58 0 2 #[28, 38, 48], 28) := by decide +kernel
theorem dX7_row_56 : decode cX7_row 56 = .ok (.aload_n 0, 1) := by decide +kernel
theorem dX7_row_57 : decode cX7_row 57 = .ok (.getfield 40, 3) := by decide +kernel
theorem dX7_row_60 : decode cX7_row 60 = .ok (.getfield 149, 3) := by decide +kernel
theorem dX7_row_63 : decode cX7_row 63 = .ok (.iload_n 3, 1) := by decide +kernel
theorem dX7_row_64 : decode cX7_row 64 = .ok (.iaload, 1) := by decide +kernel
theorem dX7_row_65 : decode cX7_row 65 = .ok (.ireturn, 1) := by decide +kernel
theorem dX7_row_66 : decode cX7_row 66 = .ok (.aload_n 0, 1) := by decide +kernel
theorem dX7_row_67 : decode cX7_row 67 = .ok (.getfield 40, 3) := by decide +kernel
theorem dX7_row_70 : decode cX7_row 70 = .ok (.getfield 152, 3) := by decide +kernel
theorem dX7_row_73 : decode cX7_row 73 = .ok (.iload_n 3, 1) := by decide +kernel
theorem dX7_row_74 : decode cX7_row 74 = .ok (.iaload, 1) := by decide +kernel
theorem dX7_row_75 : decode cX7_row 75 = .ok (.ireturn, 1) := by decide +kernel
theorem dX7_row_76 : decode cX7_row 76 = .ok (.aload_n 0, 1) := by decide +kernel
theorem dX7_row_77 : decode cX7_row 77 = .ok (.getfield 40, 3) := by decide +kernel
theorem dX7_row_80 : decode cX7_row 80 = .ok (.getfield 155, 3) := by decide +kernel
theorem dX7_row_83 : decode cX7_row 83 = .ok (.iload_n 3, 1) := by decide +kernel
theorem dX7_row_84 : decode cX7_row 84 = .ok (.iaload, 1) := by decide +kernel
theorem dX7_row_85 : decode cX7_row 85 = .ok (.ireturn, 1) := by decide +kernel
theorem dX7_row_86 : decode cX7_row 86 = .ok (.iconst (-1), 1) := by decide +kernel
theorem dX7_row_87 : decode cX7_row 87 = .ok (.ireturn, 1) := by decide +kernel
theorem dX7_judge_0 : decode cX7_judge 0 = .ok (.aload_n 0, 1) := by decide +kernel
theorem dX7_judge_1 : decode cX7_judge 1 = .ok (.iload_n 1, 1) := by decide +kernel
theorem dX7_judge_2 : decode cX7_judge 2 = .ok (.iload_n 2, 1) := by decide +kernel
theorem dX7_judge_3 : decode cX7_judge 3 = .ok (.invokevirtual 145, 3) := by decide +kernel
theorem dX7_judge_6 : decode cX7_judge 6 = .ok (.ifCond .ne 5, 3) := by decide +kernel
theorem dX7_judge_9 : decode cX7_judge 9 = .ok (.iconst (-1), 1) := by decide +kernel
theorem dX7_judge_10 : decode cX7_judge 10 = .ok (.ireturn, 1) := by decide +kernel
theorem dX7_judge_11 : decode cX7_judge 11 = .ok (.iload_n 3, 1) := by decide +kernel
theorem dX7_judge_12 : decode cX7_judge 12 = .ok (.tableswitch 64 0 3 #[32, 40, 48, 56], 32) := by decide +kernel
theorem dX7_judge_44 : decode cX7_judge 44 = .ok (.aload_n 0, 1) := by decide +kernel
theorem dX7_judge_45 : decode cX7_judge 45 = .ok (.getfield 40, 3) := by decide +kernel
theorem dX7_judge_48 : decode cX7_judge 48 = .ok (.getfield 158, 3) := by decide +kernel
theorem dX7_judge_51 : decode cX7_judge 51 = .ok (.ireturn, 1) := by decide +kernel
theorem dX7_judge_52 : decode cX7_judge 52 = .ok (.aload_n 0, 1) := by decide +kernel
theorem dX7_judge_53 : decode cX7_judge 53 = .ok (.getfield 40, 3) := by decide +kernel
theorem dX7_judge_56 : decode cX7_judge 56 = .ok (.getfield 161, 3) := by decide +kernel
theorem dX7_judge_59 : decode cX7_judge 59 = .ok (.ireturn, 1) := by decide +kernel
theorem dX7_judge_60 : decode cX7_judge 60 = .ok (.aload_n 0, 1) := by decide +kernel
theorem dX7_judge_61 : decode cX7_judge 61 = .ok (.getfield 40, 3) := by decide +kernel
theorem dX7_judge_64 : decode cX7_judge 64 = .ok (.getfield 164, 3) := by decide +kernel
theorem dX7_judge_67 : decode cX7_judge 67 = .ok (.ireturn, 1) := by decide +kernel
theorem dX7_judge_68 : decode cX7_judge 68 = .ok (.aload_n 0, 1) := by decide +kernel
theorem dX7_judge_69 : decode cX7_judge 69 = .ok (.getfield 40, 3) := by decide +kernel
theorem dX7_judge_72 : decode cX7_judge 72 = .ok (.getfield 167, 3) := by decide +kernel
theorem dX7_judge_75 : decode cX7_judge 75 = .ok (.ireturn, 1) := by decide +kernel
theorem dX7_judge_76 : decode cX7_judge 76 = .ok (.iconst (-1), 1) := by decide +kernel
theorem dX7_judge_77 : decode cX7_judge 77 = .ok (.ireturn, 1) := by decide +kernel
theorem dX7_follow_0 : decode cX7_follow 0 = .ok (.aload_n 0, 1) := by decide +kernel
theorem dX7_follow_1 : decode cX7_follow 1 = .ok (.getfield 16, 3) := by decide +kernel
theorem dX7_follow_4 : decode cX7_follow 4 = .ok (.iload_n 1, 1) := by decide +kernel
theorem dX7_follow_5 : decode cX7_follow 5 = .ok (.invokevirtual 170, 3) := by decide +kernel
theorem dX7_follow_8 : decode cX7_follow 8 = .ok (.ifCond .eq 10, 3) := by decide +kernel
theorem dX7_follow_11 : decode cX7_follow 11 = .ok (.iload_n 2, 1) := by decide +kernel
theorem dX7_follow_12 : decode cX7_follow 12 = .ok (.invokestatic 174, 3) := by decide +kernel
theorem dX7_follow_15 : decode cX7_follow 15 = .ok (.ifCond .ne 5, 3) := by decide +kernel
theorem dX7_follow_18 : decode cX7_follow 18 = .ok (.iconst 0, 1) := by decide +kernel
theorem dX7_follow_19 : decode cX7_follow 19 = .ok (.ireturn, 1) := by decide +kernel
theorem dX7_follow_20 : decode cX7_follow 20 = .ok (.iload_n 1, 1) := by decide +kernel
theorem dX7_follow_21 : decode cX7_follow 21 = .ok (.iconst 3, 1) := by decide +kernel
theorem dX7_follow_22 : decode cX7_follow 22 = .ok (.if_icmp .ne 15, 3) := by decide +kernel
theorem dX7_follow_25 : decode cX7_follow 25 = .ok (.aload_n 0, 1) := by decide +kernel
theorem dX7_follow_26 : decode cX7_follow 26 = .ok (.getfield 33, 3) := by decide +kernel
theorem dX7_follow_29 : decode cX7_follow 29 = .ok (.aload_n 0, 1) := by decide +kernel
theorem dX7_follow_30 : decode cX7_follow 30 = .ok (.getfield 16, 3) := by decide +kernel
theorem dX7_follow_33 : decode cX7_follow 33 = .ok (.iconst 3, 1) := by decide +kernel
theorem dX7_follow_34 : decode cX7_follow 34 = .ok (.invokevirtual 177, 3) := by decide +kernel
theorem dX7_follow_37 : decode cX7_follow 37 = .ok (.aload_n 0, 1) := by decide +kernel
theorem dX7_follow_38 : decode cX7_follow 38 = .ok (.getfield 40, 3) := by decide +kernel
theorem dX7_follow_41 : decode cX7_follow 41 = .ok (.aload_n 0, 1) := by decide +kernel
theorem dX7_follow_42 : decode cX7_follow 42 = .ok (.getfield 16, 3) := by decide +kernel
theorem dX7_follow_45 : decode cX7_follow 45 = .ok (.aload_n 0, 1) := by decide +kernel
theorem dX7_follow_46 : decode cX7_follow 46 = .ok (.getfield 33, 3) := by decide +kernel
theorem dX7_follow_49 : decode cX7_follow 49 = .ok (.iload_n 1, 1) := by decide +kernel
theorem dX7_follow_50 : decode cX7_follow 50 = .ok (.iload_n 2, 1) := by decide +kernel
theorem dX7_follow_51 : decode cX7_follow 51 = .ok (.invokevirtual 181, 3) := by decide +kernel
theorem dX7_follow_54 : decode cX7_follow 54 = .ok (.iconst 1, 1) := by decide +kernel
theorem dX7_follow_55 : decode cX7_follow 55 = .ok (.ireturn, 1) := by decide +kernel
theorem dX7_isLength_0 : decode cX7_isLength 0 = .ok (.iload_n 0, 1) := by decide +kernel
theorem dX7_isLength_1 : decode cX7_isLength 1 = .ok (.iconst 1, 1) := by decide +kernel
theorem dX7_isLength_2 : decode cX7_isLength 2 = .ok (.if_icmp .lt 13, 3) := by decide +kernel
theorem dX7_isLength_5 : decode cX7_isLength 5 = .ok (.iload_n 0, 1) := by decide +kernel
theorem dX7_isLength_6 : decode cX7_isLength 6 = .ok (.bipush 99, 2) := by decide +kernel
theorem dX7_isLength_8 : decode cX7_isLength 8 = .ok (.if_icmp .gt 7, 3) := by decide +kernel
theorem dX7_isLength_11 : decode cX7_isLength 11 = .ok (.iconst 1, 1) := by decide +kernel
theorem dX7_isLength_12 : decode cX7_isLength 12 = .ok (.goto 4, 3) := by decide +kernel
theorem dX7_isLength_15 : decode cX7_isLength 15 = .ok (.iconst 0, 1) := by decide +kernel
theorem dX7_isLength_16 : decode cX7_isLength 16 = .ok (.ireturn, 1) := by decide +kernel
theorem dX7_weighs_0 : decode cX7_weighs 0 = .ok (.aload_n 0, 1) := by decide +kernel
theorem dX7_weighs_1 : decode cX7_weighs 1 = .ok (.getfield 16, 3) := by decide +kernel
theorem dX7_weighs_4 : decode cX7_weighs 4 = .ok (.getfield 100, 3) := by decide +kernel
theorem dX7_weighs_7 : decode cX7_weighs 7 = .ok (.ifCond .le 19, 3) := by decide +kernel
theorem dX7_weighs_10 : decode cX7_weighs 10 = .ok (.aload_n 0, 1) := by decide +kernel
theorem dX7_weighs_11 : decode cX7_weighs 11 = .ok (.getfield 16, 3) := by decide +kernel
theorem dX7_weighs_14 : decode cX7_weighs 14 = .ok (.getfield 112, 3) := by decide +kernel
theorem dX7_weighs_17 : decode cX7_weighs 17 = .ok (.bipush 6, 2) := by decide +kernel
theorem dX7_weighs_19 : decode cX7_weighs 19 = .ok (.if_icmp .gt 7, 3) := by decide +kernel
theorem dX7_weighs_22 : decode cX7_weighs 22 = .ok (.iconst 1, 1) := by decide +kernel
theorem dX7_weighs_23 : decode cX7_weighs 23 = .ok (.goto 4, 3) := by decide +kernel
theorem dX7_weighs_26 : decode cX7_weighs 26 = .ok (.iconst 0, 1) := by decide +kernel
theorem dX7_weighs_27 : decode cX7_weighs 27 = .ok (.ireturn, 1) := by decide +kernel
theorem dX7_mean_0 : decode cX7_mean 0 = .ok (.aload_n 0, 1) := by decide +kernel
theorem dX7_mean_1 : decode cX7_mean 1 = .ok (.invokevirtual 185, 3) := by decide +kernel
theorem dX7_mean_4 : decode cX7_mean 4 = .ok (.ifCond .eq 14, 3) := by decide +kernel
theorem dX7_mean_7 : decode cX7_mean 7 = .ok (.aload_n 0, 1) := by decide +kernel
theorem dX7_mean_8 : decode cX7_mean 8 = .ok (.getfield 16, 3) := by decide +kernel
theorem dX7_mean_11 : decode cX7_mean 11 = .ok (.iload_n 1, 1) := by decide +kernel
theorem dX7_mean_12 : decode cX7_mean 12 = .ok (.invokevirtual 170, 3) := by decide +kernel
theorem dX7_mean_15 : decode cX7_mean 15 = .ok (.ifCond .ne 5, 3) := by decide +kernel
theorem dX7_mean_18 : decode cX7_mean 18 = .ok (.iconst (-1), 1) := by decide +kernel
theorem dX7_mean_19 : decode cX7_mean 19 = .ok (.ireturn, 1) := by decide +kernel
theorem dX7_mean_20 : decode cX7_mean 20 = .ok (.aload_n 0, 1) := by decide +kernel
theorem dX7_mean_21 : decode cX7_mean 21 = .ok (.getfield 33, 3) := by decide +kernel
theorem dX7_mean_24 : decode cX7_mean 24 = .ok (.aload_n 0, 1) := by decide +kernel
theorem dX7_mean_25 : decode cX7_mean 25 = .ok (.getfield 16, 3) := by decide +kernel
theorem dX7_mean_28 : decode cX7_mean 28 = .ok (.iload_n 1, 1) := by decide +kernel
theorem dX7_mean_29 : decode cX7_mean 29 = .ok (.invokevirtual 189, 3) := by decide +kernel
theorem dX7_mean_32 : decode cX7_mean 32 = .ok (.invokestatic 193, 3) := by decide +kernel
theorem dX7_mean_35 : decode cX7_mean 35 = .ok (.ireturn, 1) := by decide +kernel
theorem dX7_when_0 : decode cX7_when 0 = .ok (.aload_n 0, 1) := by decide +kernel
theorem dX7_when_1 : decode cX7_when 1 = .ok (.invokevirtual 185, 3) := by decide +kernel
theorem dX7_when_4 : decode cX7_when 4 = .ok (.ifCond .eq 28, 3) := by decide +kernel
theorem dX7_when_7 : decode cX7_when 7 = .ok (.iload_n 1, 1) := by decide +kernel
theorem dX7_when_8 : decode cX7_when 8 = .ok (.ifCond .lt 24, 3) := by decide +kernel
theorem dX7_when_11 : decode cX7_when 11 = .ok (.iload_n 1, 1) := by decide +kernel
theorem dX7_when_12 : decode cX7_when 12 = .ok (.aload_n 0, 1) := by decide +kernel
theorem dX7_when_13 : decode cX7_when 13 = .ok (.getfield 16, 3) := by decide +kernel
theorem dX7_when_16 : decode cX7_when 16 = .ok (.getfield 112, 3) := by decide +kernel
theorem dX7_when_19 : decode cX7_when 19 = .ok (.if_icmp .ge 13, 3) := by decide +kernel
theorem dX7_when_22 : decode cX7_when 22 = .ok (.iload_n 2, 1) := by decide +kernel
theorem dX7_when_23 : decode cX7_when 23 = .ok (.ifCond .lt 9, 3) := by decide +kernel
theorem dX7_when_26 : decode cX7_when 26 = .ok (.iload_n 2, 1) := by decide +kernel
theorem dX7_when_27 : decode cX7_when 27 = .ok (.bipush 99, 2) := by decide +kernel
theorem dX7_when_29 : decode cX7_when 29 = .ok (.if_icmp .le 5, 3) := by decide +kernel
theorem dX7_when_32 : decode cX7_when 32 = .ok (.iconst (-1), 1) := by decide +kernel
theorem dX7_when_33 : decode cX7_when 33 = .ok (.ireturn, 1) := by decide +kernel
theorem dX7_when_34 : decode cX7_when 34 = .ok (.aload_n 0, 1) := by decide +kernel
theorem dX7_when_35 : decode cX7_when 35 = .ok (.getfield 33, 3) := by decide +kernel
theorem dX7_when_38 : decode cX7_when 38 = .ok (.aload_n 0, 1) := by decide +kernel
theorem dX7_when_39 : decode cX7_when 39 = .ok (.getfield 16, 3) := by decide +kernel
theorem dX7_when_42 : decode cX7_when 42 = .ok (.iconst 3, 1) := by decide +kernel
theorem dX7_when_43 : decode cX7_when 43 = .ok (.invokevirtual 177, 3) := by decide +kernel
theorem dX7_when_46 : decode cX7_when 46 = .ok (.aload_n 0, 1) := by decide +kernel
theorem dX7_when_47 : decode cX7_when 47 = .ok (.getfield 33, 3) := by decide +kernel
theorem dX7_when_50 : decode cX7_when 50 = .ok (.aload_n 0, 1) := by decide +kernel
theorem dX7_when_51 : decode cX7_when 51 = .ok (.getfield 16, 3) := by decide +kernel
theorem dX7_when_54 : decode cX7_when 54 = .ok (.iconst 3, 1) := by decide +kernel
theorem dX7_when_55 : decode cX7_when 55 = .ok (.iload_n 1, 1) := by decide +kernel
theorem dX7_when_56 : decode cX7_when 56 = .ok (.iload_n 2, 1) := by decide +kernel
theorem dX7_when_57 : decode cX7_when 57 = .ok (.iconst 0, 1) := by decide +kernel
theorem dX7_when_58 : decode cX7_when 58 = .ok (.invokevirtual 197, 3) := by decide +kernel
theorem dX7_when_61 : decode cX7_when 61 = .ok (.ifCond .eq 7, 3) := by decide +kernel
theorem dX7_when_64 : decode cX7_when 64 = .ok (.iconst 1, 1) := by decide +kernel
theorem dX7_when_65 : decode cX7_when 65 = .ok (.goto 4, 3) := by decide +kernel
theorem dX7_when_68 : decode cX7_when 68 = .ok (.iconst 0, 1) := by decide +kernel
theorem dX7_when_69 : decode cX7_when 69 = .ok (.ireturn, 1) := by decide +kernel
theorem dX7_looks_0 : decode cX7_looks 0 = .ok (.aload_n 0, 1) := by decide +kernel
theorem dX7_looks_1 : decode cX7_looks 1 = .ok (.invokevirtual 185, 3) := by decide +kernel
theorem dX7_looks_4 : decode cX7_looks 4 = .ok (.ifCond .eq 12, 3) := by decide +kernel
theorem dX7_looks_7 : decode cX7_looks 7 = .ok (.iload_n 1, 1) := by decide +kernel
theorem dX7_looks_8 : decode cX7_looks 8 = .ok (.ifCond .lt 8, 3) := by decide +kernel
theorem dX7_looks_11 : decode cX7_looks 11 = .ok (.iload_n 1, 1) := by decide +kernel
theorem dX7_looks_12 : decode cX7_looks 12 = .ok (.iconst 1, 1) := by decide +kernel
theorem dX7_looks_13 : decode cX7_looks 13 = .ok (.if_icmp .le 5, 3) := by decide +kernel
theorem dX7_looks_16 : decode cX7_looks 16 = .ok (.iconst (-1), 1) := by decide +kernel
theorem dX7_looks_17 : decode cX7_looks 17 = .ok (.ireturn, 1) := by decide +kernel
theorem dX7_looks_18 : decode cX7_looks 18 = .ok (.aload_n 0, 1) := by decide +kernel
theorem dX7_looks_19 : decode cX7_looks 19 = .ok (.getfield 33, 3) := by decide +kernel
theorem dX7_looks_22 : decode cX7_looks 22 = .ok (.aload_n 0, 1) := by decide +kernel
theorem dX7_looks_23 : decode cX7_looks 23 = .ok (.getfield 16, 3) := by decide +kernel
theorem dX7_looks_26 : decode cX7_looks 26 = .ok (.bipush (-2), 2) := by decide +kernel
theorem dX7_looks_28 : decode cX7_looks 28 = .ok (.invokevirtual 189, 3) := by decide +kernel
theorem dX7_looks_31 : decode cX7_looks 31 = .ok (.lstore_n 2, 1) := by decide +kernel
theorem dX7_looks_32 : decode cX7_looks 32 = .ok (.iload_n 1, 1) := by decide +kernel
theorem dX7_looks_33 : decode cX7_looks 33 = .ok (.ifCond .ne 7, 3) := by decide +kernel
theorem dX7_looks_36 : decode cX7_looks 36 = .ok (.lload_n 2, 1) := by decide +kernel
theorem dX7_looks_37 : decode cX7_looks 37 = .ok (.goto 17, 3) := by decide +kernel
theorem dX7_looks_40 : decode cX7_looks 40 = .ok (.aload_n 0, 1) := by decide +kernel
theorem dX7_looks_41 : decode cX7_looks 41 = .ok (.getfield 33, 3) := by decide +kernel
theorem dX7_looks_44 : decode cX7_looks 44 = .ok (.aload_n 0, 1) := by decide +kernel
theorem dX7_looks_45 : decode cX7_looks 45 = .ok (.getfield 16, 3) := by decide +kernel
theorem dX7_looks_48 : decode cX7_looks 48 = .ok (.iconst 3, 1) := by decide +kernel
theorem dX7_looks_49 : decode cX7_looks 49 = .ok (.invokevirtual 189, 3) := by decide +kernel
theorem dX7_looks_52 : decode cX7_looks 52 = .ok (.lload_n 2, 1) := by decide +kernel
theorem dX7_looks_53 : decode cX7_looks 53 = .ok (.lsub, 1) := by decide +kernel
theorem dX7_looks_54 : decode cX7_looks 54 = .ok (.invokestatic 193, 3) := by decide +kernel
theorem dX7_looks_57 : decode cX7_looks 57 = .ok (.ireturn, 1) := by decide +kernel
theorem dX7_rule_0 : decode cX7_rule 0 = .ok (.aload_n 0, 1) := by decide +kernel
theorem dX7_rule_1 : decode cX7_rule 1 = .ok (.invokevirtual 185, 3) := by decide +kernel
theorem dX7_rule_4 : decode cX7_rule 4 = .ok (.ifCond .ne 5, 3) := by decide +kernel
theorem dX7_rule_7 : decode cX7_rule 7 = .ok (.iconst (-1), 1) := by decide +kernel
theorem dX7_rule_8 : decode cX7_rule 8 = .ok (.ireturn, 1) := by decide +kernel
theorem dX7_rule_9 : decode cX7_rule 9 = .ok (.iconst (-1), 1) := by decide +kernel
theorem dX7_rule_10 : decode cX7_rule 10 = .ok (.istore_n 1, 1) := by decide +kernel
theorem dX7_rule_11 : decode cX7_rule 11 = .ok (.lconst 0, 1) := by decide +kernel
theorem dX7_rule_12 : decode cX7_rule 12 = .ok (.lstore_n 2, 1) := by decide +kernel
theorem dX7_rule_13 : decode cX7_rule 13 = .ok (.iconst 0, 1) := by decide +kernel
theorem dX7_rule_14 : decode cX7_rule 14 = .ok (.istore 4, 2) := by decide +kernel
theorem dX7_rule_16 : decode cX7_rule 16 = .ok (.iload 4, 2) := by decide +kernel
theorem dX7_rule_18 : decode cX7_rule 18 = .ok (.aload_n 0, 1) := by decide +kernel
theorem dX7_rule_19 : decode cX7_rule 19 = .ok (.getfield 16, 3) := by decide +kernel
theorem dX7_rule_22 : decode cX7_rule 22 = .ok (.getfield 115, 3) := by decide +kernel
theorem dX7_rule_25 : decode cX7_rule 25 = .ok (.if_icmp .ge 44, 3) := by decide +kernel
theorem dX7_rule_28 : decode cX7_rule 28 = .ok (.aload_n 0, 1) := by decide +kernel
theorem dX7_rule_29 : decode cX7_rule 29 = .ok (.getfield 33, 3) := by decide +kernel
theorem dX7_rule_32 : decode cX7_rule 32 = .ok (.aload_n 0, 1) := by decide +kernel
theorem dX7_rule_33 : decode cX7_rule 33 = .ok (.getfield 16, 3) := by decide +kernel
theorem dX7_rule_36 : decode cX7_rule 36 = .ok (.iconst 4, 1) := by decide +kernel
theorem dX7_rule_37 : decode cX7_rule 37 = .ok (.iload 4, 2) := by decide +kernel
theorem dX7_rule_39 : decode cX7_rule 39 = .ok (.iadd, 1) := by decide +kernel
theorem dX7_rule_40 : decode cX7_rule 40 = .ok (.invokevirtual 189, 3) := by decide +kernel
theorem dX7_rule_43 : decode cX7_rule 43 = .ok (.lstore 5, 2) := by decide +kernel
theorem dX7_rule_45 : decode cX7_rule 45 = .ok (.iload_n 1, 1) := by decide +kernel
theorem dX7_rule_46 : decode cX7_rule 46 = .ok (.iconst (-1), 1) := by decide +kernel
theorem dX7_rule_47 : decode cX7_rule 47 = .ok (.if_icmp .eq 10, 3) := by decide +kernel
theorem dX7_rule_50 : decode cX7_rule 50 = .ok (.lload 5, 2) := by decide +kernel
theorem dX7_rule_52 : decode cX7_rule 52 = .ok (.lload_n 2, 1) := by decide +kernel
theorem dX7_rule_53 : decode cX7_rule 53 = .ok (.lcmp, 1) := by decide +kernel
theorem dX7_rule_54 : decode cX7_rule 54 = .ok (.ifCond .ge 9, 3) := by decide +kernel
theorem dX7_rule_57 : decode cX7_rule 57 = .ok (.iload 4, 2) := by decide +kernel
theorem dX7_rule_59 : decode cX7_rule 59 = .ok (.istore_n 1, 1) := by decide +kernel
theorem dX7_rule_60 : decode cX7_rule 60 = .ok (.lload 5, 2) := by decide +kernel
theorem dX7_rule_62 : decode cX7_rule 62 = .ok (.lstore_n 2, 1) := by decide +kernel
theorem dX7_rule_63 : decode cX7_rule 63 = .ok (.iinc 4 1, 3) := by decide +kernel
theorem dX7_rule_66 : decode cX7_rule 66 = .ok (.goto (-50), 3) := by decide +kernel
theorem dX7_rule_69 : decode cX7_rule 69 = .ok (.iload_n 1, 1) := by decide +kernel
theorem dX7_rule_70 : decode cX7_rule 70 = .ok (.ireturn, 1) := by decide +kernel
theorem dX7_fewest_0 : decode cX7_fewest 0 = .ok (.aload_n 0, 1) := by decide +kernel
theorem dX7_fewest_1 : decode cX7_fewest 1 = .ok (.iload_n 1, 1) := by decide +kernel
theorem dX7_fewest_2 : decode cX7_fewest 2 = .ok (.iload_n 2, 1) := by decide +kernel
theorem dX7_fewest_3 : decode cX7_fewest 3 = .ok (.invokevirtual 201, 3) := by decide +kernel
theorem dX7_fewest_6 : decode cX7_fewest 6 = .ok (.ifCond .ne 5, 3) := by decide +kernel
theorem dX7_fewest_9 : decode cX7_fewest 9 = .ok (.iconst (-1), 1) := by decide +kernel
theorem dX7_fewest_10 : decode cX7_fewest 10 = .ok (.ireturn, 1) := by decide +kernel
theorem dX7_fewest_11 : decode cX7_fewest 11 = .ok (.aload_n 0, 1) := by decide +kernel
theorem dX7_fewest_12 : decode cX7_fewest 12 = .ok (.getfield 47, 3) := by decide +kernel
theorem dX7_fewest_15 : decode cX7_fewest 15 = .ok (.aload_n 0, 1) := by decide +kernel
theorem dX7_fewest_16 : decode cX7_fewest 16 = .ok (.getfield 16, 3) := by decide +kernel
theorem dX7_fewest_19 : decode cX7_fewest 19 = .ok (.iload_n 1, 1) := by decide +kernel
theorem dX7_fewest_20 : decode cX7_fewest 20 = .ok (.invokevirtual 204, 3) := by decide +kernel
theorem dX7_fewest_23 : decode cX7_fewest 23 = .ok (.iload_n 2, 1) := by decide +kernel
theorem dX7_fewest_24 : decode cX7_fewest 24 = .ok (.iconst (-1), 1) := by decide +kernel
theorem dX7_fewest_25 : decode cX7_fewest 25 = .ok (.if_icmp .ne 13, 3) := by decide +kernel
theorem dX7_fewest_28 : decode cX7_fewest 28 = .ok (.aload_n 0, 1) := by decide +kernel
theorem dX7_fewest_29 : decode cX7_fewest 29 = .ok (.getfield 47, 3) := by decide +kernel
theorem dX7_fewest_32 : decode cX7_fewest 32 = .ok (.getfield 207, 3) := by decide +kernel
theorem dX7_fewest_35 : decode cX7_fewest 35 = .ok (.goto 12, 3) := by decide +kernel
theorem dX7_fewest_38 : decode cX7_fewest 38 = .ok (.aload_n 0, 1) := by decide +kernel
theorem dX7_fewest_39 : decode cX7_fewest 39 = .ok (.getfield 47, 3) := by decide +kernel
theorem dX7_fewest_42 : decode cX7_fewest 42 = .ok (.getfield 210, 3) := by decide +kernel
theorem dX7_fewest_45 : decode cX7_fewest 45 = .ok (.iload_n 2, 1) := by decide +kernel
theorem dX7_fewest_46 : decode cX7_fewest 46 = .ok (.iaload, 1) := by decide +kernel
theorem dX7_fewest_47 : decode cX7_fewest 47 = .ok (.ireturn, 1) := by decide +kernel
theorem dX7_free_0 : decode cX7_free 0 = .ok (.aload_n 0, 1) := by decide +kernel
theorem dX7_free_1 : decode cX7_free 1 = .ok (.iload_n 1, 1) := by decide +kernel
theorem dX7_free_2 : decode cX7_free 2 = .ok (.iload_n 2, 1) := by decide +kernel
theorem dX7_free_3 : decode cX7_free 3 = .ok (.invokevirtual 201, 3) := by decide +kernel
theorem dX7_free_6 : decode cX7_free 6 = .ok (.ifCond .ne 5, 3) := by decide +kernel
theorem dX7_free_9 : decode cX7_free 9 = .ok (.iconst (-1), 1) := by decide +kernel
theorem dX7_free_10 : decode cX7_free 10 = .ok (.ireturn, 1) := by decide +kernel
theorem dX7_free_11 : decode cX7_free 11 = .ok (.aload_n 0, 1) := by decide +kernel
theorem dX7_free_12 : decode cX7_free 12 = .ok (.getfield 47, 3) := by decide +kernel
theorem dX7_free_15 : decode cX7_free 15 = .ok (.aload_n 0, 1) := by decide +kernel
theorem dX7_free_16 : decode cX7_free 16 = .ok (.getfield 16, 3) := by decide +kernel
theorem dX7_free_19 : decode cX7_free 19 = .ok (.iload_n 1, 1) := by decide +kernel
theorem dX7_free_20 : decode cX7_free 20 = .ok (.invokevirtual 213, 3) := by decide +kernel
theorem dX7_free_23 : decode cX7_free 23 = .ok (.iload_n 2, 1) := by decide +kernel
theorem dX7_free_24 : decode cX7_free 24 = .ok (.iconst (-1), 1) := by decide +kernel
theorem dX7_free_25 : decode cX7_free 25 = .ok (.if_icmp .ne 13, 3) := by decide +kernel
theorem dX7_free_28 : decode cX7_free 28 = .ok (.aload_n 0, 1) := by decide +kernel
theorem dX7_free_29 : decode cX7_free 29 = .ok (.getfield 47, 3) := by decide +kernel
theorem dX7_free_32 : decode cX7_free 32 = .ok (.getfield 216, 3) := by decide +kernel
theorem dX7_free_35 : decode cX7_free 35 = .ok (.goto 12, 3) := by decide +kernel
theorem dX7_free_38 : decode cX7_free 38 = .ok (.aload_n 0, 1) := by decide +kernel
theorem dX7_free_39 : decode cX7_free 39 = .ok (.getfield 47, 3) := by decide +kernel
theorem dX7_free_42 : decode cX7_free 42 = .ok (.getfield 219, 3) := by decide +kernel
theorem dX7_free_45 : decode cX7_free 45 = .ok (.iload_n 2, 1) := by decide +kernel
theorem dX7_free_46 : decode cX7_free 46 = .ok (.iaload, 1) := by decide +kernel
theorem dX7_free_47 : decode cX7_free 47 = .ok (.ireturn, 1) := by decide +kernel
theorem dX7_hidden_0 : decode cX7_hidden 0 = .ok (.aload_n 0, 1) := by decide +kernel
theorem dX7_hidden_1 : decode cX7_hidden 1 = .ok (.getfield 16, 3) := by decide +kernel
theorem dX7_hidden_4 : decode cX7_hidden 4 = .ok (.getfield 100, 3) := by decide +kernel
theorem dX7_hidden_7 : decode cX7_hidden 7 = .ok (.ifCond .eq 10, 3) := by decide +kernel
theorem dX7_hidden_10 : decode cX7_hidden 10 = .ok (.iload_n 1, 1) := by decide +kernel
theorem dX7_hidden_11 : decode cX7_hidden 11 = .ok (.invokestatic 174, 3) := by decide +kernel
theorem dX7_hidden_14 : decode cX7_hidden 14 = .ok (.ifCond .ne 5, 3) := by decide +kernel
theorem dX7_hidden_17 : decode cX7_hidden 17 = .ok (.iconst (-1), 1) := by decide +kernel
theorem dX7_hidden_18 : decode cX7_hidden 18 = .ok (.ireturn, 1) := by decide +kernel
theorem dX7_hidden_19 : decode cX7_hidden 19 = .ok (.aload_n 0, 1) := by decide +kernel
theorem dX7_hidden_20 : decode cX7_hidden 20 = .ok (.getfield 47, 3) := by decide +kernel
theorem dX7_hidden_23 : decode cX7_hidden 23 = .ok (.aload_n 0, 1) := by decide +kernel
theorem dX7_hidden_24 : decode cX7_hidden 24 = .ok (.getfield 16, 3) := by decide +kernel
theorem dX7_hidden_27 : decode cX7_hidden 27 = .ok (.iload_n 1, 1) := by decide +kernel
theorem dX7_hidden_28 : decode cX7_hidden 28 = .ok (.invokevirtual 222, 3) := by decide +kernel
theorem dX7_hidden_31 : decode cX7_hidden 31 = .ok (.aload_n 0, 1) := by decide +kernel
theorem dX7_hidden_32 : decode cX7_hidden 32 = .ok (.getfield 47, 3) := by decide +kernel
theorem dX7_hidden_35 : decode cX7_hidden 35 = .ok (.getfield 225, 3) := by decide +kernel
theorem dX7_hidden_38 : decode cX7_hidden 38 = .ok (.ifCond .ge 5, 3) := by decide +kernel
theorem dX7_hidden_41 : decode cX7_hidden 41 = .ok (.iconst (-1), 1) := by decide +kernel
theorem dX7_hidden_42 : decode cX7_hidden 42 = .ok (.ireturn, 1) := by decide +kernel
theorem dX7_hidden_43 : decode cX7_hidden 43 = .ok (.iload_n 2, 1) := by decide +kernel
theorem dX7_hidden_44 : decode cX7_hidden 44 = .ok (.ifCond .ne 27, 3) := by decide +kernel
theorem dX7_hidden_47 : decode cX7_hidden 47 = .ok (.aload_n 0, 1) := by decide +kernel
theorem dX7_hidden_48 : decode cX7_hidden 48 = .ok (.getfield 16, 3) := by decide +kernel
theorem dX7_hidden_51 : decode cX7_hidden 51 = .ok (.getfield 112, 3) := by decide +kernel
theorem dX7_hidden_54 : decode cX7_hidden 54 = .ok (.ifCond .ne 7, 3) := by decide +kernel
theorem dX7_hidden_57 : decode cX7_hidden 57 = .ok (.iconst 0, 1) := by decide +kernel
theorem dX7_hidden_58 : decode cX7_hidden 58 = .ok (.goto 12, 3) := by decide +kernel
theorem dX7_hidden_61 : decode cX7_hidden 61 = .ok (.aload_n 0, 1) := by decide +kernel
theorem dX7_hidden_62 : decode cX7_hidden 62 = .ok (.getfield 47, 3) := by decide +kernel
theorem dX7_hidden_65 : decode cX7_hidden 65 = .ok (.getfield 225, 3) := by decide +kernel
theorem dX7_hidden_68 : decode cX7_hidden 68 = .ok (.iconst 1, 1) := by decide +kernel
theorem dX7_hidden_69 : decode cX7_hidden 69 = .ok (.iadd, 1) := by decide +kernel
theorem dX7_hidden_70 : decode cX7_hidden 70 = .ok (.ireturn, 1) := by decide +kernel
theorem dX7_hidden_71 : decode cX7_hidden 71 = .ok (.iload_n 2, 1) := by decide +kernel
theorem dX7_hidden_72 : decode cX7_hidden 72 = .ok (.iconst 1, 1) := by decide +kernel
theorem dX7_hidden_73 : decode cX7_hidden 73 = .ok (.if_icmp .ne 11, 3) := by decide +kernel
theorem dX7_hidden_76 : decode cX7_hidden 76 = .ok (.aload_n 0, 1) := by decide +kernel
theorem dX7_hidden_77 : decode cX7_hidden 77 = .ok (.getfield 47, 3) := by decide +kernel
theorem dX7_hidden_80 : decode cX7_hidden 80 = .ok (.getfield 228, 3) := by decide +kernel
theorem dX7_hidden_83 : decode cX7_hidden 83 = .ok (.ireturn, 1) := by decide +kernel
theorem dX7_hidden_84 : decode cX7_hidden 84 = .ok (.iload_n 2, 1) := by decide +kernel
theorem dX7_hidden_85 : decode cX7_hidden 85 = .ok (.bipush 10, 2) := by decide +kernel
theorem dX7_hidden_87 : decode cX7_hidden 87 = .ok (.if_icmp .lt 32, 3) := by decide +kernel
theorem dX7_hidden_90 : decode cX7_hidden 90 = .ok (.iload_n 2, 1) := by decide +kernel
theorem dX7_hidden_91 : decode cX7_hidden 91 = .ok (.bipush 10, 2) := by decide +kernel
theorem dX7_hidden_93 : decode cX7_hidden 93 = .ok (.isub, 1) := by decide +kernel
theorem dX7_hidden_94 : decode cX7_hidden 94 = .ok (.aload_n 0, 1) := by decide +kernel
theorem dX7_hidden_95 : decode cX7_hidden 95 = .ok (.getfield 47, 3) := by decide +kernel
theorem dX7_hidden_98 : decode cX7_hidden 98 = .ok (.getfield 225, 3) := by decide +kernel
theorem dX7_hidden_101 : decode cX7_hidden 101 = .ok (.if_icmp .ge 18, 3) := by decide +kernel
theorem dX7_hidden_104 : decode cX7_hidden 104 = .ok (.aload_n 0, 1) := by decide +kernel
theorem dX7_hidden_105 : decode cX7_hidden 105 = .ok (.getfield 47, 3) := by decide +kernel
theorem dX7_hidden_108 : decode cX7_hidden 108 = .ok (.getfield 231, 3) := by decide +kernel
theorem dX7_hidden_111 : decode cX7_hidden 111 = .ok (.iload_n 2, 1) := by decide +kernel
theorem dX7_hidden_112 : decode cX7_hidden 112 = .ok (.bipush 10, 2) := by decide +kernel
theorem dX7_hidden_114 : decode cX7_hidden 114 = .ok (.isub, 1) := by decide +kernel
theorem dX7_hidden_115 : decode cX7_hidden 115 = .ok (.iaload, 1) := by decide +kernel
theorem dX7_hidden_116 : decode cX7_hidden 116 = .ok (.goto 4, 3) := by decide +kernel
theorem dX7_hidden_119 : decode cX7_hidden 119 = .ok (.iconst (-1), 1) := by decide +kernel
theorem dX7_hidden_120 : decode cX7_hidden 120 = .ok (.ireturn, 1) := by decide +kernel
theorem dX7_several_0 : decode cX7_several 0 = .ok (.aload_n 0, 1) := by decide +kernel
theorem dX7_several_1 : decode cX7_several 1 = .ok (.iload_n 1, 1) := by decide +kernel
theorem dX7_several_2 : decode cX7_several 2 = .ok (.iload_n 2, 1) := by decide +kernel
theorem dX7_several_3 : decode cX7_several 3 = .ok (.invokevirtual 201, 3) := by decide +kernel
theorem dX7_several_6 : decode cX7_several 6 = .ok (.ifCond .ne 5, 3) := by decide +kernel
theorem dX7_several_9 : decode cX7_several 9 = .ok (.iconst (-1), 1) := by decide +kernel
theorem dX7_several_10 : decode cX7_several 10 = .ok (.ireturn, 1) := by decide +kernel
theorem dX7_several_11 : decode cX7_several 11 = .ok (.aload_n 0, 1) := by decide +kernel
theorem dX7_several_12 : decode cX7_several 12 = .ok (.getfield 47, 3) := by decide +kernel
theorem dX7_several_15 : decode cX7_several 15 = .ok (.aload_n 0, 1) := by decide +kernel
theorem dX7_several_16 : decode cX7_several 16 = .ok (.getfield 16, 3) := by decide +kernel
theorem dX7_several_19 : decode cX7_several 19 = .ok (.iload_n 1, 1) := by decide +kernel
theorem dX7_several_20 : decode cX7_several 20 = .ok (.invokevirtual 234, 3) := by decide +kernel
theorem dX7_several_23 : decode cX7_several 23 = .ok (.iload_n 2, 1) := by decide +kernel
theorem dX7_several_24 : decode cX7_several 24 = .ok (.iconst (-1), 1) := by decide +kernel
theorem dX7_several_25 : decode cX7_several 25 = .ok (.if_icmp .ne 13, 3) := by decide +kernel
theorem dX7_several_28 : decode cX7_several 28 = .ok (.aload_n 0, 1) := by decide +kernel
theorem dX7_several_29 : decode cX7_several 29 = .ok (.getfield 47, 3) := by decide +kernel
theorem dX7_several_32 : decode cX7_several 32 = .ok (.getfield 237, 3) := by decide +kernel
theorem dX7_several_35 : decode cX7_several 35 = .ok (.goto 12, 3) := by decide +kernel
theorem dX7_several_38 : decode cX7_several 38 = .ok (.aload_n 0, 1) := by decide +kernel
theorem dX7_several_39 : decode cX7_several 39 = .ok (.getfield 47, 3) := by decide +kernel
theorem dX7_several_42 : decode cX7_several 42 = .ok (.getfield 240, 3) := by decide +kernel
theorem dX7_several_45 : decode cX7_several 45 = .ok (.iload_n 2, 1) := by decide +kernel
theorem dX7_several_46 : decode cX7_several 46 = .ok (.iaload, 1) := by decide +kernel
theorem dX7_several_47 : decode cX7_several 47 = .ok (.ireturn, 1) := by decide +kernel
theorem dX7_canPlan_0 : decode cX7_canPlan 0 = .ok (.aload_n 0, 1) := by decide +kernel
theorem dX7_canPlan_1 : decode cX7_canPlan 1 = .ok (.getfield 16, 3) := by decide +kernel
theorem dX7_canPlan_4 : decode cX7_canPlan 4 = .ok (.getfield 100, 3) := by decide +kernel
theorem dX7_canPlan_7 : decode cX7_canPlan 7 = .ok (.ifCond .le 41, 3) := by decide +kernel
theorem dX7_canPlan_10 : decode cX7_canPlan 10 = .ok (.iload_n 1, 1) := by decide +kernel
theorem dX7_canPlan_11 : decode cX7_canPlan 11 = .ok (.invokestatic 174, 3) := by decide +kernel
theorem dX7_canPlan_14 : decode cX7_canPlan 14 = .ok (.ifCond .eq 34, 3) := by decide +kernel
theorem dX7_canPlan_17 : decode cX7_canPlan 17 = .ok (.aload_n 0, 1) := by decide +kernel
theorem dX7_canPlan_18 : decode cX7_canPlan 18 = .ok (.getfield 16, 3) := by decide +kernel
theorem dX7_canPlan_21 : decode cX7_canPlan 21 = .ok (.invokevirtual 243, 3) := by decide +kernel
theorem dX7_canPlan_24 : decode cX7_canPlan 24 = .ok (.iload_n 1, 1) := by decide +kernel
theorem dX7_canPlan_25 : decode cX7_canPlan 25 = .ok (.if_icmp .gt 23, 3) := by decide +kernel
theorem dX7_canPlan_28 : decode cX7_canPlan 28 = .ok (.iload_n 2, 1) := by decide +kernel
theorem dX7_canPlan_29 : decode cX7_canPlan 29 = .ok (.iconst (-1), 1) := by decide +kernel
theorem dX7_canPlan_30 : decode cX7_canPlan 30 = .ok (.if_icmp .lt 18, 3) := by decide +kernel
theorem dX7_canPlan_33 : decode cX7_canPlan 33 = .ok (.iload_n 2, 1) := by decide +kernel
theorem dX7_canPlan_34 : decode cX7_canPlan 34 = .ok (.aload_n 0, 1) := by decide +kernel
theorem dX7_canPlan_35 : decode cX7_canPlan 35 = .ok (.getfield 16, 3) := by decide +kernel
theorem dX7_canPlan_38 : decode cX7_canPlan 38 = .ok (.getfield 112, 3) := by decide +kernel
theorem dX7_canPlan_41 : decode cX7_canPlan 41 = .ok (.if_icmp .ge 7, 3) := by decide +kernel
theorem dX7_canPlan_44 : decode cX7_canPlan 44 = .ok (.iconst 1, 1) := by decide +kernel
theorem dX7_canPlan_45 : decode cX7_canPlan 45 = .ok (.goto 4, 3) := by decide +kernel
theorem dX7_canPlan_48 : decode cX7_canPlan 48 = .ok (.iconst 0, 1) := by decide +kernel
theorem dX7_canPlan_49 : decode cX7_canPlan 49 = .ok (.ireturn, 1) := by decide +kernel
theorem dX7_wound_0 : decode cX7_wound 0 = .ok (.iload_n 1, 1) := by decide +kernel
theorem dX7_wound_1 : decode cX7_wound 1 = .ok (.ifCond .lt 9, 3) := by decide +kernel
theorem dX7_wound_4 : decode cX7_wound 4 = .ok (.iload_n 1, 1) := by decide +kernel
theorem dX7_wound_5 : decode cX7_wound 5 = .ok (.bipush 99, 2) := by decide +kernel
theorem dX7_wound_7 : decode cX7_wound 7 = .ok (.if_icmp .le 5, 3) := by decide +kernel
theorem dX7_wound_10 : decode cX7_wound 10 = .ok (.iconst (-1), 1) := by decide +kernel
theorem dX7_wound_11 : decode cX7_wound 11 = .ok (.ireturn, 1) := by decide +kernel
theorem dX7_wound_12 : decode cX7_wound 12 = .ok (.iconst 1, 1) := by decide +kernel
theorem dX7_wound_13 : decode cX7_wound 13 = .ok (.aload_n 0, 1) := by decide +kernel
theorem dX7_wound_14 : decode cX7_wound 14 = .ok (.getfield 16, 3) := by decide +kernel
theorem dX7_wound_17 : decode cX7_wound 17 = .ok (.getfield 106, 3) := by decide +kernel
theorem dX7_wound_20 : decode cX7_wound 20 = .ok (.iconst 4, 1) := by decide +kernel
theorem dX7_wound_21 : decode cX7_wound 21 = .ok (.iaload, 1) := by decide +kernel
theorem dX7_wound_22 : decode cX7_wound 22 = .ok (.invokestatic 247, 3) := by decide +kernel
theorem dX7_wound_25 : decode cX7_wound 25 = .ok (.istore_n 2, 1) := by decide +kernel
theorem dX7_wound_26 : decode cX7_wound 26 = .ok (.iload_n 1, 1) := by decide +kernel
theorem dX7_wound_27 : decode cX7_wound 27 = .ok (.aload_n 0, 1) := by decide +kernel
theorem dX7_wound_28 : decode cX7_wound 28 = .ok (.getfield 16, 3) := by decide +kernel
theorem dX7_wound_31 : decode cX7_wound 31 = .ok (.getfield 106, 3) := by decide +kernel
theorem dX7_wound_34 : decode cX7_wound 34 = .ok (.iconst 0, 1) := by decide +kernel
theorem dX7_wound_35 : decode cX7_wound 35 = .ok (.iaload, 1) := by decide +kernel
theorem dX7_wound_36 : decode cX7_wound 36 = .ok (.imul, 1) := by decide +kernel
theorem dX7_wound_37 : decode cX7_wound 37 = .ok (.istore_n 3, 1) := by decide +kernel
theorem dX7_wound_38 : decode cX7_wound 38 = .ok (.iconst 0, 1) := by decide +kernel
theorem dX7_wound_39 : decode cX7_wound 39 = .ok (.istore 4, 2) := by decide +kernel
theorem dX7_wound_41 : decode cX7_wound 41 = .ok (.iload_n 1, 1) := by decide +kernel
theorem dX7_wound_42 : decode cX7_wound 42 = .ok (.istore 5, 2) := by decide +kernel
theorem dX7_wound_44 : decode cX7_wound 44 = .ok (.iload 5, 2) := by decide +kernel
theorem dX7_wound_46 : decode cX7_wound 46 = .ok (.ifCond .le 55, 3) := by decide +kernel
theorem dX7_wound_49 : decode cX7_wound 49 = .ok (.iinc 4 1, 3) := by decide +kernel
theorem dX7_wound_52 : decode cX7_wound 52 = .ok (.iconst 0, 1) := by decide +kernel
theorem dX7_wound_53 : decode cX7_wound 53 = .ok (.iload 5, 2) := by decide +kernel
theorem dX7_wound_55 : decode cX7_wound 55 = .ok (.iload_n 2, 1) := by decide +kernel
theorem dX7_wound_56 : decode cX7_wound 56 = .ok (.isub, 1) := by decide +kernel
theorem dX7_wound_57 : decode cX7_wound 57 = .ok (.invokestatic 247, 3) := by decide +kernel
theorem dX7_wound_60 : decode cX7_wound 60 = .ok (.istore 6, 2) := by decide +kernel
theorem dX7_wound_62 : decode cX7_wound 62 = .ok (.iload_n 3, 1) := by decide +kernel
theorem dX7_wound_63 : decode cX7_wound 63 = .ok (.iload 4, 2) := by decide +kernel
theorem dX7_wound_65 : decode cX7_wound 65 = .ok (.aload_n 0, 1) := by decide +kernel
theorem dX7_wound_66 : decode cX7_wound 66 = .ok (.getfield 16, 3) := by decide +kernel
theorem dX7_wound_69 : decode cX7_wound 69 = .ok (.getfield 106, 3) := by decide +kernel
theorem dX7_wound_72 : decode cX7_wound 72 = .ok (.iconst 3, 1) := by decide +kernel
theorem dX7_wound_73 : decode cX7_wound 73 = .ok (.iaload, 1) := by decide +kernel
theorem dX7_wound_74 : decode cX7_wound 74 = .ok (.imul, 1) := by decide +kernel
theorem dX7_wound_75 : decode cX7_wound 75 = .ok (.iload 6, 2) := by decide +kernel
theorem dX7_wound_77 : decode cX7_wound 77 = .ok (.aload_n 0, 1) := by decide +kernel
theorem dX7_wound_78 : decode cX7_wound 78 = .ok (.getfield 16, 3) := by decide +kernel
theorem dX7_wound_81 : decode cX7_wound 81 = .ok (.getfield 106, 3) := by decide +kernel
theorem dX7_wound_84 : decode cX7_wound 84 = .ok (.iconst 0, 1) := by decide +kernel
theorem dX7_wound_85 : decode cX7_wound 85 = .ok (.iaload, 1) := by decide +kernel
theorem dX7_wound_86 : decode cX7_wound 86 = .ok (.imul, 1) := by decide +kernel
theorem dX7_wound_87 : decode cX7_wound 87 = .ok (.iadd, 1) := by decide +kernel
theorem dX7_wound_88 : decode cX7_wound 88 = .ok (.invokestatic 253, 3) := by decide +kernel
theorem dX7_wound_91 : decode cX7_wound 91 = .ok (.istore_n 3, 1) := by decide +kernel
theorem dX7_wound_92 : decode cX7_wound 92 = .ok (.iload 5, 2) := by decide +kernel
theorem dX7_wound_94 : decode cX7_wound 94 = .ok (.iload_n 2, 1) := by decide +kernel
theorem dX7_wound_95 : decode cX7_wound 95 = .ok (.isub, 1) := by decide +kernel
theorem dX7_wound_96 : decode cX7_wound 96 = .ok (.istore 5, 2) := by decide +kernel
theorem dX7_wound_98 : decode cX7_wound 98 = .ok (.goto (-54), 3) := by decide +kernel
theorem dX7_wound_101 : decode cX7_wound 101 = .ok (.iload_n 3, 1) := by decide +kernel
theorem dX7_wound_102 : decode cX7_wound 102 = .ok (.ireturn, 1) := by decide +kernel
theorem dX7_day_0 : decode cX7_day 0 = .ok (.iload_n 1, 1) := by decide +kernel
theorem dX7_day_1 : decode cX7_day 1 = .ok (.tableswitch 102 0 5 #[39, 47, 55, 63, 71, 79], 39) := by decide +kernel
theorem dX7_day_40 : decode cX7_day 40 = .ok (.aload_n 0, 1) := by decide +kernel
theorem dX7_day_41 : decode cX7_day 41 = .ok (.getfield 54, 3) := by decide +kernel
theorem dX7_day_44 : decode cX7_day 44 = .ok (.getfield 256, 3) := by decide +kernel
theorem dX7_day_47 : decode cX7_day 47 = .ok (.ireturn, 1) := by decide +kernel
theorem dX7_day_48 : decode cX7_day 48 = .ok (.aload_n 0, 1) := by decide +kernel
theorem dX7_day_49 : decode cX7_day 49 = .ok (.getfield 54, 3) := by decide +kernel
theorem dX7_day_52 : decode cX7_day 52 = .ok (.getfield 259, 3) := by decide +kernel
theorem dX7_day_55 : decode cX7_day 55 = .ok (.ireturn, 1) := by decide +kernel
theorem dX7_day_56 : decode cX7_day 56 = .ok (.aload_n 0, 1) := by decide +kernel
theorem dX7_day_57 : decode cX7_day 57 = .ok (.getfield 54, 3) := by decide +kernel
theorem dX7_day_60 : decode cX7_day 60 = .ok (.getfield 261, 3) := by decide +kernel
theorem dX7_day_63 : decode cX7_day 63 = .ok (.ireturn, 1) := by decide +kernel
theorem dX7_day_64 : decode cX7_day 64 = .ok (.aload_n 0, 1) := by decide +kernel
theorem dX7_day_65 : decode cX7_day 65 = .ok (.getfield 54, 3) := by decide +kernel
theorem dX7_day_68 : decode cX7_day 68 = .ok (.getfield 262, 3) := by decide +kernel
theorem dX7_day_71 : decode cX7_day 71 = .ok (.ireturn, 1) := by decide +kernel
theorem dX7_day_72 : decode cX7_day 72 = .ok (.aload_n 0, 1) := by decide +kernel
theorem dX7_day_73 : decode cX7_day 73 = .ok (.getfield 54, 3) := by decide +kernel
theorem dX7_day_76 : decode cX7_day 76 = .ok (.getfield 263, 3) := by decide +kernel
theorem dX7_day_79 : decode cX7_day 79 = .ok (.ireturn, 1) := by decide +kernel
theorem dX7_day_80 : decode cX7_day 80 = .ok (.aload_n 0, 1) := by decide +kernel
theorem dX7_day_81 : decode cX7_day 81 = .ok (.getfield 54, 3) := by decide +kernel
theorem dX7_day_84 : decode cX7_day 84 = .ok (.getfield 256, 3) := by decide +kernel
theorem dX7_day_87 : decode cX7_day 87 = .ok (.aload_n 0, 1) := by decide +kernel
theorem dX7_day_88 : decode cX7_day 88 = .ok (.getfield 16, 3) := by decide +kernel
theorem dX7_day_91 : decode cX7_day 91 = .ok (.getfield 112, 3) := by decide +kernel
theorem dX7_day_94 : decode cX7_day 94 = .ok (.if_icmp .ge 7, 3) := by decide +kernel
theorem dX7_day_97 : decode cX7_day 97 = .ok (.iconst 1, 1) := by decide +kernel
theorem dX7_day_98 : decode cX7_day 98 = .ok (.goto 4, 3) := by decide +kernel
theorem dX7_day_101 : decode cX7_day 101 = .ok (.iconst 0, 1) := by decide +kernel
theorem dX7_day_102 : decode cX7_day 102 = .ok (.ireturn, 1) := by decide +kernel
theorem dX7_day_103 : decode cX7_day 103 = .ok (.iconst (-1), 1) := by decide +kernel
theorem dX7_day_104 : decode cX7_day 104 = .ok (.ireturn, 1) := by decide +kernel
theorem dX7_sew_0 : decode cX7_sew 0 = .ok (.aload_n 0, 1) := by decide +kernel
theorem dX7_sew_1 : decode cX7_sew 1 = .ok (.getfield 54, 3) := by decide +kernel
theorem dX7_sew_4 : decode cX7_sew 4 = .ok (.getfield 256, 3) := by decide +kernel
theorem dX7_sew_7 : decode cX7_sew 7 = .ok (.aload_n 0, 1) := by decide +kernel
theorem dX7_sew_8 : decode cX7_sew 8 = .ok (.getfield 16, 3) := by decide +kernel
theorem dX7_sew_11 : decode cX7_sew 11 = .ok (.getfield 112, 3) := by decide +kernel
theorem dX7_sew_14 : decode cX7_sew 14 = .ok (.if_icmp .ge 17, 3) := by decide +kernel
theorem dX7_sew_17 : decode cX7_sew 17 = .ok (.iload_n 1, 1) := by decide +kernel
theorem dX7_sew_18 : decode cX7_sew 18 = .ok (.ifCond .eq 19, 3) := by decide +kernel
theorem dX7_sew_21 : decode cX7_sew 21 = .ok (.aload_n 0, 1) := by decide +kernel
theorem dX7_sew_22 : decode cX7_sew 22 = .ok (.getfield 54, 3) := by decide +kernel
theorem dX7_sew_25 : decode cX7_sew 25 = .ok (.getfield 259, 3) := by decide +kernel
theorem dX7_sew_28 : decode cX7_sew 28 = .ok (.ifCond .ne 9, 3) := by decide +kernel
theorem dX7_sew_31 : decode cX7_sew 31 = .ok (.aload_n 0, 1) := by decide +kernel
theorem dX7_sew_32 : decode cX7_sew 32 = .ok (.iconst 2, 1) := by decide +kernel
theorem dX7_sew_33 : decode cX7_sew 33 = .ok (.invokevirtual 74, 3) := by decide +kernel
theorem dX7_sew_36 : decode cX7_sew 36 = .ok (.ireturn, 1) := by decide +kernel
theorem dX7_sew_37 : decode cX7_sew 37 = .ok (.aload_n 0, 1) := by decide +kernel
theorem dX7_sew_38 : decode cX7_sew 38 = .ok (.getfield 54, 3) := by decide +kernel
theorem dX7_sew_41 : decode cX7_sew 41 = .ok (.getfield 262, 3) := by decide +kernel
theorem dX7_sew_44 : decode cX7_sew 44 = .ok (.istore_n 2, 1) := by decide +kernel
theorem dX7_sew_45 : decode cX7_sew 45 = .ok (.aload_n 0, 1) := by decide +kernel
theorem dX7_sew_46 : decode cX7_sew 46 = .ok (.getfield 54, 3) := by decide +kernel
theorem dX7_sew_49 : decode cX7_sew 49 = .ok (.invokevirtual 264, 3) := by decide +kernel
theorem dX7_sew_52 : decode cX7_sew 52 = .ok (.aload_n 0, 1) := by decide +kernel
theorem dX7_sew_53 : decode cX7_sew 53 = .ok (.getfield 54, 3) := by decide +kernel
theorem dX7_sew_56 : decode cX7_sew 56 = .ok (.aload_n 0, 1) := by decide +kernel
theorem dX7_sew_57 : decode cX7_sew 57 = .ok (.getfield 54, 3) := by decide +kernel
theorem dX7_sew_60 : decode cX7_sew 60 = .ok (.aload_n 0, 1) := by decide +kernel
theorem dX7_sew_61 : decode cX7_sew 61 = .ok (.getfield 16, 3) := by decide +kernel
theorem dX7_sew_64 : decode cX7_sew 64 = .ok (.iload_n 1, 1) := by decide +kernel
theorem dX7_sew_65 : decode cX7_sew 65 = .ok (.invokevirtual 267, 3) := by decide +kernel
theorem dX7_sew_68 : decode cX7_sew 68 = .ok (.invokevirtual 271, 3) := by decide +kernel
theorem dX7_sew_71 : decode cX7_sew 71 = .ok (.aload_n 0, 1) := by decide +kernel
theorem dX7_sew_72 : decode cX7_sew 72 = .ok (.getfield 54, 3) := by decide +kernel
theorem dX7_sew_75 : decode cX7_sew 75 = .ok (.getfield 262, 3) := by decide +kernel
theorem dX7_sew_78 : decode cX7_sew 78 = .ok (.iload_n 2, 1) := by decide +kernel
theorem dX7_sew_79 : decode cX7_sew 79 = .ok (.isub, 1) := by decide +kernel
theorem dX7_sew_80 : decode cX7_sew 80 = .ok (.ireturn, 1) := by decide +kernel
theorem dX7_glance_0 : decode cX7_glance 0 = .ok (.aload_n 0, 1) := by decide +kernel
theorem dX7_glance_1 : decode cX7_glance 1 = .ok (.getfield 54, 3) := by decide +kernel
theorem dX7_glance_4 : decode cX7_glance 4 = .ok (.getfield 256, 3) := by decide +kernel
theorem dX7_glance_7 : decode cX7_glance 7 = .ok (.aload_n 0, 1) := by decide +kernel
theorem dX7_glance_8 : decode cX7_glance 8 = .ok (.getfield 16, 3) := by decide +kernel
theorem dX7_glance_11 : decode cX7_glance 11 = .ok (.getfield 112, 3) := by decide +kernel
theorem dX7_glance_14 : decode cX7_glance 14 = .ok (.if_icmp .lt 9, 3) := by decide +kernel
theorem dX7_glance_17 : decode cX7_glance 17 = .ok (.aload_n 0, 1) := by decide +kernel
theorem dX7_glance_18 : decode cX7_glance 18 = .ok (.iconst 2, 1) := by decide +kernel
theorem dX7_glance_19 : decode cX7_glance 19 = .ok (.invokevirtual 74, 3) := by decide +kernel
theorem dX7_glance_22 : decode cX7_glance 22 = .ok (.ireturn, 1) := by decide +kernel
theorem dX7_glance_23 : decode cX7_glance 23 = .ok (.aload_n 0, 1) := by decide +kernel
theorem dX7_glance_24 : decode cX7_glance 24 = .ok (.getfield 54, 3) := by decide +kernel
theorem dX7_glance_27 : decode cX7_glance 27 = .ok (.invokevirtual 264, 3) := by decide +kernel
theorem dX7_glance_30 : decode cX7_glance 30 = .ok (.aload_n 0, 1) := by decide +kernel
theorem dX7_glance_31 : decode cX7_glance 31 = .ok (.getfield 54, 3) := by decide +kernel
theorem dX7_glance_34 : decode cX7_glance 34 = .ok (.aload_n 0, 1) := by decide +kernel
theorem dX7_glance_35 : decode cX7_glance 35 = .ok (.getfield 16, 3) := by decide +kernel
theorem dX7_glance_38 : decode cX7_glance 38 = .ok (.getfield 106, 3) := by decide +kernel
theorem dX7_glance_41 : decode cX7_glance 41 = .ok (.iconst 2, 1) := by decide +kernel
theorem dX7_glance_42 : decode cX7_glance 42 = .ok (.iaload, 1) := by decide +kernel
theorem dX7_glance_43 : decode cX7_glance 43 = .ok (.invokevirtual 271, 3) := by decide +kernel
theorem dX7_glance_46 : decode cX7_glance 46 = .ok (.aload_n 0, 1) := by decide +kernel
theorem dX7_glance_47 : decode cX7_glance 47 = .ok (.getfield 54, 3) := by decide +kernel
theorem dX7_glance_50 : decode cX7_glance 50 = .ok (.getfield 259, 3) := by decide +kernel
theorem dX7_glance_53 : decode cX7_glance 53 = .ok (.aload_n 0, 1) := by decide +kernel
theorem dX7_glance_54 : decode cX7_glance 54 = .ok (.getfield 16, 3) := by decide +kernel
theorem dX7_glance_57 : decode cX7_glance 57 = .ok (.getfield 133, 3) := by decide +kernel
theorem dX7_glance_60 : decode cX7_glance 60 = .ok (.aload_n 0, 1) := by decide +kernel
theorem dX7_glance_61 : decode cX7_glance 61 = .ok (.getfield 54, 3) := by decide +kernel
theorem dX7_glance_64 : decode cX7_glance 64 = .ok (.getfield 256, 3) := by decide +kernel
theorem dX7_glance_67 : decode cX7_glance 67 = .ok (.iaload, 1) := by decide +kernel
theorem dX7_glance_68 : decode cX7_glance 68 = .ok (.iadd, 1) := by decide +kernel
theorem dX7_glance_69 : decode cX7_glance 69 = .ok (.aload_n 0, 1) := by decide +kernel
theorem dX7_glance_70 : decode cX7_glance 70 = .ok (.getfield 54, 3) := by decide +kernel
theorem dX7_glance_73 : decode cX7_glance 73 = .ok (.getfield 274, 3) := by decide +kernel
theorem dX7_glance_76 : decode cX7_glance 76 = .ok (.if_icmp .gt 7, 3) := by decide +kernel
theorem dX7_glance_79 : decode cX7_glance 79 = .ok (.iconst 1, 1) := by decide +kernel
theorem dX7_glance_80 : decode cX7_glance 80 = .ok (.goto 4, 3) := by decide +kernel
theorem dX7_glance_83 : decode cX7_glance 83 = .ok (.iconst 0, 1) := by decide +kernel
theorem dX7_glance_84 : decode cX7_glance 84 = .ok (.ireturn, 1) := by decide +kernel
theorem dX7_sews_0 : decode cX7_sews 0 = .ok (.aload_n 0, 1) := by decide +kernel
theorem dX7_sews_1 : decode cX7_sews 1 = .ok (.getfield 54, 3) := by decide +kernel
theorem dX7_sews_4 : decode cX7_sews 4 = .ok (.getfield 256, 3) := by decide +kernel
theorem dX7_sews_7 : decode cX7_sews 7 = .ok (.aload_n 0, 1) := by decide +kernel
theorem dX7_sews_8 : decode cX7_sews 8 = .ok (.getfield 16, 3) := by decide +kernel
theorem dX7_sews_11 : decode cX7_sews 11 = .ok (.getfield 112, 3) := by decide +kernel
theorem dX7_sews_14 : decode cX7_sews 14 = .ok (.if_icmp .ge 14, 3) := by decide +kernel
theorem dX7_sews_17 : decode cX7_sews 17 = .ok (.aload_n 0, 1) := by decide +kernel
theorem dX7_sews_18 : decode cX7_sews 18 = .ok (.getfield 16, 3) := by decide +kernel
theorem dX7_sews_21 : decode cX7_sews 21 = .ok (.iload_n 1, 1) := by decide +kernel
theorem dX7_sews_22 : decode cX7_sews 22 = .ok (.invokevirtual 170, 3) := by decide +kernel
theorem dX7_sews_25 : decode cX7_sews 25 = .ok (.ifCond .ne 9, 3) := by decide +kernel
theorem dX7_sews_28 : decode cX7_sews 28 = .ok (.aload_n 0, 1) := by decide +kernel
theorem dX7_sews_29 : decode cX7_sews 29 = .ok (.iconst 2, 1) := by decide +kernel
theorem dX7_sews_30 : decode cX7_sews 30 = .ok (.invokevirtual 74, 3) := by decide +kernel
theorem dX7_sews_33 : decode cX7_sews 33 = .ok (.ireturn, 1) := by decide +kernel
theorem dX7_sews_34 : decode cX7_sews 34 = .ok (.iload_n 1, 1) := by decide +kernel
theorem dX7_sews_35 : decode cX7_sews 35 = .ok (.iconst 3, 1) := by decide +kernel
theorem dX7_sews_36 : decode cX7_sews 36 = .ok (.if_icmp .ne 15, 3) := by decide +kernel
theorem dX7_sews_39 : decode cX7_sews 39 = .ok (.aload_n 0, 1) := by decide +kernel
theorem dX7_sews_40 : decode cX7_sews 40 = .ok (.getfield 33, 3) := by decide +kernel
theorem dX7_sews_43 : decode cX7_sews 43 = .ok (.aload_n 0, 1) := by decide +kernel
theorem dX7_sews_44 : decode cX7_sews 44 = .ok (.getfield 16, 3) := by decide +kernel
theorem dX7_sews_47 : decode cX7_sews 47 = .ok (.iconst 3, 1) := by decide +kernel
theorem dX7_sews_48 : decode cX7_sews 48 = .ok (.invokevirtual 177, 3) := by decide +kernel
theorem dX7_sews_51 : decode cX7_sews 51 = .ok (.aload_n 0, 1) := by decide +kernel
theorem dX7_sews_52 : decode cX7_sews 52 = .ok (.getfield 54, 3) := by decide +kernel
theorem dX7_sews_55 : decode cX7_sews 55 = .ok (.invokevirtual 264, 3) := by decide +kernel
theorem dX7_sews_58 : decode cX7_sews 58 = .ok (.iconst 0, 1) := by decide +kernel
theorem dX7_sews_59 : decode cX7_sews 59 = .ok (.istore_n 2, 1) := by decide +kernel
theorem dX7_sews_60 : decode cX7_sews 60 = .ok (.aload_n 0, 1) := by decide +kernel
theorem dX7_sews_61 : decode cX7_sews 61 = .ok (.getfield 54, 3) := by decide +kernel
theorem dX7_sews_64 : decode cX7_sews 64 = .ok (.getfield 256, 3) := by decide +kernel
theorem dX7_sews_67 : decode cX7_sews 67 = .ok (.istore_n 3, 1) := by decide +kernel
theorem dX7_sews_68 : decode cX7_sews 68 = .ok (.iload_n 3, 1) := by decide +kernel
theorem dX7_sews_69 : decode cX7_sews 69 = .ok (.aload_n 0, 1) := by decide +kernel
theorem dX7_sews_70 : decode cX7_sews 70 = .ok (.getfield 16, 3) := by decide +kernel
theorem dX7_sews_73 : decode cX7_sews 73 = .ok (.getfield 112, 3) := by decide +kernel
theorem dX7_sews_76 : decode cX7_sews 76 = .ok (.if_icmp .ge 72, 3) := by decide +kernel
theorem dX7_sews_79 : decode cX7_sews 79 = .ok (.iload_n 2, 1) := by decide +kernel
theorem dX7_sews_80 : decode cX7_sews 80 = .ok (.aload_n 0, 1) := by decide +kernel
theorem dX7_sews_81 : decode cX7_sews 81 = .ok (.getfield 16, 3) := by decide +kernel
theorem dX7_sews_84 : decode cX7_sews 84 = .ok (.iload_n 1, 1) := by decide +kernel
theorem dX7_sews_85 : decode cX7_sews 85 = .ok (.aload_n 0, 1) := by decide +kernel
theorem dX7_sews_86 : decode cX7_sews 86 = .ok (.getfield 54, 3) := by decide +kernel
theorem dX7_sews_89 : decode cX7_sews 89 = .ok (.getfield 259, 3) := by decide +kernel
theorem dX7_sews_92 : decode cX7_sews 92 = .ok (.invokevirtual 277, 3) := by decide +kernel
theorem dX7_sews_95 : decode cX7_sews 95 = .ok (.iadd, 1) := by decide +kernel
theorem dX7_sews_96 : decode cX7_sews 96 = .ok (.istore_n 2, 1) := by decide +kernel
theorem dX7_sews_97 : decode cX7_sews 97 = .ok (.aload_n 0, 1) := by decide +kernel
theorem dX7_sews_98 : decode cX7_sews 98 = .ok (.getfield 33, 3) := by decide +kernel
theorem dX7_sews_101 : decode cX7_sews 101 = .ok (.aload_n 0, 1) := by decide +kernel
theorem dX7_sews_102 : decode cX7_sews 102 = .ok (.getfield 16, 3) := by decide +kernel
theorem dX7_sews_105 : decode cX7_sews 105 = .ok (.iload_n 1, 1) := by decide +kernel
theorem dX7_sews_106 : decode cX7_sews 106 = .ok (.iload_n 3, 1) := by decide +kernel
theorem dX7_sews_107 : decode cX7_sews 107 = .ok (.aload_n 0, 1) := by decide +kernel
theorem dX7_sews_108 : decode cX7_sews 108 = .ok (.getfield 54, 3) := by decide +kernel
theorem dX7_sews_111 : decode cX7_sews 111 = .ok (.getfield 259, 3) := by decide +kernel
theorem dX7_sews_114 : decode cX7_sews 114 = .ok (.aload_n 0, 1) := by decide +kernel
theorem dX7_sews_115 : decode cX7_sews 115 = .ok (.getfield 54, 3) := by decide +kernel
theorem dX7_sews_118 : decode cX7_sews 118 = .ok (.getfield 274, 3) := by decide +kernel
theorem dX7_sews_121 : decode cX7_sews 121 = .ok (.invokevirtual 197, 3) := by decide +kernel
theorem dX7_sews_124 : decode cX7_sews 124 = .ok (.istore 4, 2) := by decide +kernel
theorem dX7_sews_126 : decode cX7_sews 126 = .ok (.iload_n 2, 1) := by decide +kernel
theorem dX7_sews_127 : decode cX7_sews 127 = .ok (.aload_n 0, 1) := by decide +kernel
theorem dX7_sews_128 : decode cX7_sews 128 = .ok (.getfield 54, 3) := by decide +kernel
theorem dX7_sews_131 : decode cX7_sews 131 = .ok (.aload_n 0, 1) := by decide +kernel
theorem dX7_sews_132 : decode cX7_sews 132 = .ok (.getfield 16, 3) := by decide +kernel
theorem dX7_sews_135 : decode cX7_sews 135 = .ok (.iload 4, 2) := by decide +kernel
theorem dX7_sews_137 : decode cX7_sews 137 = .ok (.invokevirtual 267, 3) := by decide +kernel
theorem dX7_sews_140 : decode cX7_sews 140 = .ok (.iadd, 1) := by decide +kernel
theorem dX7_sews_141 : decode cX7_sews 141 = .ok (.istore_n 2, 1) := by decide +kernel
theorem dX7_sews_142 : decode cX7_sews 142 = .ok (.iinc 3 1, 3) := by decide +kernel
theorem dX7_sews_145 : decode cX7_sews 145 = .ok (.goto (-77), 3) := by decide +kernel
theorem dX7_sews_148 : decode cX7_sews 148 = .ok (.aload_n 0, 1) := by decide +kernel
theorem dX7_sews_149 : decode cX7_sews 149 = .ok (.getfield 54, 3) := by decide +kernel
theorem dX7_sews_152 : decode cX7_sews 152 = .ok (.iload_n 2, 1) := by decide +kernel
theorem dX7_sews_153 : decode cX7_sews 153 = .ok (.invokevirtual 271, 3) := by decide +kernel
theorem dX7_sews_156 : decode cX7_sews 156 = .ok (.iload_n 2, 1) := by decide +kernel
theorem dX7_sews_157 : decode cX7_sews 157 = .ok (.ireturn, 1) := by decide +kernel
theorem dX7_anew_0 : decode cX7_anew 0 = .ok (.aload_n 0, 1) := by decide +kernel
theorem dX7_anew_1 : decode cX7_anew 1 = .ok (.getfield 16, 3) := by decide +kernel
theorem dX7_anew_4 : decode cX7_anew 4 = .ok (.getfield 100, 3) := by decide +kernel
theorem dX7_anew_7 : decode cX7_anew 7 = .ok (.ifCond .ne 9, 3) := by decide +kernel
theorem dX7_anew_10 : decode cX7_anew 10 = .ok (.aload_n 0, 1) := by decide +kernel
theorem dX7_anew_11 : decode cX7_anew 11 = .ok (.iconst 2, 1) := by decide +kernel
theorem dX7_anew_12 : decode cX7_anew 12 = .ok (.invokevirtual 74, 3) := by decide +kernel
theorem dX7_anew_15 : decode cX7_anew 15 = .ok (.ireturn, 1) := by decide +kernel
theorem dX7_anew_16 : decode cX7_anew 16 = .ok (.aload_n 0, 1) := by decide +kernel
theorem dX7_anew_17 : decode cX7_anew 17 = .ok (.getfield 54, 3) := by decide +kernel
theorem dX7_anew_20 : decode cX7_anew 20 = .ok (.invokevirtual 264, 3) := by decide +kernel
theorem dX7_anew_23 : decode cX7_anew 23 = .ok (.aload_n 0, 1) := by decide +kernel
theorem dX7_anew_24 : decode cX7_anew 24 = .ok (.getfield 54, 3) := by decide +kernel
theorem dX7_anew_27 : decode cX7_anew 27 = .ok (.aload_n 0, 1) := by decide +kernel
theorem dX7_anew_28 : decode cX7_anew 28 = .ok (.getfield 54, 3) := by decide +kernel
theorem dX7_anew_31 : decode cX7_anew 31 = .ok (.aload_n 0, 1) := by decide +kernel
theorem dX7_anew_32 : decode cX7_anew 32 = .ok (.getfield 16, 3) := by decide +kernel
theorem dX7_anew_35 : decode cX7_anew 35 = .ok (.invokevirtual 280, 3) := by decide +kernel
theorem dX7_anew_38 : decode cX7_anew 38 = .ok (.invokevirtual 284, 3) := by decide +kernel
theorem dX7_anew_41 : decode cX7_anew 41 = .ok (.aload_n 0, 1) := by decide +kernel
theorem dX7_anew_42 : decode cX7_anew 42 = .ok (.getfield 54, 3) := by decide +kernel
theorem dX7_anew_45 : decode cX7_anew 45 = .ok (.getfield 274, 3) := by decide +kernel
theorem dX7_anew_48 : decode cX7_anew 48 = .ok (.ireturn, 1) := by decide +kernel
theorem dX7_undo_0 : decode cX7_undo 0 = .ok (.aload_n 0, 1) := by decide +kernel
theorem dX7_undo_1 : decode cX7_undo 1 = .ok (.getfield 54, 3) := by decide +kernel
theorem dX7_undo_4 : decode cX7_undo 4 = .ok (.getfield 121, 3) := by decide +kernel
theorem dX7_undo_7 : decode cX7_undo 7 = .ok (.ifCond .ne 11, 3) := by decide +kernel
theorem dX7_undo_10 : decode cX7_undo 10 = .ok (.aload_n 0, 1) := by decide +kernel
theorem dX7_undo_11 : decode cX7_undo 11 = .ok (.iconst 3, 1) := by decide +kernel
theorem dX7_undo_12 : decode cX7_undo 12 = .ok (.invokevirtual 74, 3) := by decide +kernel
theorem dX7_undo_15 : decode cX7_undo 15 = .ok (.pop, 1) := by decide +kernel
theorem dX7_undo_16 : decode cX7_undo 16 = .ok (.iconst 0, 1) := by decide +kernel
theorem dX7_undo_17 : decode cX7_undo 17 = .ok (.ireturn, 1) := by decide +kernel
theorem dX7_undo_18 : decode cX7_undo 18 = .ok (.aload_n 0, 1) := by decide +kernel
theorem dX7_undo_19 : decode cX7_undo 19 = .ok (.getfield 54, 3) := by decide +kernel
theorem dX7_undo_22 : decode cX7_undo 22 = .ok (.invokevirtual 287, 3) := by decide +kernel
theorem dX7_undo_25 : decode cX7_undo 25 = .ok (.iconst 1, 1) := by decide +kernel
theorem dX7_undo_26 : decode cX7_undo 26 = .ok (.ireturn, 1) := by decide +kernel
theorem dX7_seed_0 : decode cX7_seed 0 = .ok (.iload_n 1, 1) := by decide +kernel
theorem dX7_seed_1 : decode cX7_seed 1 = .ok (.ifCond .ge 11, 3) := by decide +kernel
theorem dX7_seed_4 : decode cX7_seed 4 = .ok (.aload_n 0, 1) := by decide +kernel
theorem dX7_seed_5 : decode cX7_seed 5 = .ok (.iconst 4, 1) := by decide +kernel
theorem dX7_seed_6 : decode cX7_seed 6 = .ok (.invokevirtual 74, 3) := by decide +kernel
theorem dX7_seed_9 : decode cX7_seed 9 = .ok (.pop, 1) := by decide +kernel
theorem dX7_seed_10 : decode cX7_seed 10 = .ok (.iconst 0, 1) := by decide +kernel
theorem dX7_seed_11 : decode cX7_seed 11 = .ok (.ireturn, 1) := by decide +kernel
theorem dX7_seed_12 : decode cX7_seed 12 = .ok (.aload_n 0, 1) := by decide +kernel
theorem dX7_seed_13 : decode cX7_seed 13 = .ok (.getfield 54, 3) := by decide +kernel
theorem dX7_seed_16 : decode cX7_seed 16 = .ok (.iload_n 1, 1) := by decide +kernel
theorem dX7_seed_17 : decode cX7_seed 17 = .ok (.putfield 290, 3) := by decide +kernel
theorem dX7_seed_20 : decode cX7_seed 20 = .ok (.iconst 1, 1) := by decide +kernel
theorem dX7_seed_21 : decode cX7_seed 21 = .ok (.ireturn, 1) := by decide +kernel
theorem dX7_see_0 : decode cX7_see 0 = .ok (.aload_n 0, 1) := by decide +kernel
theorem dX7_see_1 : decode cX7_see 1 = .ok (.getfield 70, 3) := by decide +kernel
theorem dX7_see_4 : decode cX7_see 4 = .ok (.istore_n 1, 1) := by decide +kernel
theorem dX7_see_5 : decode cX7_see 5 = .ok (.aload_n 0, 1) := by decide +kernel
theorem dX7_see_6 : decode cX7_see 6 = .ok (.iconst 0, 1) := by decide +kernel
theorem dX7_see_7 : decode cX7_see 7 = .ok (.putfield 70, 3) := by decide +kernel
theorem dX7_see_10 : decode cX7_see 10 = .ok (.aload_n 0, 1) := by decide +kernel
theorem dX7_see_11 : decode cX7_see 11 = .ok (.iload_n 1, 1) := by decide +kernel
theorem dX7_see_12 : decode cX7_see 12 = .ok (.invokevirtual 293, 3) := by decide +kernel
theorem dX7_see_15 : decode cX7_see 15 = .ok (.ifCond .ne 9, 3) := by decide +kernel
theorem dX7_see_18 : decode cX7_see 18 = .ok (.aload_n 0, 1) := by decide +kernel
theorem dX7_see_19 : decode cX7_see 19 = .ok (.iconst 1, 1) := by decide +kernel
theorem dX7_see_20 : decode cX7_see 20 = .ok (.invokevirtual 74, 3) := by decide +kernel
theorem dX7_see_23 : decode cX7_see 23 = .ok (.ireturn, 1) := by decide +kernel
theorem dX7_see_24 : decode cX7_see 24 = .ok (.aload_n 0, 1) := by decide +kernel
theorem dX7_see_25 : decode cX7_see 25 = .ok (.iload_n 1, 1) := by decide +kernel
theorem dX7_see_26 : decode cX7_see 26 = .ok (.iconst 2, 1) := by decide +kernel
theorem dX7_see_27 : decode cX7_see 27 = .ok (.idiv, 1) := by decide +kernel
theorem dX7_see_28 : decode cX7_see 28 = .ok (.putfield 97, 3) := by decide +kernel
theorem dX7_see_31 : decode cX7_see 31 = .ok (.aload_n 0, 1) := by decide +kernel
theorem dX7_see_32 : decode cX7_see 32 = .ok (.getfield 9, 3) := by decide +kernel
theorem dX7_see_35 : decode cX7_see 35 = .ok (.iconst 0, 1) := by decide +kernel
theorem dX7_see_36 : decode cX7_see 36 = .ok (.aload_n 0, 1) := by decide +kernel
theorem dX7_see_37 : decode cX7_see 37 = .ok (.getfield 58, 3) := by decide +kernel
theorem dX7_see_40 : decode cX7_see 40 = .ok (.iconst 0, 1) := by decide +kernel
theorem dX7_see_41 : decode cX7_see 41 = .ok (.iload_n 1, 1) := by decide +kernel
theorem dX7_see_42 : decode cX7_see 42 = .ok (.invokestatic 296, 3) := by decide +kernel
theorem dX7_see_45 : decode cX7_see 45 = .ok (.aload_n 0, 1) := by decide +kernel
theorem dX7_see_46 : decode cX7_see 46 = .ok (.getfield 97, 3) := by decide +kernel
theorem dX7_see_49 : decode cX7_see 49 = .ok (.ireturn, 1) := by decide +kernel
theorem dX7_tellsRows_0 : decode cX7_tellsRows 0 = .ok (.iload_n 1, 1) := by decide +kernel
theorem dX7_tellsRows_1 : decode cX7_tellsRows 1 = .ok (.iconst 2, 1) := by decide +kernel
theorem dX7_tellsRows_2 : decode cX7_tellsRows 2 = .ok (.if_icmp .lt 15, 3) := by decide +kernel
theorem dX7_tellsRows_5 : decode cX7_tellsRows 5 = .ok (.iload_n 1, 1) := by decide +kernel
theorem dX7_tellsRows_6 : decode cX7_tellsRows 6 = .ok (.bipush 40, 2) := by decide +kernel
theorem dX7_tellsRows_8 : decode cX7_tellsRows 8 = .ok (.if_icmp .gt 9, 3) := by decide +kernel
theorem dX7_tellsRows_11 : decode cX7_tellsRows 11 = .ok (.iload_n 1, 1) := by decide +kernel
theorem dX7_tellsRows_12 : decode cX7_tellsRows 12 = .ok (.iconst 2, 1) := by decide +kernel
theorem dX7_tellsRows_13 : decode cX7_tellsRows 13 = .ok (.irem, 1) := by decide +kernel
theorem dX7_tellsRows_14 : decode cX7_tellsRows 14 = .ok (.ifCond .eq 5, 3) := by decide +kernel
theorem dX7_tellsRows_17 : decode cX7_tellsRows 17 = .ok (.iconst 0, 1) := by decide +kernel
theorem dX7_tellsRows_18 : decode cX7_tellsRows 18 = .ok (.ireturn, 1) := by decide +kernel
theorem dX7_tellsRows_19 : decode cX7_tellsRows 19 = .ok (.iconst 0, 1) := by decide +kernel
theorem dX7_tellsRows_20 : decode cX7_tellsRows 20 = .ok (.istore_n 2, 1) := by decide +kernel
theorem dX7_tellsRows_21 : decode cX7_tellsRows 21 = .ok (.iload_n 2, 1) := by decide +kernel
theorem dX7_tellsRows_22 : decode cX7_tellsRows 22 = .ok (.iload_n 1, 1) := by decide +kernel
theorem dX7_tellsRows_23 : decode cX7_tellsRows 23 = .ok (.if_icmp .ge 39, 3) := by decide +kernel
theorem dX7_tellsRows_26 : decode cX7_tellsRows 26 = .ok (.aload_n 0, 1) := by decide +kernel
theorem dX7_tellsRows_27 : decode cX7_tellsRows 27 = .ok (.getfield 9, 3) := by decide +kernel
theorem dX7_tellsRows_30 : decode cX7_tellsRows 30 = .ok (.iload_n 2, 1) := by decide +kernel
theorem dX7_tellsRows_31 : decode cX7_tellsRows 31 = .ok (.iaload, 1) := by decide +kernel
theorem dX7_tellsRows_32 : decode cX7_tellsRows 32 = .ok (.aload_n 0, 1) := by decide +kernel
theorem dX7_tellsRows_33 : decode cX7_tellsRows 33 = .ok (.getfield 16, 3) := by decide +kernel
theorem dX7_tellsRows_36 : decode cX7_tellsRows 36 = .ok (.getfield 112, 3) := by decide +kernel
theorem dX7_tellsRows_39 : decode cX7_tellsRows 39 = .ok (.if_icmp .ge 15, 3) := by decide +kernel
theorem dX7_tellsRows_42 : decode cX7_tellsRows 42 = .ok (.aload_n 0, 1) := by decide +kernel
theorem dX7_tellsRows_43 : decode cX7_tellsRows 43 = .ok (.getfield 9, 3) := by decide +kernel
theorem dX7_tellsRows_46 : decode cX7_tellsRows 46 = .ok (.iload_n 2, 1) := by decide +kernel
theorem dX7_tellsRows_47 : decode cX7_tellsRows 47 = .ok (.iconst 1, 1) := by decide +kernel
theorem dX7_tellsRows_48 : decode cX7_tellsRows 48 = .ok (.iadd, 1) := by decide +kernel
theorem dX7_tellsRows_49 : decode cX7_tellsRows 49 = .ok (.iaload, 1) := by decide +kernel
theorem dX7_tellsRows_50 : decode cX7_tellsRows 50 = .ok (.iconst 1, 1) := by decide +kernel
theorem dX7_tellsRows_51 : decode cX7_tellsRows 51 = .ok (.if_icmp .le 5, 3) := by decide +kernel
theorem dX7_tellsRows_54 : decode cX7_tellsRows 54 = .ok (.iconst 0, 1) := by decide +kernel
theorem dX7_tellsRows_55 : decode cX7_tellsRows 55 = .ok (.ireturn, 1) := by decide +kernel
theorem dX7_tellsRows_56 : decode cX7_tellsRows 56 = .ok (.iinc 2 2, 3) := by decide +kernel
theorem dX7_tellsRows_59 : decode cX7_tellsRows 59 = .ok (.goto (-38), 3) := by decide +kernel
theorem dX7_tellsRows_62 : decode cX7_tellsRows 62 = .ok (.iconst 1, 1) := by decide +kernel
theorem dX7_tellsRows_63 : decode cX7_tellsRows 63 = .ok (.ireturn, 1) := by decide +kernel
theorem dX7_fits_0 : decode cX7_fits 0 = .ok (.aload_n 0, 1) := by decide +kernel
theorem dX7_fits_1 : decode cX7_fits 1 = .ok (.getfield 97, 3) := by decide +kernel
theorem dX7_fits_4 : decode cX7_fits 4 = .ok (.ifCond .eq 12, 3) := by decide +kernel
theorem dX7_fits_7 : decode cX7_fits 7 = .ok (.iload_n 1, 1) := by decide +kernel
theorem dX7_fits_8 : decode cX7_fits 8 = .ok (.ifCond .lt 8, 3) := by decide +kernel
theorem dX7_fits_11 : decode cX7_fits 11 = .ok (.iload_n 1, 1) := by decide +kernel
theorem dX7_fits_12 : decode cX7_fits 12 = .ok (.iconst 2, 1) := by decide +kernel
theorem dX7_fits_13 : decode cX7_fits 13 = .ok (.if_icmp .le 5, 3) := by decide +kernel
theorem dX7_fits_16 : decode cX7_fits 16 = .ok (.iconst (-1), 1) := by decide +kernel
theorem dX7_fits_17 : decode cX7_fits 17 = .ok (.ireturn, 1) := by decide +kernel
theorem dX7_fits_18 : decode cX7_fits 18 = .ok (.iconst 0, 1) := by decide +kernel
theorem dX7_fits_19 : decode cX7_fits 19 = .ok (.istore_n 2, 1) := by decide +kernel
theorem dX7_fits_20 : decode cX7_fits 20 = .ok (.iconst (-1), 1) := by decide +kernel
theorem dX7_fits_21 : decode cX7_fits 21 = .ok (.istore_n 3, 1) := by decide +kernel
theorem dX7_fits_22 : decode cX7_fits 22 = .ok (.iconst (-1), 1) := by decide +kernel
theorem dX7_fits_23 : decode cX7_fits 23 = .ok (.istore 4, 2) := by decide +kernel
theorem dX7_fits_25 : decode cX7_fits 25 = .ok (.iconst 1, 1) := by decide +kernel
theorem dX7_fits_26 : decode cX7_fits 26 = .ok (.aload_n 0, 1) := by decide +kernel
theorem dX7_fits_27 : decode cX7_fits 27 = .ok (.getfield 16, 3) := by decide +kernel
theorem dX7_fits_30 : decode cX7_fits 30 = .ok (.invokevirtual 243, 3) := by decide +kernel
theorem dX7_fits_33 : decode cX7_fits 33 = .ok (.invokestatic 247, 3) := by decide +kernel
theorem dX7_fits_36 : decode cX7_fits 36 = .ok (.istore 5, 2) := by decide +kernel
theorem dX7_fits_38 : decode cX7_fits 38 = .ok (.iload 5, 2) := by decide +kernel
theorem dX7_fits_40 : decode cX7_fits 40 = .ok (.bipush 99, 2) := by decide +kernel
theorem dX7_fits_42 : decode cX7_fits 42 = .ok (.if_icmp .gt 37, 3) := by decide +kernel
theorem dX7_fits_45 : decode cX7_fits 45 = .ok (.aload_n 0, 1) := by decide +kernel
theorem dX7_fits_46 : decode cX7_fits 46 = .ok (.iload 5, 2) := by decide +kernel
theorem dX7_fits_48 : decode cX7_fits 48 = .ok (.invokevirtual 302, 3) := by decide +kernel
theorem dX7_fits_51 : decode cX7_fits 51 = .ok (.ifCond .eq 22, 3) := by decide +kernel
theorem dX7_fits_54 : decode cX7_fits 54 = .ok (.iinc 2 1, 3) := by decide +kernel
theorem dX7_fits_57 : decode cX7_fits 57 = .ok (.iload 5, 2) := by decide +kernel
theorem dX7_fits_59 : decode cX7_fits 59 = .ok (.istore 4, 2) := by decide +kernel
theorem dX7_fits_61 : decode cX7_fits 61 = .ok (.iload_n 3, 1) := by decide +kernel
theorem dX7_fits_62 : decode cX7_fits 62 = .ok (.iconst (-1), 1) := by decide +kernel
theorem dX7_fits_63 : decode cX7_fits 63 = .ok (.if_icmp .ne 8, 3) := by decide +kernel
theorem dX7_fits_66 : decode cX7_fits 66 = .ok (.iload 5, 2) := by decide +kernel
theorem dX7_fits_68 : decode cX7_fits 68 = .ok (.goto 4, 3) := by decide +kernel
theorem dX7_fits_71 : decode cX7_fits 71 = .ok (.iload_n 3, 1) := by decide +kernel
theorem dX7_fits_72 : decode cX7_fits 72 = .ok (.istore_n 3, 1) := by decide +kernel
theorem dX7_fits_73 : decode cX7_fits 73 = .ok (.iinc 5 1, 3) := by decide +kernel
theorem dX7_fits_76 : decode cX7_fits 76 = .ok (.goto (-38), 3) := by decide +kernel
theorem dX7_fits_79 : decode cX7_fits 79 = .ok (.iload_n 1, 1) := by decide +kernel
theorem dX7_fits_80 : decode cX7_fits 80 = .ok (.ifCond .ne 5, 3) := by decide +kernel
theorem dX7_fits_83 : decode cX7_fits 83 = .ok (.iload_n 2, 1) := by decide +kernel
theorem dX7_fits_84 : decode cX7_fits 84 = .ok (.ireturn, 1) := by decide +kernel
theorem dX7_fits_85 : decode cX7_fits 85 = .ok (.iload_n 1, 1) := by decide +kernel
theorem dX7_fits_86 : decode cX7_fits 86 = .ok (.iconst 1, 1) := by decide +kernel
theorem dX7_fits_87 : decode cX7_fits 87 = .ok (.if_icmp .ne 7, 3) := by decide +kernel
theorem dX7_fits_90 : decode cX7_fits 90 = .ok (.iload_n 3, 1) := by decide +kernel
theorem dX7_fits_91 : decode cX7_fits 91 = .ok (.goto 5, 3) := by decide +kernel
theorem dX7_fits_94 : decode cX7_fits 94 = .ok (.iload 4, 2) := by decide +kernel
theorem dX7_fits_96 : decode cX7_fits 96 = .ok (.ireturn, 1) := by decide +kernel
theorem dX7_agrees_0 : decode cX7_agrees 0 = .ok (.aload_n 0, 1) := by decide +kernel
theorem dX7_agrees_1 : decode cX7_agrees 1 = .ok (.getfield 47, 3) := by decide +kernel
theorem dX7_agrees_4 : decode cX7_agrees 4 = .ok (.aload_n 0, 1) := by decide +kernel
theorem dX7_agrees_5 : decode cX7_agrees 5 = .ok (.getfield 16, 3) := by decide +kernel
theorem dX7_agrees_8 : decode cX7_agrees 8 = .ok (.iload_n 1, 1) := by decide +kernel
theorem dX7_agrees_9 : decode cX7_agrees 9 = .ok (.invokevirtual 204, 3) := by decide +kernel
theorem dX7_agrees_12 : decode cX7_agrees 12 = .ok (.iconst 0, 1) := by decide +kernel
theorem dX7_agrees_13 : decode cX7_agrees 13 = .ok (.istore_n 2, 1) := by decide +kernel
theorem dX7_agrees_14 : decode cX7_agrees 14 = .ok (.iload_n 2, 1) := by decide +kernel
theorem dX7_agrees_15 : decode cX7_agrees 15 = .ok (.iconst 2, 1) := by decide +kernel
theorem dX7_agrees_16 : decode cX7_agrees 16 = .ok (.aload_n 0, 1) := by decide +kernel
theorem dX7_agrees_17 : decode cX7_agrees 17 = .ok (.getfield 97, 3) := by decide +kernel
theorem dX7_agrees_20 : decode cX7_agrees 20 = .ok (.imul, 1) := by decide +kernel
theorem dX7_agrees_21 : decode cX7_agrees 21 = .ok (.if_icmp .ge 36, 3) := by decide +kernel
theorem dX7_agrees_24 : decode cX7_agrees 24 = .ok (.aload_n 0, 1) := by decide +kernel
theorem dX7_agrees_25 : decode cX7_agrees 25 = .ok (.getfield 47, 3) := by decide +kernel
theorem dX7_agrees_28 : decode cX7_agrees 28 = .ok (.getfield 210, 3) := by decide +kernel
theorem dX7_agrees_31 : decode cX7_agrees 31 = .ok (.aload_n 0, 1) := by decide +kernel
theorem dX7_agrees_32 : decode cX7_agrees 32 = .ok (.getfield 58, 3) := by decide +kernel
theorem dX7_agrees_35 : decode cX7_agrees 35 = .ok (.iload_n 2, 1) := by decide +kernel
theorem dX7_agrees_36 : decode cX7_agrees 36 = .ok (.iaload, 1) := by decide +kernel
theorem dX7_agrees_37 : decode cX7_agrees 37 = .ok (.iaload, 1) := by decide +kernel
theorem dX7_agrees_38 : decode cX7_agrees 38 = .ok (.aload_n 0, 1) := by decide +kernel
theorem dX7_agrees_39 : decode cX7_agrees 39 = .ok (.getfield 58, 3) := by decide +kernel
theorem dX7_agrees_42 : decode cX7_agrees 42 = .ok (.iload_n 2, 1) := by decide +kernel
theorem dX7_agrees_43 : decode cX7_agrees 43 = .ok (.iconst 1, 1) := by decide +kernel
theorem dX7_agrees_44 : decode cX7_agrees 44 = .ok (.iadd, 1) := by decide +kernel
theorem dX7_agrees_45 : decode cX7_agrees 45 = .ok (.iaload, 1) := by decide +kernel
theorem dX7_agrees_46 : decode cX7_agrees 46 = .ok (.if_icmp .eq 5, 3) := by decide +kernel
theorem dX7_agrees_49 : decode cX7_agrees 49 = .ok (.iconst 0, 1) := by decide +kernel
theorem dX7_agrees_50 : decode cX7_agrees 50 = .ok (.ireturn, 1) := by decide +kernel
theorem dX7_agrees_51 : decode cX7_agrees 51 = .ok (.iinc 2 2, 3) := by decide +kernel
theorem dX7_agrees_54 : decode cX7_agrees 54 = .ok (.goto (-40), 3) := by decide +kernel
theorem dX7_agrees_57 : decode cX7_agrees 57 = .ok (.iconst 1, 1) := by decide +kernel
theorem dX7_agrees_58 : decode cX7_agrees 58 = .ok (.ireturn, 1) := by decide +kernel
theorem dX7_ask_0 : decode cX7_ask 0 = .ok (.aload_n 0, 1) := by decide +kernel
theorem dX7_ask_1 : decode cX7_ask 1 = .ok (.getfield 70, 3) := by decide +kernel
theorem dX7_ask_4 : decode cX7_ask 4 = .ok (.istore_n 3, 1) := by decide +kernel
theorem dX7_ask_5 : decode cX7_ask 5 = .ok (.aload_n 0, 1) := by decide +kernel
theorem dX7_ask_6 : decode cX7_ask 6 = .ok (.iconst 0, 1) := by decide +kernel
theorem dX7_ask_7 : decode cX7_ask 7 = .ok (.putfield 70, 3) := by decide +kernel
theorem dX7_ask_10 : decode cX7_ask 10 = .ok (.aload_n 0, 1) := by decide +kernel
theorem dX7_ask_11 : decode cX7_ask 11 = .ok (.getfield 16, 3) := by decide +kernel
theorem dX7_ask_14 : decode cX7_ask 14 = .ok (.iload_n 1, 1) := by decide +kernel
theorem dX7_ask_15 : decode cX7_ask 15 = .ok (.invokevirtual 170, 3) := by decide +kernel
theorem dX7_ask_18 : decode cX7_ask 18 = .ok (.ifCond .eq 10, 3) := by decide +kernel
theorem dX7_ask_21 : decode cX7_ask 21 = .ok (.iload_n 2, 1) := by decide +kernel
theorem dX7_ask_22 : decode cX7_ask 22 = .ok (.invokestatic 174, 3) := by decide +kernel
theorem dX7_ask_25 : decode cX7_ask 25 = .ok (.ifCond .ne 7, 3) := by decide +kernel
theorem dX7_ask_28 : decode cX7_ask 28 = .ok (.ldc2_w 305, 3) := by decide +kernel
theorem dX7_ask_31 : decode cX7_ask 31 = .ok (.lreturn, 1) := by decide +kernel
theorem dX7_ask_32 : decode cX7_ask 32 = .ok (.aload_n 0, 1) := by decide +kernel
theorem dX7_ask_33 : decode cX7_ask 33 = .ok (.getfield 26, 3) := by decide +kernel
theorem dX7_ask_36 : decode cX7_ask 36 = .ok (.aload_n 0, 1) := by decide +kernel
theorem dX7_ask_37 : decode cX7_ask 37 = .ok (.getfield 9, 3) := by decide +kernel
theorem dX7_ask_40 : decode cX7_ask 40 = .ok (.iload_n 3, 1) := by decide +kernel
theorem dX7_ask_41 : decode cX7_ask 41 = .ok (.invokevirtual 307, 3) := by decide +kernel
theorem dX7_ask_44 : decode cX7_ask 44 = .ok (.istore 4, 2) := by decide +kernel
theorem dX7_ask_46 : decode cX7_ask 46 = .ok (.aload_n 0, 1) := by decide +kernel
theorem dX7_ask_47 : decode cX7_ask 47 = .ok (.getfield 26, 3) := by decide +kernel
theorem dX7_ask_50 : decode cX7_ask 50 = .ok (.getfield 86, 3) := by decide +kernel
theorem dX7_ask_53 : decode cX7_ask 53 = .ok (.ifCond .ne 12, 3) := by decide +kernel
theorem dX7_ask_56 : decode cX7_ask 56 = .ok (.aload_n 0, 1) := by decide +kernel
theorem dX7_ask_57 : decode cX7_ask 57 = .ok (.iload_n 1, 1) := by decide +kernel
theorem dX7_ask_58 : decode cX7_ask 58 = .ok (.iload_n 2, 1) := by decide +kernel
theorem dX7_ask_59 : decode cX7_ask 59 = .ok (.invokevirtual 145, 3) := by decide +kernel
theorem dX7_ask_62 : decode cX7_ask 62 = .ok (.ifCond .ne 7, 3) := by decide +kernel
theorem dX7_ask_65 : decode cX7_ask 65 = .ok (.ldc2_w 305, 3) := by decide +kernel
theorem dX7_ask_68 : decode cX7_ask 68 = .ok (.lreturn, 1) := by decide +kernel
theorem dX7_ask_69 : decode cX7_ask 69 = .ok (.iload 4, 2) := by decide +kernel
theorem dX7_ask_71 : decode cX7_ask 71 = .ok (.bipush 30, 2) := by decide +kernel
theorem dX7_ask_73 : decode cX7_ask 73 = .ok (.if_icmp .eq 17, 3) := by decide +kernel
theorem dX7_ask_76 : decode cX7_ask 76 = .ok (.iload 4, 2) := by decide +kernel
theorem dX7_ask_78 : decode cX7_ask 78 = .ok (.bipush 31, 2) := by decide +kernel
theorem dX7_ask_80 : decode cX7_ask 80 = .ok (.if_icmp .eq 10, 3) := by decide +kernel
theorem dX7_ask_83 : decode cX7_ask 83 = .ok (.iload 4, 2) := by decide +kernel
theorem dX7_ask_85 : decode cX7_ask 85 = .ok (.bipush 32, 2) := by decide +kernel
theorem dX7_ask_87 : decode cX7_ask 87 = .ok (.if_icmp .ne 7, 3) := by decide +kernel
theorem dX7_ask_90 : decode cX7_ask 90 = .ok (.iconst 1, 1) := by decide +kernel
theorem dX7_ask_91 : decode cX7_ask 91 = .ok (.goto 4, 3) := by decide +kernel
theorem dX7_ask_94 : decode cX7_ask 94 = .ok (.iconst 0, 1) := by decide +kernel
theorem dX7_ask_95 : decode cX7_ask 95 = .ok (.istore 5, 2) := by decide +kernel
theorem dX7_ask_97 : decode cX7_ask 97 = .ok (.iload 4, 2) := by decide +kernel
theorem dX7_ask_99 : decode cX7_ask 99 = .ok (.bipush 30, 2) := by decide +kernel
theorem dX7_ask_101 : decode cX7_ask 101 = .ok (.if_icmp .eq 10, 3) := by decide +kernel
theorem dX7_ask_104 : decode cX7_ask 104 = .ok (.iload 4, 2) := by decide +kernel
theorem dX7_ask_106 : decode cX7_ask 106 = .ok (.bipush 31, 2) := by decide +kernel
theorem dX7_ask_108 : decode cX7_ask 108 = .ok (.if_icmp .ne 9, 3) := by decide +kernel
theorem dX7_ask_111 : decode cX7_ask 111 = .ok (.ldc2_w 311, 3) := by decide +kernel
theorem dX7_ask_114 : decode cX7_ask 114 = .ok (.goto 4, 3) := by decide +kernel
theorem dX7_ask_117 : decode cX7_ask 117 = .ok (.lconst 0, 1) := by decide +kernel
theorem dX7_ask_118 : decode cX7_ask 118 = .ok (.lstore 6, 2) := by decide +kernel
theorem dX7_ask_120 : decode cX7_ask 120 = .ok (.iconst 0, 1) := by decide +kernel
theorem dX7_ask_121 : decode cX7_ask 121 = .ok (.istore 8, 2) := by decide +kernel
theorem dX7_ask_123 : decode cX7_ask 123 = .ok (.iload 8, 2) := by decide +kernel
theorem dX7_ask_125 : decode cX7_ask 125 = .ok (.aload_n 0, 1) := by decide +kernel
theorem dX7_ask_126 : decode cX7_ask 126 = .ok (.getfield 16, 3) := by decide +kernel
theorem dX7_ask_129 : decode cX7_ask 129 = .ok (.getfield 112, 3) := by decide +kernel
theorem dX7_ask_132 : decode cX7_ask 132 = .ok (.if_icmp .ge 100, 3) := by decide +kernel
theorem dX7_ask_135 : decode cX7_ask 135 = .ok (.aload_n 0, 1) := by decide +kernel
theorem dX7_ask_136 : decode cX7_ask 136 = .ok (.getfield 26, 3) := by decide +kernel
theorem dX7_ask_139 : decode cX7_ask 139 = .ok (.getfield 313, 3) := by decide +kernel
theorem dX7_ask_142 : decode cX7_ask 142 = .ok (.iconst 0, 1) := by decide +kernel
theorem dX7_ask_143 : decode cX7_ask 143 = .ok (.aload_n 0, 1) := by decide +kernel
theorem dX7_ask_144 : decode cX7_ask 144 = .ok (.getfield 26, 3) := by decide +kernel
theorem dX7_ask_147 : decode cX7_ask 147 = .ok (.getfield 313, 3) := by decide +kernel
theorem dX7_ask_150 : decode cX7_ask 150 = .ok (.getfield 317, 3) := by decide +kernel
theorem dX7_ask_153 : decode cX7_ask 153 = .ok (.aload_n 0, 1) := by decide +kernel
theorem dX7_ask_154 : decode cX7_ask 154 = .ok (.getfield 40, 3) := by decide +kernel
theorem dX7_ask_157 : decode cX7_ask 157 = .ok (.aload_n 0, 1) := by decide +kernel
theorem dX7_ask_158 : decode cX7_ask 158 = .ok (.getfield 16, 3) := by decide +kernel
theorem dX7_ask_161 : decode cX7_ask 161 = .ok (.iload 8, 2) := by decide +kernel
theorem dX7_ask_163 : decode cX7_ask 163 = .ok (.invokevirtual 322, 3) := by decide +kernel
theorem dX7_ask_166 : decode cX7_ask 166 = .ok (.aload_n 0, 1) := by decide +kernel
theorem dX7_ask_167 : decode cX7_ask 167 = .ok (.getfield 16, 3) := by decide +kernel
theorem dX7_ask_170 : decode cX7_ask 170 = .ok (.invokevirtual 326, 3) := by decide +kernel
theorem dX7_ask_173 : decode cX7_ask 173 = .ok (.istore 9, 2) := by decide +kernel
theorem dX7_ask_175 : decode cX7_ask 175 = .ok (.iload 5, 2) := by decide +kernel
theorem dX7_ask_177 : decode cX7_ask 177 = .ok (.ifCond .eq 27, 3) := by decide +kernel
theorem dX7_ask_180 : decode cX7_ask 180 = .ok (.iload 9, 2) := by decide +kernel
theorem dX7_ask_182 : decode cX7_ask 182 = .ok (.ifCond .ne 8, 3) := by decide +kernel
theorem dX7_ask_185 : decode cX7_ask 185 = .ok (.lload 6, 2) := by decide +kernel
theorem dX7_ask_187 : decode cX7_ask 187 = .ok (.goto 12, 3) := by decide +kernel
theorem dX7_ask_190 : decode cX7_ask 190 = .ok (.iload 4, 2) := by decide +kernel
theorem dX7_ask_192 : decode cX7_ask 192 = .ok (.lload 6, 2) := by decide +kernel
theorem dX7_ask_194 : decode cX7_ask 194 = .ok (.iload 8, 2) := by decide +kernel
theorem dX7_ask_196 : decode cX7_ask 196 = .ok (.invokestatic 330, 3) := by decide +kernel
theorem dX7_ask_199 : decode cX7_ask 199 = .ok (.lstore 6, 2) := by decide +kernel
theorem dX7_ask_201 : decode cX7_ask 201 = .ok (.goto 25, 3) := by decide +kernel
theorem dX7_ask_204 : decode cX7_ask 204 = .ok (.iload 8, 2) := by decide +kernel
theorem dX7_ask_206 : decode cX7_ask 206 = .ok (.ifCond .ne 9, 3) := by decide +kernel
theorem dX7_ask_209 : decode cX7_ask 209 = .ok (.iload 9, 2) := by decide +kernel
theorem dX7_ask_211 : decode cX7_ask 211 = .ok (.i2l, 1) := by decide +kernel
theorem dX7_ask_212 : decode cX7_ask 212 = .ok (.goto 12, 3) := by decide +kernel
theorem dX7_ask_215 : decode cX7_ask 215 = .ok (.iload 4, 2) := by decide +kernel
theorem dX7_ask_217 : decode cX7_ask 217 = .ok (.lload 6, 2) := by decide +kernel
theorem dX7_ask_219 : decode cX7_ask 219 = .ok (.iload 9, 2) := by decide +kernel
theorem dX7_ask_221 : decode cX7_ask 221 = .ok (.invokestatic 334, 3) := by decide +kernel
theorem dX7_ask_224 : decode cX7_ask 224 = .ok (.lstore 6, 2) := by decide +kernel
theorem dX7_ask_226 : decode cX7_ask 226 = .ok (.iinc 8 1, 3) := by decide +kernel
theorem dX7_ask_229 : decode cX7_ask 229 = .ok (.goto (-106), 3) := by decide +kernel
theorem dX7_ask_232 : decode cX7_ask 232 = .ok (.lload 6, 2) := by decide +kernel
theorem dX7_ask_234 : decode cX7_ask 234 = .ok (.lreturn, 1) := by decide +kernel
theorem dX7_counted_0 : decode cX7_counted 0 = .ok (.iload_n 0, 1) := by decide +kernel
theorem dX7_counted_1 : decode cX7_counted 1 = .ok (.bipush 32, 2) := by decide +kernel
theorem dX7_counted_3 : decode cX7_counted 3 = .ok (.if_icmp .ne 7, 3) := by decide +kernel
theorem dX7_counted_6 : decode cX7_counted 6 = .ok (.lload_n 1, 1) := by decide +kernel
theorem dX7_counted_7 : decode cX7_counted 7 = .ok (.lconst 1, 1) := by decide +kernel
theorem dX7_counted_8 : decode cX7_counted 8 = .ok (.ladd, 1) := by decide +kernel
theorem dX7_counted_9 : decode cX7_counted 9 = .ok (.lreturn, 1) := by decide +kernel
theorem dX7_counted_10 : decode cX7_counted 10 = .ok (.iload_n 0, 1) := by decide +kernel
theorem dX7_counted_11 : decode cX7_counted 11 = .ok (.bipush 30, 2) := by decide +kernel
theorem dX7_counted_13 : decode cX7_counted 13 = .ok (.if_icmp .ne 15, 3) := by decide +kernel
theorem dX7_counted_16 : decode cX7_counted 16 = .ok (.lload_n 1, 1) := by decide +kernel
theorem dX7_counted_17 : decode cX7_counted 17 = .ok (.ldc2_w 311, 3) := by decide +kernel
theorem dX7_counted_20 : decode cX7_counted 20 = .ok (.lcmp, 1) := by decide +kernel
theorem dX7_counted_21 : decode cX7_counted 21 = .ok (.ifCond .eq 7, 3) := by decide +kernel
theorem dX7_counted_24 : decode cX7_counted 24 = .ok (.lload_n 1, 1) := by decide +kernel
theorem dX7_counted_25 : decode cX7_counted 25 = .ok (.goto 5, 3) := by decide +kernel
theorem dX7_counted_28 : decode cX7_counted 28 = .ok (.iload_n 3, 1) := by decide +kernel
theorem dX7_counted_29 : decode cX7_counted 29 = .ok (.i2l, 1) := by decide +kernel
theorem dX7_counted_30 : decode cX7_counted 30 = .ok (.lreturn, 1) := by decide +kernel
theorem dX7_gathered_0 : decode cX7_gathered 0 = .ok (.iload_n 0, 1) := by decide +kernel
theorem dX7_gathered_1 : decode cX7_gathered 1 = .ok (.bipush 33, 2) := by decide +kernel
theorem dX7_gathered_3 : decode cX7_gathered 3 = .ok (.if_icmp .ne 8, 3) := by decide +kernel
theorem dX7_gathered_6 : decode cX7_gathered 6 = .ok (.lload_n 1, 1) := by decide +kernel
theorem dX7_gathered_7 : decode cX7_gathered 7 = .ok (.iload_n 3, 1) := by decide +kernel
theorem dX7_gathered_8 : decode cX7_gathered 8 = .ok (.i2l, 1) := by decide +kernel
theorem dX7_gathered_9 : decode cX7_gathered 9 = .ok (.ladd, 1) := by decide +kernel
theorem dX7_gathered_10 : decode cX7_gathered 10 = .ok (.lreturn, 1) := by decide +kernel
theorem dX7_gathered_11 : decode cX7_gathered 11 = .ok (.iload_n 0, 1) := by decide +kernel
theorem dX7_gathered_12 : decode cX7_gathered 12 = .ok (.bipush 19, 2) := by decide +kernel
theorem dX7_gathered_14 : decode cX7_gathered 14 = .ok (.if_icmp .ne 12, 3) := by decide +kernel
theorem dX7_gathered_17 : decode cX7_gathered 17 = .ok (.lload_n 1, 1) := by decide +kernel
theorem dX7_gathered_18 : decode cX7_gathered 18 = .ok (.iload_n 3, 1) := by decide +kernel
theorem dX7_gathered_19 : decode cX7_gathered 19 = .ok (.i2l, 1) := by decide +kernel
theorem dX7_gathered_20 : decode cX7_gathered 20 = .ok (.invokestatic 337, 3) := by decide +kernel
theorem dX7_gathered_23 : decode cX7_gathered 23 = .ok (.goto 9, 3) := by decide +kernel
theorem dX7_gathered_26 : decode cX7_gathered 26 = .ok (.lload_n 1, 1) := by decide +kernel
theorem dX7_gathered_27 : decode cX7_gathered 27 = .ok (.iload_n 3, 1) := by decide +kernel
theorem dX7_gathered_28 : decode cX7_gathered 28 = .ok (.i2l, 1) := by decide +kernel
theorem dX7_gathered_29 : decode cX7_gathered 29 = .ok (.invokestatic 340, 3) := by decide +kernel
theorem dX7_gathered_32 : decode cX7_gathered 32 = .ok (.lreturn, 1) := by decide +kernel
theorem dX7_image_0 : decode cX7_image 0 = .ok (.aload_n 0, 1) := by decide +kernel
theorem dX7_image_1 : decode cX7_image 1 = .ok (.getfield 61, 3) := by decide +kernel
theorem dX7_image_4 : decode cX7_image 4 = .ok (.iconst 0, 1) := by decide +kernel
theorem dX7_image_5 : decode cX7_image 5 = .ok (.aload_n 0, 1) := by decide +kernel
theorem dX7_image_6 : decode cX7_image 6 = .ok (.getfield 54, 3) := by decide +kernel
theorem dX7_image_9 : decode cX7_image 9 = .ok (.getfield 256, 3) := by decide +kernel
theorem dX7_image_12 : decode cX7_image 12 = .ok (.iastore, 1) := by decide +kernel
theorem dX7_image_13 : decode cX7_image 13 = .ok (.aload_n 0, 1) := by decide +kernel
theorem dX7_image_14 : decode cX7_image 14 = .ok (.getfield 61, 3) := by decide +kernel
theorem dX7_image_17 : decode cX7_image 17 = .ok (.iconst 1, 1) := by decide +kernel
theorem dX7_image_18 : decode cX7_image 18 = .ok (.aload_n 0, 1) := by decide +kernel
theorem dX7_image_19 : decode cX7_image 19 = .ok (.getfield 54, 3) := by decide +kernel
theorem dX7_image_22 : decode cX7_image 22 = .ok (.getfield 259, 3) := by decide +kernel
theorem dX7_image_25 : decode cX7_image 25 = .ok (.iastore, 1) := by decide +kernel
theorem dX7_image_26 : decode cX7_image 26 = .ok (.aload_n 0, 1) := by decide +kernel
theorem dX7_image_27 : decode cX7_image 27 = .ok (.getfield 61, 3) := by decide +kernel
theorem dX7_image_30 : decode cX7_image 30 = .ok (.iconst 2, 1) := by decide +kernel
theorem dX7_image_31 : decode cX7_image 31 = .ok (.aload_n 0, 1) := by decide +kernel
theorem dX7_image_32 : decode cX7_image 32 = .ok (.getfield 54, 3) := by decide +kernel
theorem dX7_image_35 : decode cX7_image 35 = .ok (.getfield 274, 3) := by decide +kernel
theorem dX7_image_38 : decode cX7_image 38 = .ok (.iastore, 1) := by decide +kernel
theorem dX7_image_39 : decode cX7_image 39 = .ok (.aload_n 0, 1) := by decide +kernel
theorem dX7_image_40 : decode cX7_image 40 = .ok (.getfield 61, 3) := by decide +kernel
theorem dX7_image_43 : decode cX7_image 43 = .ok (.iconst 3, 1) := by decide +kernel
theorem dX7_image_44 : decode cX7_image 44 = .ok (.aload_n 0, 1) := by decide +kernel
theorem dX7_image_45 : decode cX7_image 45 = .ok (.getfield 54, 3) := by decide +kernel
theorem dX7_image_48 : decode cX7_image 48 = .ok (.getfield 261, 3) := by decide +kernel
theorem dX7_image_51 : decode cX7_image 51 = .ok (.iastore, 1) := by decide +kernel
theorem dX7_image_52 : decode cX7_image 52 = .ok (.aload_n 0, 1) := by decide +kernel
theorem dX7_image_53 : decode cX7_image 53 = .ok (.getfield 61, 3) := by decide +kernel
theorem dX7_image_56 : decode cX7_image 56 = .ok (.iconst 4, 1) := by decide +kernel
theorem dX7_image_57 : decode cX7_image 57 = .ok (.aload_n 0, 1) := by decide +kernel
theorem dX7_image_58 : decode cX7_image 58 = .ok (.getfield 54, 3) := by decide +kernel
theorem dX7_image_61 : decode cX7_image 61 = .ok (.getfield 262, 3) := by decide +kernel
theorem dX7_image_64 : decode cX7_image 64 = .ok (.iastore, 1) := by decide +kernel
theorem dX7_image_65 : decode cX7_image 65 = .ok (.aload_n 0, 1) := by decide +kernel
theorem dX7_image_66 : decode cX7_image 66 = .ok (.getfield 61, 3) := by decide +kernel
theorem dX7_image_69 : decode cX7_image 69 = .ok (.iconst 5, 1) := by decide +kernel
theorem dX7_image_70 : decode cX7_image 70 = .ok (.aload_n 0, 1) := by decide +kernel
theorem dX7_image_71 : decode cX7_image 71 = .ok (.getfield 54, 3) := by decide +kernel
theorem dX7_image_74 : decode cX7_image 74 = .ok (.getfield 263, 3) := by decide +kernel
theorem dX7_image_77 : decode cX7_image 77 = .ok (.sipush 256, 3) := by decide +kernel
theorem dX7_image_80 : decode cX7_image 80 = .ok (.idiv, 1) := by decide +kernel
theorem dX7_image_81 : decode cX7_image 81 = .ok (.iastore, 1) := by decide +kernel
theorem dX7_image_82 : decode cX7_image 82 = .ok (.aload_n 0, 1) := by decide +kernel
theorem dX7_image_83 : decode cX7_image 83 = .ok (.getfield 61, 3) := by decide +kernel
theorem dX7_image_86 : decode cX7_image 86 = .ok (.bipush 6, 2) := by decide +kernel
theorem dX7_image_88 : decode cX7_image 88 = .ok (.aload_n 0, 1) := by decide +kernel
theorem dX7_image_89 : decode cX7_image 89 = .ok (.getfield 54, 3) := by decide +kernel
theorem dX7_image_92 : decode cX7_image 92 = .ok (.getfield 263, 3) := by decide +kernel
theorem dX7_image_95 : decode cX7_image 95 = .ok (.sipush 256, 3) := by decide +kernel
theorem dX7_image_98 : decode cX7_image 98 = .ok (.irem, 1) := by decide +kernel
theorem dX7_image_99 : decode cX7_image 99 = .ok (.iastore, 1) := by decide +kernel
theorem dX7_image_100 : decode cX7_image 100 = .ok (.aload_n 0, 1) := by decide +kernel
theorem dX7_image_101 : decode cX7_image 101 = .ok (.getfield 61, 3) := by decide +kernel
theorem dX7_image_104 : decode cX7_image 104 = .ok (.bipush 7, 2) := by decide +kernel
theorem dX7_image_106 : decode cX7_image 106 = .ok (.aload_n 0, 1) := by decide +kernel
theorem dX7_image_107 : decode cX7_image 107 = .ok (.getfield 61, 3) := by decide +kernel
theorem dX7_image_110 : decode cX7_image 110 = .ok (.invokestatic 342, 3) := by decide +kernel
theorem dX7_image_113 : decode cX7_image 113 = .ok (.iastore, 1) := by decide +kernel
theorem dX7_image_114 : decode cX7_image 114 = .ok (.aload_n 0, 1) := by decide +kernel
theorem dX7_image_115 : decode cX7_image 115 = .ok (.bipush 8, 2) := by decide +kernel
theorem dX7_image_117 : decode cX7_image 117 = .ok (.putfield 346, 3) := by decide +kernel
theorem dX7_image_120 : decode cX7_image 120 = .ok (.aload_n 0, 1) := by decide +kernel
theorem dX7_image_121 : decode cX7_image 121 = .ok (.getfield 346, 3) := by decide +kernel
theorem dX7_image_124 : decode cX7_image 124 = .ok (.ireturn, 1) := by decide +kernel
theorem dX7_checkOf_0 : decode cX7_checkOf 0 = .ok (.sipush 199, 3) := by decide +kernel
theorem dX7_checkOf_3 : decode cX7_checkOf 3 = .ok (.istore_n 1, 1) := by decide +kernel
theorem dX7_checkOf_4 : decode cX7_checkOf 4 = .ok (.iconst 0, 1) := by decide +kernel
theorem dX7_checkOf_5 : decode cX7_checkOf 5 = .ok (.istore_n 2, 1) := by decide +kernel
theorem dX7_checkOf_6 : decode cX7_checkOf 6 = .ok (.iload_n 2, 1) := by decide +kernel
theorem dX7_checkOf_7 : decode cX7_checkOf 7 = .ok (.bipush 7, 2) := by decide +kernel
theorem dX7_checkOf_9 : decode cX7_checkOf 9 = .ok (.if_icmp .ge 27, 3) := by decide +kernel
theorem dX7_checkOf_12 : decode cX7_checkOf 12 = .ok (.iload_n 2, 1) := by decide +kernel
theorem dX7_checkOf_13 : decode cX7_checkOf 13 = .ok (.aload_n 0, 1) := by decide +kernel
theorem dX7_checkOf_14 : decode cX7_checkOf 14 = .ok (.arraylength, 1) := by decide +kernel
theorem dX7_checkOf_15 : decode cX7_checkOf 15 = .ok (.if_icmp .ge 21, 3) := by decide +kernel
theorem dX7_checkOf_18 : decode cX7_checkOf 18 = .ok (.iconst 3, 1) := by decide +kernel
theorem dX7_checkOf_19 : decode cX7_checkOf 19 = .ok (.iload_n 1, 1) := by decide +kernel
theorem dX7_checkOf_20 : decode cX7_checkOf 20 = .ok (.imul, 1) := by decide +kernel
theorem dX7_checkOf_21 : decode cX7_checkOf 21 = .ok (.aload_n 0, 1) := by decide +kernel
theorem dX7_checkOf_22 : decode cX7_checkOf 22 = .ok (.iload_n 2, 1) := by decide +kernel
theorem dX7_checkOf_23 : decode cX7_checkOf 23 = .ok (.iaload, 1) := by decide +kernel
theorem dX7_checkOf_24 : decode cX7_checkOf 24 = .ok (.iadd, 1) := by decide +kernel
theorem dX7_checkOf_25 : decode cX7_checkOf 25 = .ok (.sipush 251, 3) := by decide +kernel
theorem dX7_checkOf_28 : decode cX7_checkOf 28 = .ok (.irem, 1) := by decide +kernel
theorem dX7_checkOf_29 : decode cX7_checkOf 29 = .ok (.istore_n 1, 1) := by decide +kernel
theorem dX7_checkOf_30 : decode cX7_checkOf 30 = .ok (.iinc 2 1, 3) := by decide +kernel
theorem dX7_checkOf_33 : decode cX7_checkOf 33 = .ok (.goto (-27), 3) := by decide +kernel
theorem dX7_checkOf_36 : decode cX7_checkOf 36 = .ok (.iload_n 1, 1) := by decide +kernel
theorem dX7_checkOf_37 : decode cX7_checkOf 37 = .ok (.ireturn, 1) := by decide +kernel
theorem dX7_octet_0 : decode cX7_octet 0 = .ok (.iload_n 1, 1) := by decide +kernel
theorem dX7_octet_1 : decode cX7_octet 1 = .ok (.ifCond .lt 20, 3) := by decide +kernel
theorem dX7_octet_4 : decode cX7_octet 4 = .ok (.iload_n 1, 1) := by decide +kernel
theorem dX7_octet_5 : decode cX7_octet 5 = .ok (.aload_n 0, 1) := by decide +kernel
theorem dX7_octet_6 : decode cX7_octet 6 = .ok (.getfield 346, 3) := by decide +kernel
theorem dX7_octet_9 : decode cX7_octet 9 = .ok (.if_icmp .ge 12, 3) := by decide +kernel
theorem dX7_octet_12 : decode cX7_octet 12 = .ok (.aload_n 0, 1) := by decide +kernel
theorem dX7_octet_13 : decode cX7_octet 13 = .ok (.getfield 61, 3) := by decide +kernel
theorem dX7_octet_16 : decode cX7_octet 16 = .ok (.iload_n 1, 1) := by decide +kernel
theorem dX7_octet_17 : decode cX7_octet 17 = .ok (.iaload, 1) := by decide +kernel
theorem dX7_octet_18 : decode cX7_octet 18 = .ok (.goto 4, 3) := by decide +kernel
theorem dX7_octet_21 : decode cX7_octet 21 = .ok (.iconst (-1), 1) := by decide +kernel
theorem dX7_octet_22 : decode cX7_octet 22 = .ok (.ireturn, 1) := by decide +kernel
theorem dX7_on_0 : decode cX7_on 0 = .ok (.aload_n 0, 1) := by decide +kernel
theorem dX7_on_1 : decode cX7_on 1 = .ok (.getfield 70, 3) := by decide +kernel
theorem dX7_on_4 : decode cX7_on 4 = .ok (.istore_n 1, 1) := by decide +kernel
theorem dX7_on_5 : decode cX7_on 5 = .ok (.aload_n 0, 1) := by decide +kernel
theorem dX7_on_6 : decode cX7_on 6 = .ok (.iconst 0, 1) := by decide +kernel
theorem dX7_on_7 : decode cX7_on 7 = .ok (.putfield 70, 3) := by decide +kernel
theorem dX7_on_10 : decode cX7_on 10 = .ok (.aload_n 0, 1) := by decide +kernel
theorem dX7_on_11 : decode cX7_on 11 = .ok (.getfield 16, 3) := by decide +kernel
theorem dX7_on_14 : decode cX7_on 14 = .ok (.getfield 100, 3) := by decide +kernel
theorem dX7_on_17 : decode cX7_on 17 = .ok (.ifCond .eq 16, 3) := by decide +kernel
theorem dX7_on_20 : decode cX7_on 20 = .ok (.iload_n 1, 1) := by decide +kernel
theorem dX7_on_21 : decode cX7_on 21 = .ok (.bipush 8, 2) := by decide +kernel
theorem dX7_on_23 : decode cX7_on 23 = .ok (.if_icmp .ne 10, 3) := by decide +kernel
theorem dX7_on_26 : decode cX7_on 26 = .ok (.aload_n 0, 1) := by decide +kernel
theorem dX7_on_27 : decode cX7_on 27 = .ok (.invokevirtual 349, 3) := by decide +kernel
theorem dX7_on_30 : decode cX7_on 30 = .ok (.ifCond .ne 11, 3) := by decide +kernel
theorem dX7_on_33 : decode cX7_on 33 = .ok (.aload_n 0, 1) := by decide +kernel
theorem dX7_on_34 : decode cX7_on 34 = .ok (.iconst 5, 1) := by decide +kernel
theorem dX7_on_35 : decode cX7_on 35 = .ok (.invokevirtual 74, 3) := by decide +kernel
theorem dX7_on_38 : decode cX7_on 38 = .ok (.pop, 1) := by decide +kernel
theorem dX7_on_39 : decode cX7_on 39 = .ok (.iconst 0, 1) := by decide +kernel
theorem dX7_on_40 : decode cX7_on 40 = .ok (.ireturn, 1) := by decide +kernel
theorem dX7_on_41 : decode cX7_on 41 = .ok (.aload_n 0, 1) := by decide +kernel
theorem dX7_on_42 : decode cX7_on 42 = .ok (.getfield 54, 3) := by decide +kernel
theorem dX7_on_45 : decode cX7_on 45 = .ok (.aload_n 0, 1) := by decide +kernel
theorem dX7_on_46 : decode cX7_on 46 = .ok (.getfield 9, 3) := by decide +kernel
theorem dX7_on_49 : decode cX7_on 49 = .ok (.iconst 0, 1) := by decide +kernel
theorem dX7_on_50 : decode cX7_on 50 = .ok (.iaload, 1) := by decide +kernel
theorem dX7_on_51 : decode cX7_on 51 = .ok (.putfield 256, 3) := by decide +kernel
theorem dX7_on_54 : decode cX7_on 54 = .ok (.aload_n 0, 1) := by decide +kernel
theorem dX7_on_55 : decode cX7_on 55 = .ok (.getfield 54, 3) := by decide +kernel
theorem dX7_on_58 : decode cX7_on 58 = .ok (.aload_n 0, 1) := by decide +kernel
theorem dX7_on_59 : decode cX7_on 59 = .ok (.getfield 9, 3) := by decide +kernel
theorem dX7_on_62 : decode cX7_on 62 = .ok (.iconst 1, 1) := by decide +kernel
theorem dX7_on_63 : decode cX7_on 63 = .ok (.iaload, 1) := by decide +kernel
theorem dX7_on_64 : decode cX7_on 64 = .ok (.putfield 259, 3) := by decide +kernel
theorem dX7_on_67 : decode cX7_on 67 = .ok (.aload_n 0, 1) := by decide +kernel
theorem dX7_on_68 : decode cX7_on 68 = .ok (.getfield 54, 3) := by decide +kernel
theorem dX7_on_71 : decode cX7_on 71 = .ok (.aload_n 0, 1) := by decide +kernel
theorem dX7_on_72 : decode cX7_on 72 = .ok (.getfield 9, 3) := by decide +kernel
theorem dX7_on_75 : decode cX7_on 75 = .ok (.iconst 2, 1) := by decide +kernel
theorem dX7_on_76 : decode cX7_on 76 = .ok (.iaload, 1) := by decide +kernel
theorem dX7_on_77 : decode cX7_on 77 = .ok (.putfield 274, 3) := by decide +kernel
theorem dX7_on_80 : decode cX7_on 80 = .ok (.aload_n 0, 1) := by decide +kernel
theorem dX7_on_81 : decode cX7_on 81 = .ok (.getfield 54, 3) := by decide +kernel
theorem dX7_on_84 : decode cX7_on 84 = .ok (.aload_n 0, 1) := by decide +kernel
theorem dX7_on_85 : decode cX7_on 85 = .ok (.getfield 9, 3) := by decide +kernel
theorem dX7_on_88 : decode cX7_on 88 = .ok (.iconst 3, 1) := by decide +kernel
theorem dX7_on_89 : decode cX7_on 89 = .ok (.iaload, 1) := by decide +kernel
theorem dX7_on_90 : decode cX7_on 90 = .ok (.putfield 261, 3) := by decide +kernel
theorem dX7_on_93 : decode cX7_on 93 = .ok (.aload_n 0, 1) := by decide +kernel
theorem dX7_on_94 : decode cX7_on 94 = .ok (.getfield 54, 3) := by decide +kernel
theorem dX7_on_97 : decode cX7_on 97 = .ok (.aload_n 0, 1) := by decide +kernel
theorem dX7_on_98 : decode cX7_on 98 = .ok (.getfield 9, 3) := by decide +kernel
theorem dX7_on_101 : decode cX7_on 101 = .ok (.iconst 4, 1) := by decide +kernel
theorem dX7_on_102 : decode cX7_on 102 = .ok (.iaload, 1) := by decide +kernel
theorem dX7_on_103 : decode cX7_on 103 = .ok (.putfield 262, 3) := by decide +kernel
theorem dX7_on_106 : decode cX7_on 106 = .ok (.aload_n 0, 1) := by decide +kernel
theorem dX7_on_107 : decode cX7_on 107 = .ok (.getfield 54, 3) := by decide +kernel
theorem dX7_on_110 : decode cX7_on 110 = .ok (.sipush 256, 3) := by decide +kernel
theorem dX7_on_113 : decode cX7_on 113 = .ok (.aload_n 0, 1) := by decide +kernel
theorem dX7_on_114 : decode cX7_on 114 = .ok (.getfield 9, 3) := by decide +kernel
theorem dX7_on_117 : decode cX7_on 117 = .ok (.iconst 5, 1) := by decide +kernel
theorem dX7_on_118 : decode cX7_on 118 = .ok (.iaload, 1) := by decide +kernel
theorem dX7_on_119 : decode cX7_on 119 = .ok (.imul, 1) := by decide +kernel
theorem dX7_on_120 : decode cX7_on 120 = .ok (.aload_n 0, 1) := by decide +kernel
theorem dX7_on_121 : decode cX7_on 121 = .ok (.getfield 9, 3) := by decide +kernel
theorem dX7_on_124 : decode cX7_on 124 = .ok (.bipush 6, 2) := by decide +kernel
theorem dX7_on_126 : decode cX7_on 126 = .ok (.iaload, 1) := by decide +kernel
theorem dX7_on_127 : decode cX7_on 127 = .ok (.iadd, 1) := by decide +kernel
theorem dX7_on_128 : decode cX7_on 128 = .ok (.putfield 263, 3) := by decide +kernel
theorem dX7_on_131 : decode cX7_on 131 = .ok (.aload_n 0, 1) := by decide +kernel
theorem dX7_on_132 : decode cX7_on 132 = .ok (.getfield 54, 3) := by decide +kernel
theorem dX7_on_135 : decode cX7_on 135 = .ok (.iconst 0, 1) := by decide +kernel
theorem dX7_on_136 : decode cX7_on 136 = .ok (.putfield 121, 3) := by decide +kernel
theorem dX7_on_139 : decode cX7_on 139 = .ok (.iconst 1, 1) := by decide +kernel
theorem dX7_on_140 : decode cX7_on 140 = .ok (.ireturn, 1) := by decide +kernel
theorem dX7_tellsDay_0 : decode cX7_tellsDay 0 = .ok (.aload_n 0, 1) := by decide +kernel
theorem dX7_tellsDay_1 : decode cX7_tellsDay 1 = .ok (.getfield 9, 3) := by decide +kernel
theorem dX7_tellsDay_4 : decode cX7_tellsDay 4 = .ok (.iconst 0, 1) := by decide +kernel
theorem dX7_tellsDay_5 : decode cX7_tellsDay 5 = .ok (.iaload, 1) := by decide +kernel
theorem dX7_tellsDay_6 : decode cX7_tellsDay 6 = .ok (.aload_n 0, 1) := by decide +kernel
theorem dX7_tellsDay_7 : decode cX7_tellsDay 7 = .ok (.getfield 16, 3) := by decide +kernel
theorem dX7_tellsDay_10 : decode cX7_tellsDay 10 = .ok (.getfield 112, 3) := by decide +kernel
theorem dX7_tellsDay_13 : decode cX7_tellsDay 13 = .ok (.if_icmp .gt 109, 3) := by decide +kernel
theorem dX7_tellsDay_16 : decode cX7_tellsDay 16 = .ok (.aload_n 0, 1) := by decide +kernel
theorem dX7_tellsDay_17 : decode cX7_tellsDay 17 = .ok (.getfield 9, 3) := by decide +kernel
theorem dX7_tellsDay_20 : decode cX7_tellsDay 20 = .ok (.iconst 3, 1) := by decide +kernel
theorem dX7_tellsDay_21 : decode cX7_tellsDay 21 = .ok (.iaload, 1) := by decide +kernel
theorem dX7_tellsDay_22 : decode cX7_tellsDay 22 = .ok (.aload_n 0, 1) := by decide +kernel
theorem dX7_tellsDay_23 : decode cX7_tellsDay 23 = .ok (.getfield 9, 3) := by decide +kernel
theorem dX7_tellsDay_26 : decode cX7_tellsDay 26 = .ok (.iconst 0, 1) := by decide +kernel
theorem dX7_tellsDay_27 : decode cX7_tellsDay 27 = .ok (.iaload, 1) := by decide +kernel
theorem dX7_tellsDay_28 : decode cX7_tellsDay 28 = .ok (.if_icmp .gt 94, 3) := by decide +kernel
theorem dX7_tellsDay_31 : decode cX7_tellsDay 31 = .ok (.aload_n 0, 1) := by decide +kernel
theorem dX7_tellsDay_32 : decode cX7_tellsDay 32 = .ok (.getfield 9, 3) := by decide +kernel
theorem dX7_tellsDay_35 : decode cX7_tellsDay 35 = .ok (.iconst 4, 1) := by decide +kernel
theorem dX7_tellsDay_36 : decode cX7_tellsDay 36 = .ok (.iaload, 1) := by decide +kernel
theorem dX7_tellsDay_37 : decode cX7_tellsDay 37 = .ok (.aload_n 0, 1) := by decide +kernel
theorem dX7_tellsDay_38 : decode cX7_tellsDay 38 = .ok (.getfield 9, 3) := by decide +kernel
theorem dX7_tellsDay_41 : decode cX7_tellsDay 41 = .ok (.iconst 0, 1) := by decide +kernel
theorem dX7_tellsDay_42 : decode cX7_tellsDay 42 = .ok (.iaload, 1) := by decide +kernel
theorem dX7_tellsDay_43 : decode cX7_tellsDay 43 = .ok (.if_icmp .gt 79, 3) := by decide +kernel
theorem dX7_tellsDay_46 : decode cX7_tellsDay 46 = .ok (.aload_n 0, 1) := by decide +kernel
theorem dX7_tellsDay_47 : decode cX7_tellsDay 47 = .ok (.getfield 16, 3) := by decide +kernel
theorem dX7_tellsDay_50 : decode cX7_tellsDay 50 = .ok (.aload_n 0, 1) := by decide +kernel
theorem dX7_tellsDay_51 : decode cX7_tellsDay 51 = .ok (.getfield 9, 3) := by decide +kernel
theorem dX7_tellsDay_54 : decode cX7_tellsDay 54 = .ok (.iconst 2, 1) := by decide +kernel
theorem dX7_tellsDay_55 : decode cX7_tellsDay 55 = .ok (.iaload, 1) := by decide +kernel
theorem dX7_tellsDay_56 : decode cX7_tellsDay 56 = .ok (.invokevirtual 352, 3) := by decide +kernel
theorem dX7_tellsDay_59 : decode cX7_tellsDay 59 = .ok (.ifCond .eq 63, 3) := by decide +kernel
theorem dX7_tellsDay_62 : decode cX7_tellsDay 62 = .ok (.aload_n 0, 1) := by decide +kernel
theorem dX7_tellsDay_63 : decode cX7_tellsDay 63 = .ok (.getfield 9, 3) := by decide +kernel
theorem dX7_tellsDay_66 : decode cX7_tellsDay 66 = .ok (.iconst 1, 1) := by decide +kernel
theorem dX7_tellsDay_67 : decode cX7_tellsDay 67 = .ok (.iaload, 1) := by decide +kernel
theorem dX7_tellsDay_68 : decode cX7_tellsDay 68 = .ok (.aload_n 0, 1) := by decide +kernel
theorem dX7_tellsDay_69 : decode cX7_tellsDay 69 = .ok (.getfield 9, 3) := by decide +kernel
theorem dX7_tellsDay_72 : decode cX7_tellsDay 72 = .ok (.iconst 2, 1) := by decide +kernel
theorem dX7_tellsDay_73 : decode cX7_tellsDay 73 = .ok (.iaload, 1) := by decide +kernel
theorem dX7_tellsDay_74 : decode cX7_tellsDay 74 = .ok (.if_icmp .gt 48, 3) := by decide +kernel
theorem dX7_tellsDay_77 : decode cX7_tellsDay 77 = .ok (.sipush 256, 3) := by decide +kernel
theorem dX7_tellsDay_80 : decode cX7_tellsDay 80 = .ok (.aload_n 0, 1) := by decide +kernel
theorem dX7_tellsDay_81 : decode cX7_tellsDay 81 = .ok (.getfield 9, 3) := by decide +kernel
theorem dX7_tellsDay_84 : decode cX7_tellsDay 84 = .ok (.iconst 5, 1) := by decide +kernel
theorem dX7_tellsDay_85 : decode cX7_tellsDay 85 = .ok (.iaload, 1) := by decide +kernel
theorem dX7_tellsDay_86 : decode cX7_tellsDay 86 = .ok (.imul, 1) := by decide +kernel
theorem dX7_tellsDay_87 : decode cX7_tellsDay 87 = .ok (.aload_n 0, 1) := by decide +kernel
theorem dX7_tellsDay_88 : decode cX7_tellsDay 88 = .ok (.getfield 9, 3) := by decide +kernel
theorem dX7_tellsDay_91 : decode cX7_tellsDay 91 = .ok (.bipush 6, 2) := by decide +kernel
theorem dX7_tellsDay_93 : decode cX7_tellsDay 93 = .ok (.iaload, 1) := by decide +kernel
theorem dX7_tellsDay_94 : decode cX7_tellsDay 94 = .ok (.iadd, 1) := by decide +kernel
theorem dX7_tellsDay_95 : decode cX7_tellsDay 95 = .ok (.sipush 9999, 3) := by decide +kernel
theorem dX7_tellsDay_98 : decode cX7_tellsDay 98 = .ok (.if_icmp .gt 24, 3) := by decide +kernel
theorem dX7_tellsDay_101 : decode cX7_tellsDay 101 = .ok (.aload_n 0, 1) := by decide +kernel
theorem dX7_tellsDay_102 : decode cX7_tellsDay 102 = .ok (.getfield 9, 3) := by decide +kernel
theorem dX7_tellsDay_105 : decode cX7_tellsDay 105 = .ok (.bipush 7, 2) := by decide +kernel
theorem dX7_tellsDay_107 : decode cX7_tellsDay 107 = .ok (.iaload, 1) := by decide +kernel
theorem dX7_tellsDay_108 : decode cX7_tellsDay 108 = .ok (.aload_n 0, 1) := by decide +kernel
theorem dX7_tellsDay_109 : decode cX7_tellsDay 109 = .ok (.getfield 9, 3) := by decide +kernel
theorem dX7_tellsDay_112 : decode cX7_tellsDay 112 = .ok (.invokestatic 342, 3) := by decide +kernel
theorem dX7_tellsDay_115 : decode cX7_tellsDay 115 = .ok (.if_icmp .ne 7, 3) := by decide +kernel
theorem dX7_tellsDay_118 : decode cX7_tellsDay 118 = .ok (.iconst 1, 1) := by decide +kernel
theorem dX7_tellsDay_119 : decode cX7_tellsDay 119 = .ok (.goto 4, 3) := by decide +kernel
theorem dX7_tellsDay_122 : decode cX7_tellsDay 122 = .ok (.iconst 0, 1) := by decide +kernel
theorem dX7_tellsDay_123 : decode cX7_tellsDay 123 = .ok (.ireturn, 1) := by decide +kernel
theorem dX7_status_0 : decode cX7_status 0 = .ok (.iload_n 1, 1) := by decide +kernel
theorem dX7_status_1 : decode cX7_status 1 = .ok (.ifCond .lt 21, 3) := by decide +kernel
theorem dX7_status_4 : decode cX7_status 4 = .ok (.iload_n 1, 1) := by decide +kernel
theorem dX7_status_5 : decode cX7_status 5 = .ok (.aload_n 0, 1) := by decide +kernel
theorem dX7_status_6 : decode cX7_status 6 = .ok (.getfield 64, 3) := by decide +kernel
theorem dX7_status_9 : decode cX7_status 9 = .ok (.arraylength, 1) := by decide +kernel
theorem dX7_status_10 : decode cX7_status 10 = .ok (.if_icmp .ge 12, 3) := by decide +kernel
theorem dX7_status_13 : decode cX7_status 13 = .ok (.aload_n 0, 1) := by decide +kernel
theorem dX7_status_14 : decode cX7_status 14 = .ok (.getfield 64, 3) := by decide +kernel
theorem dX7_status_17 : decode cX7_status 17 = .ok (.iload_n 1, 1) := by decide +kernel
theorem dX7_status_18 : decode cX7_status 18 = .ok (.iaload, 1) := by decide +kernel
theorem dX7_status_19 : decode cX7_status 19 = .ok (.goto 4, 3) := by decide +kernel
theorem dX7_status_22 : decode cX7_status 22 = .ok (.iconst (-1), 1) := by decide +kernel
theorem dX7_status_23 : decode cX7_status 23 = .ok (.ireturn, 1) := by decide +kernel
theorem dJ0_length_8abf5_0 : decode cJ0_length_8abf5 0 = .ok (.aload_n 0, 1) := by decide +kernel
theorem dJ0_length_8abf5_1 : decode cJ0_length_8abf5 1 = .ok (.getfield 9, 3) := by decide +kernel
theorem dJ0_length_8abf5_4 : decode cJ0_length_8abf5 4 = .ok (.arraylength, 1) := by decide +kernel
theorem dJ0_length_8abf5_5 : decode cJ0_length_8abf5 5 = .ok (.aload_n 0, 1) := by decide +kernel
theorem dJ0_length_8abf5_6 : decode cJ0_length_8abf5 6 = .ok (.invokevirtual 335, 3) := by decide +kernel
theorem dJ0_length_8abf5_9 : decode cJ0_length_8abf5 9 = .ok (.ishr, 1) := by decide +kernel
theorem dJ0_length_8abf5_10 : decode cJ0_length_8abf5 10 = .ok (.ireturn, 1) := by decide +kernel
theorem dJ0_charAt_5068e_0 : decode cJ0_charAt_5068e 0 = .ok (.aload_n 0, 1) := by decide +kernel
theorem dJ0_charAt_5068e_1 : decode cJ0_charAt_5068e 1 = .ok (.invokevirtual 492, 3) := by decide +kernel
theorem dJ0_charAt_5068e_4 : decode cJ0_charAt_5068e 4 = .ok (.ifCond .eq 12, 3) := by decide +kernel
theorem dJ0_charAt_5068e_7 : decode cJ0_charAt_5068e 7 = .ok (.aload_n 0, 1) := by decide +kernel
theorem dJ0_charAt_5068e_8 : decode cJ0_charAt_5068e 8 = .ok (.getfield 9, 3) := by decide +kernel
theorem dJ0_charAt_5068e_11 : decode cJ0_charAt_5068e 11 = .ok (.iload_n 1, 1) := by decide +kernel
theorem dJ0_charAt_5068e_12 : decode cJ0_charAt_5068e 12 = .ok (.invokestatic 495, 3) := by decide +kernel
theorem dJ0_charAt_5068e_15 : decode cJ0_charAt_5068e 15 = .ok (.ireturn, 1) := by decide +kernel
theorem dJ0_charAt_5068e_16 : decode cJ0_charAt_5068e 16 = .ok (.aload_n 0, 1) := by decide +kernel
theorem dJ0_charAt_5068e_17 : decode cJ0_charAt_5068e 17 = .ok (.getfield 9, 3) := by decide +kernel
theorem dJ0_charAt_5068e_20 : decode cJ0_charAt_5068e 20 = .ok (.iload_n 1, 1) := by decide +kernel
theorem dJ0_charAt_5068e_21 : decode cJ0_charAt_5068e 21 = .ok (.invokestatic 498, 3) := by decide +kernel
theorem dJ0_charAt_5068e_24 : decode cJ0_charAt_5068e 24 = .ok (.ireturn, 1) := by decide +kernel
theorem dJ0_coder_7d493_0 : decode cJ0_coder_7d493 0 = .ok (.getstatic 38, 3) := by decide +kernel
theorem dJ0_coder_7d493_3 : decode cJ0_coder_7d493 3 = .ok (.ifCond .eq 10, 3) := by decide +kernel
theorem dJ0_coder_7d493_6 : decode cJ0_coder_7d493 6 = .ok (.aload_n 0, 1) := by decide +kernel
theorem dJ0_coder_7d493_7 : decode cJ0_coder_7d493 7 = .ok (.getfield 15, 3) := by decide +kernel
theorem dJ0_coder_7d493_10 : decode cJ0_coder_7d493 10 = .ok (.goto 4, 3) := by decide +kernel
theorem dJ0_coder_7d493_13 : decode cJ0_coder_7d493 13 = .ok (.iconst 1, 1) := by decide +kernel
theorem dJ0_coder_7d493_14 : decode cJ0_coder_7d493 14 = .ok (.ireturn, 1) := by decide +kernel
theorem dJ0_isLatin1_aae02_0 : decode cJ0_isLatin1_aae02 0 = .ok (.getstatic 38, 3) := by decide +kernel
theorem dJ0_isLatin1_aae02_3 : decode cJ0_isLatin1_aae02 3 = .ok (.ifCond .eq 14, 3) := by decide +kernel
theorem dJ0_isLatin1_aae02_6 : decode cJ0_isLatin1_aae02 6 = .ok (.aload_n 0, 1) := by decide +kernel
theorem dJ0_isLatin1_aae02_7 : decode cJ0_isLatin1_aae02 7 = .ok (.getfield 15, 3) := by decide +kernel
theorem dJ0_isLatin1_aae02_10 : decode cJ0_isLatin1_aae02 10 = .ok (.ifCond .ne 7, 3) := by decide +kernel
theorem dJ0_isLatin1_aae02_13 : decode cJ0_isLatin1_aae02 13 = .ok (.iconst 1, 1) := by decide +kernel
theorem dJ0_isLatin1_aae02_14 : decode cJ0_isLatin1_aae02 14 = .ok (.goto 4, 3) := by decide +kernel
theorem dJ0_isLatin1_aae02_17 : decode cJ0_isLatin1_aae02 17 = .ok (.iconst 0, 1) := by decide +kernel
theorem dJ0_isLatin1_aae02_18 : decode cJ0_isLatin1_aae02 18 = .ok (.ireturn, 1) := by decide +kernel
theorem dJ0_checkIndex_df160_0 : decode cJ0_checkIndex_df160 0 = .ok (.iload_n 0, 1) := by decide +kernel
theorem dJ0_checkIndex_df160_1 : decode cJ0_checkIndex_df160 1 = .ok (.iload_n 1, 1) := by decide +kernel
theorem dJ0_checkIndex_df160_2 : decode cJ0_checkIndex_df160 2 = .ok (.getstatic 1053, 3) := by decide +kernel
theorem dJ0_checkIndex_df160_5 : decode cJ0_checkIndex_df160 5 = .ok (.invokestatic 1059, 3) := by decide +kernel
theorem dJ0_checkIndex_df160_8 : decode cJ0_checkIndex_df160 8 = .ok (.pop, 1) := by decide +kernel
theorem dJ0_checkIndex_df160_9 : decode cJ0_checkIndex_df160 9 = .ok (.return_, 1) := by decide +kernel
theorem dJ1_charAt_3b067_0 : decode cJ1_charAt_3b067 0 = .ok (.iload_n 1, 1) := by decide +kernel
theorem dJ1_charAt_3b067_1 : decode cJ1_charAt_3b067 1 = .ok (.aload_n 0, 1) := by decide +kernel
theorem dJ1_charAt_3b067_2 : decode cJ1_charAt_3b067 2 = .ok (.arraylength, 1) := by decide +kernel
theorem dJ1_charAt_3b067_3 : decode cJ1_charAt_3b067 3 = .ok (.invokestatic 9, 3) := by decide +kernel
theorem dJ1_charAt_3b067_6 : decode cJ1_charAt_3b067 6 = .ok (.aload_n 0, 1) := by decide +kernel
theorem dJ1_charAt_3b067_7 : decode cJ1_charAt_3b067 7 = .ok (.iload_n 1, 1) := by decide +kernel
theorem dJ1_charAt_3b067_8 : decode cJ1_charAt_3b067 8 = .ok (.baload, 1) := by decide +kernel
theorem dJ1_charAt_3b067_9 : decode cJ1_charAt_3b067 9 = .ok (.sipush 255, 3) := by decide +kernel
theorem dJ1_charAt_3b067_12 : decode cJ1_charAt_3b067 12 = .ok (.iand, 1) := by decide +kernel
theorem dJ1_charAt_3b067_13 : decode cJ1_charAt_3b067 13 = .ok (.i2c, 1) := by decide +kernel
theorem dJ1_charAt_3b067_14 : decode cJ1_charAt_3b067 14 = .ok (.ireturn, 1) := by decide +kernel
theorem dJ3_checkIndex_8e157_0 : decode cJ3_checkIndex_8e157 0 = .ok (.iload_n 0, 1) := by decide +kernel
theorem dJ3_checkIndex_8e157_1 : decode cJ3_checkIndex_8e157 1 = .ok (.ifCond .lt 8, 3) := by decide +kernel
theorem dJ3_checkIndex_8e157_4 : decode cJ3_checkIndex_8e157 4 = .ok (.iload_n 0, 1) := by decide +kernel
theorem dJ3_checkIndex_8e157_5 : decode cJ3_checkIndex_8e157 5 = .ok (.iload_n 1, 1) := by decide +kernel
theorem dJ3_checkIndex_8e157_6 : decode cJ3_checkIndex_8e157 6 = .ok (.if_icmp .lt 10, 3) := by decide +kernel
theorem dJ3_checkIndex_8e157_9 : decode cJ3_checkIndex_8e157 9 = .ok (.aload_n 2, 1) := by decide +kernel
theorem dJ3_checkIndex_8e157_10 : decode cJ3_checkIndex_8e157 10 = .ok (.iload_n 0, 1) := by decide +kernel
theorem dJ3_checkIndex_8e157_11 : decode cJ3_checkIndex_8e157 11 = .ok (.iload_n 1, 1) := by decide +kernel
theorem dJ3_checkIndex_8e157_12 : decode cJ3_checkIndex_8e157 12 = .ok (.invokestatic 95, 3) := by decide +kernel
theorem dJ3_checkIndex_8e157_15 : decode cJ3_checkIndex_8e157 15 = .ok (.athrow, 1) := by decide +kernel
theorem dJ3_checkIndex_8e157_16 : decode cJ3_checkIndex_8e157 16 = .ok (.iload_n 0, 1) := by decide +kernel
theorem dJ3_checkIndex_8e157_17 : decode cJ3_checkIndex_8e157 17 = .ok (.ireturn, 1) := by decide +kernel
theorem dJ9_floorDiv_f86c9_0 : decode cJ9_floorDiv_f86c9 0 = .ok (.lload_n 0, 1) := by decide +kernel
theorem dJ9_floorDiv_f86c9_1 : decode cJ9_floorDiv_f86c9 1 = .ok (.lload_n 2, 1) := by decide +kernel
theorem dJ9_floorDiv_f86c9_2 : decode cJ9_floorDiv_f86c9 2 = .ok (.ldiv, 1) := by decide +kernel
theorem dJ9_floorDiv_f86c9_3 : decode cJ9_floorDiv_f86c9 3 = .ok (.lstore 4, 2) := by decide +kernel
theorem dJ9_floorDiv_f86c9_5 : decode cJ9_floorDiv_f86c9 5 = .ok (.lload_n 0, 1) := by decide +kernel
theorem dJ9_floorDiv_f86c9_6 : decode cJ9_floorDiv_f86c9 6 = .ok (.lload_n 2, 1) := by decide +kernel
theorem dJ9_floorDiv_f86c9_7 : decode cJ9_floorDiv_f86c9 7 = .ok (.lxor, 1) := by decide +kernel
theorem dJ9_floorDiv_f86c9_8 : decode cJ9_floorDiv_f86c9 8 = .ok (.lconst 0, 1) := by decide +kernel
theorem dJ9_floorDiv_f86c9_9 : decode cJ9_floorDiv_f86c9 9 = .ok (.lcmp, 1) := by decide +kernel
theorem dJ9_floorDiv_f86c9_10 : decode cJ9_floorDiv_f86c9 10 = .ok (.ifCond .ge 17, 3) := by decide +kernel
theorem dJ9_floorDiv_f86c9_13 : decode cJ9_floorDiv_f86c9 13 = .ok (.lload 4, 2) := by decide +kernel
theorem dJ9_floorDiv_f86c9_15 : decode cJ9_floorDiv_f86c9 15 = .ok (.lload_n 2, 1) := by decide +kernel
theorem dJ9_floorDiv_f86c9_16 : decode cJ9_floorDiv_f86c9 16 = .ok (.lmul, 1) := by decide +kernel
theorem dJ9_floorDiv_f86c9_17 : decode cJ9_floorDiv_f86c9 17 = .ok (.lload_n 0, 1) := by decide +kernel
theorem dJ9_floorDiv_f86c9_18 : decode cJ9_floorDiv_f86c9 18 = .ok (.lcmp, 1) := by decide +kernel
theorem dJ9_floorDiv_f86c9_19 : decode cJ9_floorDiv_f86c9 19 = .ok (.ifCond .eq 8, 3) := by decide +kernel
theorem dJ9_floorDiv_f86c9_22 : decode cJ9_floorDiv_f86c9 22 = .ok (.lload 4, 2) := by decide +kernel
theorem dJ9_floorDiv_f86c9_24 : decode cJ9_floorDiv_f86c9 24 = .ok (.lconst 1, 1) := by decide +kernel
theorem dJ9_floorDiv_f86c9_25 : decode cJ9_floorDiv_f86c9 25 = .ok (.lsub, 1) := by decide +kernel
theorem dJ9_floorDiv_f86c9_26 : decode cJ9_floorDiv_f86c9 26 = .ok (.lreturn, 1) := by decide +kernel
theorem dJ9_floorDiv_f86c9_27 : decode cJ9_floorDiv_f86c9 27 = .ok (.lload 4, 2) := by decide +kernel
theorem dJ9_floorDiv_f86c9_29 : decode cJ9_floorDiv_f86c9 29 = .ok (.lreturn, 1) := by decide +kernel
theorem dJ9_max_7cf53_0 : decode cJ9_max_7cf53 0 = .ok (.iload_n 0, 1) := by decide +kernel
theorem dJ9_max_7cf53_1 : decode cJ9_max_7cf53 1 = .ok (.iload_n 1, 1) := by decide +kernel
theorem dJ9_max_7cf53_2 : decode cJ9_max_7cf53 2 = .ok (.if_icmp .lt 7, 3) := by decide +kernel
theorem dJ9_max_7cf53_5 : decode cJ9_max_7cf53 5 = .ok (.iload_n 0, 1) := by decide +kernel
theorem dJ9_max_7cf53_6 : decode cJ9_max_7cf53 6 = .ok (.goto 4, 3) := by decide +kernel
theorem dJ9_max_7cf53_9 : decode cJ9_max_7cf53 9 = .ok (.iload_n 1, 1) := by decide +kernel
theorem dJ9_max_7cf53_10 : decode cJ9_max_7cf53 10 = .ok (.ireturn, 1) := by decide +kernel
theorem dJ9_max_f86c9_0 : decode cJ9_max_f86c9 0 = .ok (.lload_n 0, 1) := by decide +kernel
theorem dJ9_max_f86c9_1 : decode cJ9_max_f86c9 1 = .ok (.lload_n 2, 1) := by decide +kernel
theorem dJ9_max_f86c9_2 : decode cJ9_max_f86c9 2 = .ok (.lcmp, 1) := by decide +kernel
theorem dJ9_max_f86c9_3 : decode cJ9_max_f86c9 3 = .ok (.ifCond .lt 7, 3) := by decide +kernel
theorem dJ9_max_f86c9_6 : decode cJ9_max_f86c9 6 = .ok (.lload_n 0, 1) := by decide +kernel
theorem dJ9_max_f86c9_7 : decode cJ9_max_f86c9 7 = .ok (.goto 4, 3) := by decide +kernel
theorem dJ9_max_f86c9_10 : decode cJ9_max_f86c9 10 = .ok (.lload_n 2, 1) := by decide +kernel
theorem dJ9_max_f86c9_11 : decode cJ9_max_f86c9 11 = .ok (.lreturn, 1) := by decide +kernel
theorem dJ9_min_7cf53_0 : decode cJ9_min_7cf53 0 = .ok (.iload_n 0, 1) := by decide +kernel
theorem dJ9_min_7cf53_1 : decode cJ9_min_7cf53 1 = .ok (.iload_n 1, 1) := by decide +kernel
theorem dJ9_min_7cf53_2 : decode cJ9_min_7cf53 2 = .ok (.if_icmp .gt 7, 3) := by decide +kernel
theorem dJ9_min_7cf53_5 : decode cJ9_min_7cf53 5 = .ok (.iload_n 0, 1) := by decide +kernel
theorem dJ9_min_7cf53_6 : decode cJ9_min_7cf53 6 = .ok (.goto 4, 3) := by decide +kernel
theorem dJ9_min_7cf53_9 : decode cJ9_min_7cf53 9 = .ok (.iload_n 1, 1) := by decide +kernel
theorem dJ9_min_7cf53_10 : decode cJ9_min_7cf53 10 = .ok (.ireturn, 1) := by decide +kernel
theorem dJ9_min_f86c9_0 : decode cJ9_min_f86c9 0 = .ok (.lload_n 0, 1) := by decide +kernel
theorem dJ9_min_f86c9_1 : decode cJ9_min_f86c9 1 = .ok (.lload_n 2, 1) := by decide +kernel
theorem dJ9_min_f86c9_2 : decode cJ9_min_f86c9 2 = .ok (.lcmp, 1) := by decide +kernel
theorem dJ9_min_f86c9_3 : decode cJ9_min_f86c9 3 = .ok (.ifCond .gt 7, 3) := by decide +kernel
theorem dJ9_min_f86c9_6 : decode cJ9_min_f86c9 6 = .ok (.lload_n 0, 1) := by decide +kernel
theorem dJ9_min_f86c9_7 : decode cJ9_min_f86c9 7 = .ok (.goto 4, 3) := by decide +kernel
theorem dJ9_min_f86c9_10 : decode cJ9_min_f86c9 10 = .ok (.lload_n 2, 1) := by decide +kernel
theorem dJ9_min_f86c9_11 : decode cJ9_min_f86c9 11 = .ok (.lreturn, 1) := by decide +kernel
