theorem dX10_init_0 : decode cX10_init 0 = .ok (.aload_n 0, 1) := by decide +kernel
theorem dX10_init_1 : decode cX10_init 1 = .ok (.invokespecial 1, 3) := by decide +kernel
theorem dX10_init_4 : decode cX10_init 4 = .ok (.aload_n 0, 1) := by decide +kernel
theorem dX10_init_5 : decode cX10_init 5 = .ok (.new 7, 3) := by decide +kernel
theorem dX10_init_8 : decode cX10_init 8 = .ok (.dup, 1) := by decide +kernel
theorem dX10_init_9 : decode cX10_init 9 = .ok (.invokespecial 9, 3) := by decide +kernel
theorem dX10_init_12 : decode cX10_init 12 = .ok (.putfield 10, 3) := by decide +kernel
theorem dX10_init_15 : decode cX10_init 15 = .ok (.aload_n 0, 1) := by decide +kernel
theorem dX10_init_16 : decode cX10_init 16 = .ok (.new 16, 3) := by decide +kernel
theorem dX10_init_19 : decode cX10_init 19 = .ok (.dup, 1) := by decide +kernel
theorem dX10_init_20 : decode cX10_init 20 = .ok (.invokespecial 18, 3) := by decide +kernel
theorem dX10_init_23 : decode cX10_init 23 = .ok (.putfield 19, 3) := by decide +kernel
theorem dX10_init_26 : decode cX10_init 26 = .ok (.aload_n 0, 1) := by decide +kernel
theorem dX10_init_27 : decode cX10_init 27 = .ok (.new 23, 3) := by decide +kernel
theorem dX10_init_30 : decode cX10_init 30 = .ok (.dup, 1) := by decide +kernel
theorem dX10_init_31 : decode cX10_init 31 = .ok (.invokespecial 25, 3) := by decide +kernel
theorem dX10_init_34 : decode cX10_init 34 = .ok (.putfield 26, 3) := by decide +kernel
theorem dX10_init_37 : decode cX10_init 37 = .ok (.aload_n 0, 1) := by decide +kernel
theorem dX10_init_38 : decode cX10_init 38 = .ok (.new 30, 3) := by decide +kernel
theorem dX10_init_41 : decode cX10_init 41 = .ok (.dup, 1) := by decide +kernel
theorem dX10_init_42 : decode cX10_init 42 = .ok (.invokespecial 32, 3) := by decide +kernel
theorem dX10_init_45 : decode cX10_init 45 = .ok (.putfield 33, 3) := by decide +kernel
theorem dX10_init_48 : decode cX10_init 48 = .ok (.aload_n 0, 1) := by decide +kernel
theorem dX10_init_49 : decode cX10_init 49 = .ok (.new 37, 3) := by decide +kernel
theorem dX10_init_52 : decode cX10_init 52 = .ok (.dup, 1) := by decide +kernel
theorem dX10_init_53 : decode cX10_init 53 = .ok (.invokespecial 39, 3) := by decide +kernel
theorem dX10_init_56 : decode cX10_init 56 = .ok (.putfield 40, 3) := by decide +kernel
theorem dX10_init_59 : decode cX10_init 59 = .ok (.aload_n 0, 1) := by decide +kernel
theorem dX10_init_60 : decode cX10_init 60 = .ok (.new 44, 3) := by decide +kernel
theorem dX10_init_63 : decode cX10_init 63 = .ok (.dup, 1) := by decide +kernel
theorem dX10_init_64 : decode cX10_init 64 = .ok (.invokespecial 46, 3) := by decide +kernel
theorem dX10_init_67 : decode cX10_init 67 = .ok (.putfield 47, 3) := by decide +kernel
theorem dX10_init_70 : decode cX10_init 70 = .ok (.aload_n 0, 1) := by decide +kernel
theorem dX10_init_71 : decode cX10_init 71 = .ok (.new 51, 3) := by decide +kernel
theorem dX10_init_74 : decode cX10_init 74 = .ok (.dup, 1) := by decide +kernel
theorem dX10_init_75 : decode cX10_init 75 = .ok (.invokespecial 53, 3) := by decide +kernel
theorem dX10_init_78 : decode cX10_init 78 = .ok (.putfield 54, 3) := by decide +kernel
theorem dX10_init_81 : decode cX10_init 81 = .ok (.aload_n 0, 1) := by decide +kernel
theorem dX10_init_82 : decode cX10_init 82 = .ok (.bipush 12, 2) := by decide +kernel
theorem dX10_init_84 : decode cX10_init 84 = .ok (.newarray .int, 2) := by decide +kernel
theorem dX10_init_86 : decode cX10_init 86 = .ok (.putfield 58, 3) := by decide +kernel
theorem dX10_init_89 : decode cX10_init 89 = .ok (.aload_n 0, 1) := by decide +kernel
theorem dX10_init_90 : decode cX10_init 90 = .ok (.new 62, 3) := by decide +kernel
theorem dX10_init_93 : decode cX10_init 93 = .ok (.dup, 1) := by decide +kernel
theorem dX10_init_94 : decode cX10_init 94 = .ok (.invokespecial 64, 3) := by decide +kernel
theorem dX10_init_97 : decode cX10_init 97 = .ok (.putfield 65, 3) := by decide +kernel
theorem dX10_init_100 : decode cX10_init 100 = .ok (.aload_n 0, 1) := by decide +kernel
theorem dX10_init_101 : decode cX10_init 101 = .ok (.new 62, 3) := by decide +kernel
theorem dX10_init_104 : decode cX10_init 104 = .ok (.dup, 1) := by decide +kernel
theorem dX10_init_105 : decode cX10_init 105 = .ok (.invokespecial 64, 3) := by decide +kernel
theorem dX10_init_108 : decode cX10_init 108 = .ok (.putfield 69, 3) := by decide +kernel
theorem dX10_init_111 : decode cX10_init 111 = .ok (.aload_n 0, 1) := by decide +kernel
theorem dX10_init_112 : decode cX10_init 112 = .ok (.iconst 0, 1) := by decide +kernel
theorem dX10_init_113 : decode cX10_init 113 = .ok (.putfield 72, 3) := by decide +kernel
theorem dX10_init_116 : decode cX10_init 116 = .ok (.aload_n 0, 1) := by decide +kernel
theorem dX10_init_117 : decode cX10_init 117 = .ok (.iconst 0, 1) := by decide +kernel
theorem dX10_init_118 : decode cX10_init 118 = .ok (.putfield 76, 3) := by decide +kernel
theorem dX10_init_121 : decode cX10_init 121 = .ok (.aload_n 0, 1) := by decide +kernel
theorem dX10_init_122 : decode cX10_init 122 = .ok (.iconst 0, 1) := by decide +kernel
theorem dX10_init_123 : decode cX10_init 123 = .ok (.putfield 80, 3) := by decide +kernel
theorem dX10_init_126 : decode cX10_init 126 = .ok (.aload_n 0, 1) := by decide +kernel
theorem dX10_init_127 : decode cX10_init 127 = .ok (.iconst 0, 1) := by decide +kernel
theorem dX10_init_128 : decode cX10_init 128 = .ok (.putfield 83, 3) := by decide +kernel
theorem dX10_init_131 : decode cX10_init 131 = .ok (.aload_n 0, 1) := by decide +kernel
theorem dX10_init_132 : decode cX10_init 132 = .ok (.iconst 0, 1) := by decide +kernel
theorem dX10_init_133 : decode cX10_init 133 = .ok (.putfield 86, 3) := by decide +kernel
theorem dX10_init_136 : decode cX10_init 136 = .ok (.aload_n 0, 1) := by decide +kernel
theorem dX10_init_137 : decode cX10_init 137 = .ok (.iconst 0, 1) := by decide +kernel
theorem dX10_init_138 : decode cX10_init 138 = .ok (.putfield 89, 3) := by decide +kernel
theorem dX10_init_141 : decode cX10_init 141 = .ok (.return_, 1) := by decide +kernel
theorem dX10_feed_0 : decode cX10_feed 0 = .ok (.aload_n 0, 1) := by decide +kernel
theorem dX10_feed_1 : decode cX10_feed 1 = .ok (.getfield 19, 3) := by decide +kernel
theorem dX10_feed_4 : decode cX10_feed 4 = .ok (.getfield 92, 3) := by decide +kernel
theorem dX10_feed_7 : decode cX10_feed 7 = .ok (.bipush 20, 2) := by decide +kernel
theorem dX10_feed_9 : decode cX10_feed 9 = .ok (.iadd, 1) := by decide +kernel
theorem dX10_feed_10 : decode cX10_feed 10 = .ok (.sipush 3000, 3) := by decide +kernel
theorem dX10_feed_13 : decode cX10_feed 13 = .ok (.if_icmp .le 5, 3) := by decide +kernel
theorem dX10_feed_16 : decode cX10_feed 16 = .ok (.iconst (-1), 1) := by decide +kernel
theorem dX10_feed_17 : decode cX10_feed 17 = .ok (.ireturn, 1) := by decide +kernel
theorem dX10_feed_18 : decode cX10_feed 18 = .ok (.aload_n 0, 1) := by decide +kernel
theorem dX10_feed_19 : decode cX10_feed 19 = .ok (.getfield 19, 3) := by decide +kernel
theorem dX10_feed_22 : decode cX10_feed 22 = .ok (.iload_n 1, 1) := by decide +kernel
theorem dX10_feed_23 : decode cX10_feed 23 = .ok (.invokevirtual 95, 3) := by decide +kernel
theorem dX10_feed_26 : decode cX10_feed 26 = .ok (.aload_n 0, 1) := by decide +kernel
theorem dX10_feed_27 : decode cX10_feed 27 = .ok (.getfield 19, 3) := by decide +kernel
theorem dX10_feed_30 : decode cX10_feed 30 = .ok (.iload_n 2, 1) := by decide +kernel
theorem dX10_feed_31 : decode cX10_feed 31 = .ok (.invokevirtual 95, 3) := by decide +kernel
theorem dX10_feed_34 : decode cX10_feed 34 = .ok (.aload_n 0, 1) := by decide +kernel
theorem dX10_feed_35 : decode cX10_feed 35 = .ok (.getfield 19, 3) := by decide +kernel
theorem dX10_feed_38 : decode cX10_feed 38 = .ok (.iload_n 3, 1) := by decide +kernel
theorem dX10_feed_39 : decode cX10_feed 39 = .ok (.invokevirtual 95, 3) := by decide +kernel
theorem dX10_feed_42 : decode cX10_feed 42 = .ok (.aload_n 0, 1) := by decide +kernel
theorem dX10_feed_43 : decode cX10_feed 43 = .ok (.getfield 19, 3) := by decide +kernel
theorem dX10_feed_46 : decode cX10_feed 46 = .ok (.iload 4, 2) := by decide +kernel
theorem dX10_feed_48 : decode cX10_feed 48 = .ok (.invokevirtual 95, 3) := by decide +kernel
theorem dX10_feed_51 : decode cX10_feed 51 = .ok (.aload_n 0, 1) := by decide +kernel
theorem dX10_feed_52 : decode cX10_feed 52 = .ok (.getfield 19, 3) := by decide +kernel
theorem dX10_feed_55 : decode cX10_feed 55 = .ok (.iload 5, 2) := by decide +kernel
theorem dX10_feed_57 : decode cX10_feed 57 = .ok (.invokevirtual 95, 3) := by decide +kernel
theorem dX10_feed_60 : decode cX10_feed 60 = .ok (.aload_n 0, 1) := by decide +kernel
theorem dX10_feed_61 : decode cX10_feed 61 = .ok (.getfield 19, 3) := by decide +kernel
theorem dX10_feed_64 : decode cX10_feed 64 = .ok (.getfield 92, 3) := by decide +kernel
theorem dX10_feed_67 : decode cX10_feed 67 = .ok (.ireturn, 1) := by decide +kernel
theorem dX10_back_0 : decode cX10_back 0 = .ok (.iload_n 1, 1) := by decide +kernel
theorem dX10_back_1 : decode cX10_back 1 = .ok (.ifCond .lt 14, 3) := by decide +kernel
theorem dX10_back_4 : decode cX10_back 4 = .ok (.iload_n 1, 1) := by decide +kernel
theorem dX10_back_5 : decode cX10_back 5 = .ok (.aload_n 0, 1) := by decide +kernel
theorem dX10_back_6 : decode cX10_back 6 = .ok (.getfield 19, 3) := by decide +kernel
theorem dX10_back_9 : decode cX10_back 9 = .ok (.getfield 92, 3) := by decide +kernel
theorem dX10_back_12 : decode cX10_back 12 = .ok (.if_icmp .le 5, 3) := by decide +kernel
theorem dX10_back_15 : decode cX10_back 15 = .ok (.iconst (-1), 1) := by decide +kernel
theorem dX10_back_16 : decode cX10_back 16 = .ok (.ireturn, 1) := by decide +kernel
theorem dX10_back_17 : decode cX10_back 17 = .ok (.aload_n 0, 1) := by decide +kernel
theorem dX10_back_18 : decode cX10_back 18 = .ok (.getfield 19, 3) := by decide +kernel
theorem dX10_back_21 : decode cX10_back 21 = .ok (.dup, 1) := by decide +kernel
theorem dX10_back_22 : decode cX10_back 22 = .ok (.getfield 92, 3) := by decide +kernel
theorem dX10_back_25 : decode cX10_back 25 = .ok (.iload_n 1, 1) := by decide +kernel
theorem dX10_back_26 : decode cX10_back 26 = .ok (.isub, 1) := by decide +kernel
theorem dX10_back_27 : decode cX10_back 27 = .ok (.putfield 92, 3) := by decide +kernel
theorem dX10_back_30 : decode cX10_back 30 = .ok (.aload_n 0, 1) := by decide +kernel
theorem dX10_back_31 : decode cX10_back 31 = .ok (.getfield 19, 3) := by decide +kernel
theorem dX10_back_34 : decode cX10_back 34 = .ok (.getfield 92, 3) := by decide +kernel
theorem dX10_back_37 : decode cX10_back 37 = .ok (.ireturn, 1) := by decide +kernel
theorem dX10_read_0 : decode cX10_read 0 = .ok (.aload_n 0, 1) := by decide +kernel
theorem dX10_read_1 : decode cX10_read 1 = .ok (.iload_n 1, 1) := by decide +kernel
theorem dX10_read_2 : decode cX10_read 2 = .ok (.invokevirtual 99, 3) := by decide +kernel
theorem dX10_read_5 : decode cX10_read 5 = .ok (.ifnonnull 5, 3) := by decide +kernel
theorem dX10_read_8 : decode cX10_read 8 = .ok (.iconst (-1), 1) := by decide +kernel
theorem dX10_read_9 : decode cX10_read 9 = .ok (.ireturn, 1) := by decide +kernel
theorem dX10_read_10 : decode cX10_read 10 = .ok (.aload_n 0, 1) := by decide +kernel
theorem dX10_read_11 : decode cX10_read 11 = .ok (.getfield 26, 3) := by decide +kernel
theorem dX10_read_14 : decode cX10_read 14 = .ok (.aload_n 0, 1) := by decide +kernel
theorem dX10_read_15 : decode cX10_read 15 = .ok (.getfield 19, 3) := by decide +kernel
theorem dX10_read_18 : decode cX10_read 18 = .ok (.invokevirtual 103, 3) := by decide +kernel
theorem dX10_read_21 : decode cX10_read 21 = .ok (.istore_n 2, 1) := by decide +kernel
theorem dX10_read_22 : decode cX10_read 22 = .ok (.aload_n 0, 1) := by decide +kernel
theorem dX10_read_23 : decode cX10_read 23 = .ok (.getfield 19, 3) := by decide +kernel
theorem dX10_read_26 : decode cX10_read 26 = .ok (.iconst 0, 1) := by decide +kernel
theorem dX10_read_27 : decode cX10_read 27 = .ok (.putfield 92, 3) := by decide +kernel
theorem dX10_read_30 : decode cX10_read 30 = .ok (.iload_n 2, 1) := by decide +kernel
theorem dX10_read_31 : decode cX10_read 31 = .ok (.ifCond .ne 25, 3) := by decide +kernel
theorem dX10_read_34 : decode cX10_read 34 = .ok (.iload_n 1, 1) := by decide +kernel
theorem dX10_read_35 : decode cX10_read 35 = .ok (.ifCond .ne 21, 3) := by decide +kernel
theorem dX10_read_38 : decode cX10_read 38 = .ok (.aload_n 0, 1) := by decide +kernel
theorem dX10_read_39 : decode cX10_read 39 = .ok (.aload_n 0, 1) := by decide +kernel
theorem dX10_read_40 : decode cX10_read 40 = .ok (.getfield 26, 3) := by decide +kernel
theorem dX10_read_43 : decode cX10_read 43 = .ok (.aload_n 0, 1) := by decide +kernel
theorem dX10_read_44 : decode cX10_read 44 = .ok (.getfield 65, 3) := by decide +kernel
theorem dX10_read_47 : decode cX10_read 47 = .ok (.invokevirtual 107, 3) := by decide +kernel
theorem dX10_read_50 : decode cX10_read 50 = .ok (.putfield 65, 3) := by decide +kernel
theorem dX10_read_53 : decode cX10_read 53 = .ok (.goto 22, 3) := by decide +kernel
theorem dX10_read_56 : decode cX10_read 56 = .ok (.iload_n 2, 1) := by decide +kernel
theorem dX10_read_57 : decode cX10_read 57 = .ok (.ifCond .ne 18, 3) := by decide +kernel
theorem dX10_read_60 : decode cX10_read 60 = .ok (.aload_n 0, 1) := by decide +kernel
theorem dX10_read_61 : decode cX10_read 61 = .ok (.aload_n 0, 1) := by decide +kernel
theorem dX10_read_62 : decode cX10_read 62 = .ok (.getfield 26, 3) := by decide +kernel
theorem dX10_read_65 : decode cX10_read 65 = .ok (.aload_n 0, 1) := by decide +kernel
theorem dX10_read_66 : decode cX10_read 66 = .ok (.getfield 69, 3) := by decide +kernel
theorem dX10_read_69 : decode cX10_read 69 = .ok (.invokevirtual 107, 3) := by decide +kernel
theorem dX10_read_72 : decode cX10_read 72 = .ok (.putfield 69, 3) := by decide +kernel
theorem dX10_read_75 : decode cX10_read 75 = .ok (.iload_n 2, 1) := by decide +kernel
theorem dX10_read_76 : decode cX10_read 76 = .ok (.ireturn, 1) := by decide +kernel
theorem dX10_place_0 : decode cX10_place 0 = .ok (.aload_n 0, 1) := by decide +kernel
theorem dX10_place_1 : decode cX10_place 1 = .ok (.getfield 26, 3) := by decide +kernel
theorem dX10_place_4 : decode cX10_place 4 = .ok (.getfield 111, 3) := by decide +kernel
theorem dX10_place_7 : decode cX10_place 7 = .ok (.ireturn, 1) := by decide +kernel
theorem dX10_family_0 : decode cX10_family 0 = .ok (.aload_n 0, 1) := by decide +kernel
theorem dX10_family_1 : decode cX10_family 1 = .ok (.getfield 80, 3) := by decide +kernel
theorem dX10_family_4 : decode cX10_family 4 = .ok (.bipush 12, 2) := by decide +kernel
theorem dX10_family_6 : decode cX10_family 6 = .ok (.if_icmp .lt 5, 3) := by decide +kernel
theorem dX10_family_9 : decode cX10_family 9 = .ok (.iconst (-1), 1) := by decide +kernel
theorem dX10_family_10 : decode cX10_family 10 = .ok (.ireturn, 1) := by decide +kernel
theorem dX10_family_11 : decode cX10_family 11 = .ok (.aload_n 0, 1) := by decide +kernel
theorem dX10_family_12 : decode cX10_family 12 = .ok (.dup, 1) := by decide +kernel
theorem dX10_family_13 : decode cX10_family 13 = .ok (.getfield 80, 3) := by decide +kernel
theorem dX10_family_16 : decode cX10_family 16 = .ok (.iconst 1, 1) := by decide +kernel
theorem dX10_family_17 : decode cX10_family 17 = .ok (.iadd, 1) := by decide +kernel
theorem dX10_family_18 : decode cX10_family 18 = .ok (.putfield 80, 3) := by decide +kernel
theorem dX10_family_21 : decode cX10_family 21 = .ok (.aload_n 0, 1) := by decide +kernel
theorem dX10_family_22 : decode cX10_family 22 = .ok (.getfield 80, 3) := by decide +kernel
theorem dX10_family_25 : decode cX10_family 25 = .ok (.iconst 1, 1) := by decide +kernel
theorem dX10_family_26 : decode cX10_family 26 = .ok (.isub, 1) := by decide +kernel
theorem dX10_family_27 : decode cX10_family 27 = .ok (.ireturn, 1) := by decide +kernel
theorem dX10_clock_0 : decode cX10_clock 0 = .ok (.iload_n 1, 1) := by decide +kernel
theorem dX10_clock_1 : decode cX10_clock 1 = .ok (.aload_n 0, 1) := by decide +kernel
theorem dX10_clock_2 : decode cX10_clock 2 = .ok (.getfield 83, 3) := by decide +kernel
theorem dX10_clock_5 : decode cX10_clock 5 = .ok (.if_icmp .lt 9, 3) := by decide +kernel
theorem dX10_clock_8 : decode cX10_clock 8 = .ok (.iload_n 1, 1) := by decide +kernel
theorem dX10_clock_9 : decode cX10_clock 9 = .ok (.ldc 114, 2) := by decide +kernel
theorem dX10_clock_11 : decode cX10_clock 11 = .ok (.if_icmp .le 5, 3) := by decide +kernel
theorem dX10_clock_14 : decode cX10_clock 14 = .ok (.iconst 0, 1) := by decide +kernel
theorem dX10_clock_15 : decode cX10_clock 15 = .ok (.ireturn, 1) := by decide +kernel
theorem dX10_clock_16 : decode cX10_clock 16 = .ok (.aload_n 0, 1) := by decide +kernel
theorem dX10_clock_17 : decode cX10_clock 17 = .ok (.iload_n 1, 1) := by decide +kernel
theorem dX10_clock_18 : decode cX10_clock 18 = .ok (.putfield 83, 3) := by decide +kernel
theorem dX10_clock_21 : decode cX10_clock 21 = .ok (.iconst 1, 1) := by decide +kernel
theorem dX10_clock_22 : decode cX10_clock 22 = .ok (.ireturn, 1) := by decide +kernel
theorem dX10_term_0 : decode cX10_term 0 = .ok (.iload_n 1, 1) := by decide +kernel
theorem dX10_term_1 : decode cX10_term 1 = .ok (.invokestatic 115, 3) := by decide +kernel
theorem dX10_term_4 : decode cX10_term 4 = .ok (.ifCond .ne 5, 3) := by decide +kernel
theorem dX10_term_7 : decode cX10_term 7 = .ok (.iconst 0, 1) := by decide +kernel
theorem dX10_term_8 : decode cX10_term 8 = .ok (.ireturn, 1) := by decide +kernel
theorem dX10_term_9 : decode cX10_term 9 = .ok (.aload_n 0, 1) := by decide +kernel
theorem dX10_term_10 : decode cX10_term 10 = .ok (.iload_n 1, 1) := by decide +kernel
theorem dX10_term_11 : decode cX10_term 11 = .ok (.putfield 86, 3) := by decide +kernel
theorem dX10_term_14 : decode cX10_term 14 = .ok (.iconst 1, 1) := by decide +kernel
theorem dX10_term_15 : decode cX10_term 15 = .ok (.ireturn, 1) := by decide +kernel
theorem dX10_tell_0 : decode cX10_tell 0 = .ok (.aload_n 0, 1) := by decide +kernel
theorem dX10_tell_1 : decode cX10_tell 1 = .ok (.iload_n 2, 1) := by decide +kernel
theorem dX10_tell_2 : decode cX10_tell 2 = .ok (.invokevirtual 119, 3) := by decide +kernel
theorem dX10_tell_5 : decode cX10_tell 5 = .ok (.istore 4, 2) := by decide +kernel
theorem dX10_tell_7 : decode cX10_tell 7 = .ok (.aload_n 0, 1) := by decide +kernel
theorem dX10_tell_8 : decode cX10_tell 8 = .ok (.iload_n 1, 1) := by decide +kernel
theorem dX10_tell_9 : decode cX10_tell 9 = .ok (.invokevirtual 123, 3) := by decide +kernel
theorem dX10_tell_12 : decode cX10_tell 12 = .ok (.ifCond .eq 27, 3) := by decide +kernel
theorem dX10_tell_15 : decode cX10_tell 15 = .ok (.iload 4, 2) := by decide +kernel
theorem dX10_tell_17 : decode cX10_tell 17 = .ok (.iconst (-1), 1) := by decide +kernel
theorem dX10_tell_18 : decode cX10_tell 18 = .ok (.if_icmp .eq 21, 3) := by decide +kernel
theorem dX10_tell_21 : decode cX10_tell 21 = .ok (.iload_n 3, 1) := by decide +kernel
theorem dX10_tell_22 : decode cX10_tell 22 = .ok (.iload 4, 2) := by decide +kernel
theorem dX10_tell_24 : decode cX10_tell 24 = .ok (.invokestatic 126, 3) := by decide +kernel
theorem dX10_tell_27 : decode cX10_tell 27 = .ok (.if_icmp .lt 12, 3) := by decide +kernel
theorem dX10_tell_30 : decode cX10_tell 30 = .ok (.iload_n 3, 1) := by decide +kernel
theorem dX10_tell_31 : decode cX10_tell 31 = .ok (.iload 4, 2) := by decide +kernel
theorem dX10_tell_33 : decode cX10_tell 33 = .ok (.invokestatic 129, 3) := by decide +kernel
theorem dX10_tell_36 : decode cX10_tell 36 = .ok (.if_icmp .le 5, 3) := by decide +kernel
theorem dX10_tell_39 : decode cX10_tell 39 = .ok (.iconst (-1), 1) := by decide +kernel
theorem dX10_tell_40 : decode cX10_tell 40 = .ok (.ireturn, 1) := by decide +kernel
theorem dX10_tell_41 : decode cX10_tell 41 = .ok (.aload_n 0, 1) := by decide +kernel
theorem dX10_tell_42 : decode cX10_tell 42 = .ok (.getfield 10, 3) := by decide +kernel
theorem dX10_tell_45 : decode cX10_tell 45 = .ok (.iload_n 1, 1) := by decide +kernel
theorem dX10_tell_46 : decode cX10_tell 46 = .ok (.bipush 26, 2) := by decide +kernel
theorem dX10_tell_48 : decode cX10_tell 48 = .ok (.imul, 1) := by decide +kernel
theorem dX10_tell_49 : decode cX10_tell 49 = .ok (.iload 4, 2) := by decide +kernel
theorem dX10_tell_51 : decode cX10_tell 51 = .ok (.iadd, 1) := by decide +kernel
theorem dX10_tell_52 : decode cX10_tell 52 = .ok (.iload_n 3, 1) := by decide +kernel
theorem dX10_tell_53 : decode cX10_tell 53 = .ok (.aload_n 0, 1) := by decide +kernel
theorem dX10_tell_54 : decode cX10_tell 54 = .ok (.getfield 83, 3) := by decide +kernel
theorem dX10_tell_57 : decode cX10_tell 57 = .ok (.invokevirtual 132, 3) := by decide +kernel
theorem dX10_tell_60 : decode cX10_tell 60 = .ok (.ireturn, 1) := by decide +kernel
theorem dX10_known_0 : decode cX10_known 0 = .ok (.aload_n 0, 1) := by decide +kernel
theorem dX10_known_1 : decode cX10_known 1 = .ok (.iload_n 2, 1) := by decide +kernel
theorem dX10_known_2 : decode cX10_known 2 = .ok (.invokevirtual 119, 3) := by decide +kernel
theorem dX10_known_5 : decode cX10_known 5 = .ok (.istore 4, 2) := by decide +kernel
theorem dX10_known_7 : decode cX10_known 7 = .ok (.aload_n 0, 1) := by decide +kernel
theorem dX10_known_8 : decode cX10_known 8 = .ok (.iload_n 1, 1) := by decide +kernel
theorem dX10_known_9 : decode cX10_known 9 = .ok (.invokevirtual 123, 3) := by decide +kernel
theorem dX10_known_12 : decode cX10_known 12 = .ok (.ifCond .eq 16, 3) := by decide +kernel
theorem dX10_known_15 : decode cX10_known 15 = .ok (.iload 4, 2) := by decide +kernel
theorem dX10_known_17 : decode cX10_known 17 = .ok (.iconst (-1), 1) := by decide +kernel
theorem dX10_known_18 : decode cX10_known 18 = .ok (.if_icmp .eq 10, 3) := by decide +kernel
theorem dX10_known_21 : decode cX10_known 21 = .ok (.iload_n 3, 1) := by decide +kernel
theorem dX10_known_22 : decode cX10_known 22 = .ok (.invokestatic 115, 3) := by decide +kernel
theorem dX10_known_25 : decode cX10_known 25 = .ok (.ifCond .ne 5, 3) := by decide +kernel
theorem dX10_known_28 : decode cX10_known 28 = .ok (.iconst 0, 1) := by decide +kernel
theorem dX10_known_29 : decode cX10_known 29 = .ok (.ireturn, 1) := by decide +kernel
theorem dX10_known_30 : decode cX10_known 30 = .ok (.aload_n 0, 1) := by decide +kernel
theorem dX10_known_31 : decode cX10_known 31 = .ok (.getfield 10, 3) := by decide +kernel
theorem dX10_known_34 : decode cX10_known 34 = .ok (.iload_n 1, 1) := by decide +kernel
theorem dX10_known_35 : decode cX10_known 35 = .ok (.bipush 26, 2) := by decide +kernel
theorem dX10_known_37 : decode cX10_known 37 = .ok (.imul, 1) := by decide +kernel
theorem dX10_known_38 : decode cX10_known 38 = .ok (.iload 4, 2) := by decide +kernel
theorem dX10_known_40 : decode cX10_known 40 = .ok (.iadd, 1) := by decide +kernel
theorem dX10_known_41 : decode cX10_known 41 = .ok (.iload_n 3, 1) := by decide +kernel
theorem dX10_known_42 : decode cX10_known 42 = .ok (.invokevirtual 136, 3) := by decide +kernel
theorem dX10_known_45 : decode cX10_known 45 = .ok (.ireturn, 1) := by decide +kernel
theorem dX10_why_0 : decode cX10_why 0 = .ok (.aload_n 0, 1) := by decide +kernel
theorem dX10_why_1 : decode cX10_why 1 = .ok (.iload_n 1, 1) := by decide +kernel
theorem dX10_why_2 : decode cX10_why 2 = .ok (.invokevirtual 99, 3) := by decide +kernel
theorem dX10_why_5 : decode cX10_why 5 = .ok (.astore 5, 2) := by decide +kernel
theorem dX10_why_7 : decode cX10_why 7 = .ok (.aload 5, 2) := by decide +kernel
theorem dX10_why_9 : decode cX10_why 9 = .ok (.ifnull 27, 3) := by decide +kernel
theorem dX10_why_12 : decode cX10_why 12 = .ok (.iload_n 2, 1) := by decide +kernel
theorem dX10_why_13 : decode cX10_why 13 = .ok (.invokestatic 115, 3) := by decide +kernel
theorem dX10_why_16 : decode cX10_why 16 = .ok (.ifCond .eq 20, 3) := by decide +kernel
theorem dX10_why_19 : decode cX10_why 19 = .ok (.aload_n 0, 1) := by decide +kernel
theorem dX10_why_20 : decode cX10_why 20 = .ok (.iload_n 3, 1) := by decide +kernel
theorem dX10_why_21 : decode cX10_why 21 = .ok (.invokevirtual 123, 3) := by decide +kernel
theorem dX10_why_24 : decode cX10_why 24 = .ok (.ifCond .eq 12, 3) := by decide +kernel
theorem dX10_why_27 : decode cX10_why 27 = .ok (.aload_n 0, 1) := by decide +kernel
theorem dX10_why_28 : decode cX10_why 28 = .ok (.iload 4, 2) := by decide +kernel
theorem dX10_why_30 : decode cX10_why 30 = .ok (.invokevirtual 123, 3) := by decide +kernel
theorem dX10_why_33 : decode cX10_why 33 = .ok (.ifCond .ne 5, 3) := by decide +kernel
theorem dX10_why_36 : decode cX10_why 36 = .ok (.iconst (-1), 1) := by decide +kernel
theorem dX10_why_37 : decode cX10_why 37 = .ok (.ireturn, 1) := by decide +kernel
theorem dX10_why_38 : decode cX10_why 38 = .ok (.aload_n 0, 1) := by decide +kernel
theorem dX10_why_39 : decode cX10_why 39 = .ok (.getfield 10, 3) := by decide +kernel
theorem dX10_why_42 : decode cX10_why 42 = .ok (.aload_n 0, 1) := by decide +kernel
theorem dX10_why_43 : decode cX10_why 43 = .ok (.getfield 33, 3) := by decide +kernel
theorem dX10_why_46 : decode cX10_why 46 = .ok (.getfield 140, 3) := by decide +kernel
theorem dX10_why_49 : decode cX10_why 49 = .ok (.iload_n 2, 1) := by decide +kernel
theorem dX10_why_50 : decode cX10_why 50 = .ok (.invokevirtual 143, 3) := by decide +kernel
theorem dX10_why_53 : decode cX10_why 53 = .ok (.aload_n 0, 1) := by decide +kernel
theorem dX10_why_54 : decode cX10_why 54 = .ok (.getfield 33, 3) := by decide +kernel
theorem dX10_why_57 : decode cX10_why 57 = .ok (.aload 5, 2) := by decide +kernel
theorem dX10_why_59 : decode cX10_why 59 = .ok (.aload_n 0, 1) := by decide +kernel
theorem dX10_why_60 : decode cX10_why 60 = .ok (.getfield 86, 3) := by decide +kernel
theorem dX10_why_63 : decode cX10_why 63 = .ok (.iload_n 3, 1) := by decide +kernel
theorem dX10_why_64 : decode cX10_why 64 = .ok (.iload 4, 2) := by decide +kernel
theorem dX10_why_66 : decode cX10_why 66 = .ok (.invokevirtual 147, 3) := by decide +kernel
theorem dX10_why_69 : decode cX10_why 69 = .ok (.ireturn, 1) := by decide +kernel
theorem dX10_cost_0 : decode cX10_cost 0 = .ok (.aload_n 0, 1) := by decide +kernel
theorem dX10_cost_1 : decode cX10_cost 1 = .ok (.iload_n 1, 1) := by decide +kernel
theorem dX10_cost_2 : decode cX10_cost 2 = .ok (.invokevirtual 99, 3) := by decide +kernel
theorem dX10_cost_5 : decode cX10_cost 5 = .ok (.astore 5, 2) := by decide +kernel
theorem dX10_cost_7 : decode cX10_cost 7 = .ok (.aload 5, 2) := by decide +kernel
theorem dX10_cost_9 : decode cX10_cost 9 = .ok (.ifnull 27, 3) := by decide +kernel
theorem dX10_cost_12 : decode cX10_cost 12 = .ok (.iload_n 2, 1) := by decide +kernel
theorem dX10_cost_13 : decode cX10_cost 13 = .ok (.invokestatic 115, 3) := by decide +kernel
theorem dX10_cost_16 : decode cX10_cost 16 = .ok (.ifCond .eq 20, 3) := by decide +kernel
theorem dX10_cost_19 : decode cX10_cost 19 = .ok (.aload_n 0, 1) := by decide +kernel
theorem dX10_cost_20 : decode cX10_cost 20 = .ok (.iload_n 3, 1) := by decide +kernel
theorem dX10_cost_21 : decode cX10_cost 21 = .ok (.invokevirtual 123, 3) := by decide +kernel
theorem dX10_cost_24 : decode cX10_cost 24 = .ok (.ifCond .eq 12, 3) := by decide +kernel
theorem dX10_cost_27 : decode cX10_cost 27 = .ok (.aload_n 0, 1) := by decide +kernel
theorem dX10_cost_28 : decode cX10_cost 28 = .ok (.iload 4, 2) := by decide +kernel
theorem dX10_cost_30 : decode cX10_cost 30 = .ok (.invokevirtual 123, 3) := by decide +kernel
theorem dX10_cost_33 : decode cX10_cost 33 = .ok (.ifCond .ne 5, 3) := by decide +kernel
theorem dX10_cost_36 : decode cX10_cost 36 = .ok (.iconst (-1), 1) := by decide +kernel
theorem dX10_cost_37 : decode cX10_cost 37 = .ok (.ireturn, 1) := by decide +kernel
theorem dX10_cost_38 : decode cX10_cost 38 = .ok (.aload_n 0, 1) := by decide +kernel
theorem dX10_cost_39 : decode cX10_cost 39 = .ok (.getfield 10, 3) := by decide +kernel
theorem dX10_cost_42 : decode cX10_cost 42 = .ok (.aload_n 0, 1) := by decide +kernel
theorem dX10_cost_43 : decode cX10_cost 43 = .ok (.getfield 33, 3) := by decide +kernel
theorem dX10_cost_46 : decode cX10_cost 46 = .ok (.getfield 140, 3) := by decide +kernel
theorem dX10_cost_49 : decode cX10_cost 49 = .ok (.iload_n 2, 1) := by decide +kernel
theorem dX10_cost_50 : decode cX10_cost 50 = .ok (.invokevirtual 143, 3) := by decide +kernel
theorem dX10_cost_53 : decode cX10_cost 53 = .ok (.aload_n 0, 1) := by decide +kernel
theorem dX10_cost_54 : decode cX10_cost 54 = .ok (.getfield 33, 3) := by decide +kernel
theorem dX10_cost_57 : decode cX10_cost 57 = .ok (.aload 5, 2) := by decide +kernel
theorem dX10_cost_59 : decode cX10_cost 59 = .ok (.aload_n 0, 1) := by decide +kernel
theorem dX10_cost_60 : decode cX10_cost 60 = .ok (.getfield 86, 3) := by decide +kernel
theorem dX10_cost_63 : decode cX10_cost 63 = .ok (.iload_n 3, 1) := by decide +kernel
theorem dX10_cost_64 : decode cX10_cost 64 = .ok (.iload 4, 2) := by decide +kernel
theorem dX10_cost_66 : decode cX10_cost 66 = .ok (.invokevirtual 151, 3) := by decide +kernel
theorem dX10_cost_69 : decode cX10_cost 69 = .ok (.ireturn, 1) := by decide +kernel
theorem dX10_round_0 : decode cX10_round 0 = .ok (.aload_n 0, 1) := by decide +kernel
theorem dX10_round_1 : decode cX10_round 1 = .ok (.iload_n 1, 1) := by decide +kernel
theorem dX10_round_2 : decode cX10_round 2 = .ok (.invokevirtual 99, 3) := by decide +kernel
theorem dX10_round_5 : decode cX10_round 5 = .ok (.astore_n 3, 1) := by decide +kernel
theorem dX10_round_6 : decode cX10_round 6 = .ok (.aload_n 3, 1) := by decide +kernel
theorem dX10_round_7 : decode cX10_round 7 = .ok (.ifnull 10, 3) := by decide +kernel
theorem dX10_round_10 : decode cX10_round 10 = .ok (.iload_n 2, 1) := by decide +kernel
theorem dX10_round_11 : decode cX10_round 11 = .ok (.invokestatic 115, 3) := by decide +kernel
theorem dX10_round_14 : decode cX10_round 14 = .ok (.ifCond .ne 5, 3) := by decide +kernel
theorem dX10_round_17 : decode cX10_round 17 = .ok (.iconst (-1), 1) := by decide +kernel
theorem dX10_round_18 : decode cX10_round 18 = .ok (.ireturn, 1) := by decide +kernel
theorem dX10_round_19 : decode cX10_round 19 = .ok (.aload_n 0, 1) := by decide +kernel
theorem dX10_round_20 : decode cX10_round 20 = .ok (.aload_n 3, 1) := by decide +kernel
theorem dX10_round_21 : decode cX10_round 21 = .ok (.iload_n 2, 1) := by decide +kernel
theorem dX10_round_22 : decode cX10_round 22 = .ok (.invokevirtual 154, 3) := by decide +kernel
theorem dX10_round_25 : decode cX10_round 25 = .ok (.aload_n 0, 1) := by decide +kernel
theorem dX10_round_26 : decode cX10_round 26 = .ok (.getfield 40, 3) := by decide +kernel
theorem dX10_round_29 : decode cX10_round 29 = .ok (.invokevirtual 158, 3) := by decide +kernel
theorem dX10_round_32 : decode cX10_round 32 = .ok (.aload_n 0, 1) := by decide +kernel
theorem dX10_round_33 : decode cX10_round 33 = .ok (.getfield 40, 3) := by decide +kernel
theorem dX10_round_36 : decode cX10_round 36 = .ok (.invokevirtual 161, 3) := by decide +kernel
theorem dX10_round_39 : decode cX10_round 39 = .ok (.iconst 0, 1) := by decide +kernel
theorem dX10_round_40 : decode cX10_round 40 = .ok (.istore 4, 2) := by decide +kernel
theorem dX10_round_42 : decode cX10_round 42 = .ok (.iload 4, 2) := by decide +kernel
theorem dX10_round_44 : decode cX10_round 44 = .ok (.bipush 12, 2) := by decide +kernel
theorem dX10_round_46 : decode cX10_round 46 = .ok (.if_icmp .ge 26, 3) := by decide +kernel
theorem dX10_round_49 : decode cX10_round 49 = .ok (.aload_n 0, 1) := by decide +kernel
theorem dX10_round_50 : decode cX10_round 50 = .ok (.getfield 58, 3) := by decide +kernel
theorem dX10_round_53 : decode cX10_round 53 = .ok (.iload 4, 2) := by decide +kernel
theorem dX10_round_55 : decode cX10_round 55 = .ok (.aload_n 0, 1) := by decide +kernel
theorem dX10_round_56 : decode cX10_round 56 = .ok (.getfield 40, 3) := by decide +kernel
theorem dX10_round_59 : decode cX10_round 59 = .ok (.getfield 164, 3) := by decide +kernel
theorem dX10_round_62 : decode cX10_round 62 = .ok (.iload 4, 2) := by decide +kernel
theorem dX10_round_64 : decode cX10_round 64 = .ok (.iaload, 1) := by decide +kernel
theorem dX10_round_65 : decode cX10_round 65 = .ok (.iastore, 1) := by decide +kernel
theorem dX10_round_66 : decode cX10_round 66 = .ok (.iinc 4 1, 3) := by decide +kernel
theorem dX10_round_69 : decode cX10_round 69 = .ok (.goto (-27), 3) := by decide +kernel
theorem dX10_round_72 : decode cX10_round 72 = .ok (.aload_n 0, 1) := by decide +kernel
theorem dX10_round_73 : decode cX10_round 73 = .ok (.iconst 1, 1) := by decide +kernel
theorem dX10_round_74 : decode cX10_round 74 = .ok (.putfield 72, 3) := by decide +kernel
theorem dX10_round_77 : decode cX10_round 77 = .ok (.aload_n 0, 1) := by decide +kernel
theorem dX10_round_78 : decode cX10_round 78 = .ok (.aload_n 0, 1) := by decide +kernel
theorem dX10_round_79 : decode cX10_round 79 = .ok (.getfield 40, 3) := by decide +kernel
theorem dX10_round_82 : decode cX10_round 82 = .ok (.invokevirtual 167, 3) := by decide +kernel
theorem dX10_round_85 : decode cX10_round 85 = .ok (.putfield 76, 3) := by decide +kernel
theorem dX10_round_88 : decode cX10_round 88 = .ok (.aload_n 0, 1) := by decide +kernel
theorem dX10_round_89 : decode cX10_round 89 = .ok (.getfield 58, 3) := by decide +kernel
theorem dX10_round_92 : decode cX10_round 92 = .ok (.invokestatic 171, 3) := by decide +kernel
theorem dX10_round_95 : decode cX10_round 95 = .ok (.ireturn, 1) := by decide +kernel
theorem dX10_goes_0 : decode cX10_goes 0 = .ok (.aload_n 0, 1) := by decide +kernel
theorem dX10_goes_1 : decode cX10_goes 1 = .ok (.getfield 72, 3) := by decide +kernel
theorem dX10_goes_4 : decode cX10_goes 4 = .ok (.ifCond .eq 20, 3) := by decide +kernel
theorem dX10_goes_7 : decode cX10_goes 7 = .ok (.aload_n 0, 1) := by decide +kernel
theorem dX10_goes_8 : decode cX10_goes 8 = .ok (.iload_n 1, 1) := by decide +kernel
theorem dX10_goes_9 : decode cX10_goes 9 = .ok (.invokevirtual 123, 3) := by decide +kernel
theorem dX10_goes_12 : decode cX10_goes 12 = .ok (.ifCond .eq 12, 3) := by decide +kernel
theorem dX10_goes_15 : decode cX10_goes 15 = .ok (.aload_n 0, 1) := by decide +kernel
theorem dX10_goes_16 : decode cX10_goes 16 = .ok (.getfield 58, 3) := by decide +kernel
theorem dX10_goes_19 : decode cX10_goes 19 = .ok (.iload_n 1, 1) := by decide +kernel
theorem dX10_goes_20 : decode cX10_goes 20 = .ok (.iaload, 1) := by decide +kernel
theorem dX10_goes_21 : decode cX10_goes 21 = .ok (.goto 4, 3) := by decide +kernel
theorem dX10_goes_24 : decode cX10_goes 24 = .ok (.iconst (-1), 1) := by decide +kernel
theorem dX10_goes_25 : decode cX10_goes 25 = .ok (.ireturn, 1) := by decide +kernel
theorem dX10_costs_0 : decode cX10_costs 0 = .ok (.aload_n 0, 1) := by decide +kernel
theorem dX10_costs_1 : decode cX10_costs 1 = .ok (.getfield 72, 3) := by decide +kernel
theorem dX10_costs_4 : decode cX10_costs 4 = .ok (.ifCond .eq 10, 3) := by decide +kernel
theorem dX10_costs_7 : decode cX10_costs 7 = .ok (.aload_n 0, 1) := by decide +kernel
theorem dX10_costs_8 : decode cX10_costs 8 = .ok (.getfield 76, 3) := by decide +kernel
theorem dX10_costs_11 : decode cX10_costs 11 = .ok (.goto 4, 3) := by decide +kernel
theorem dX10_costs_14 : decode cX10_costs 14 = .ok (.iconst (-1), 1) := by decide +kernel
theorem dX10_costs_15 : decode cX10_costs 15 = .ok (.ireturn, 1) := by decide +kernel
theorem dX10_take_0 : decode cX10_take 0 = .ok (.aload_n 0, 1) := by decide +kernel
theorem dX10_take_1 : decode cX10_take 1 = .ok (.getfield 72, 3) := by decide +kernel
theorem dX10_take_4 : decode cX10_take 4 = .ok (.ifCond .ne 5, 3) := by decide +kernel
theorem dX10_take_7 : decode cX10_take 7 = .ok (.iconst (-1), 1) := by decide +kernel
theorem dX10_take_8 : decode cX10_take 8 = .ok (.ireturn, 1) := by decide +kernel
theorem dX10_take_9 : decode cX10_take 9 = .ok (.aload_n 0, 1) := by decide +kernel
theorem dX10_take_10 : decode cX10_take 10 = .ok (.getfield 47, 3) := by decide +kernel
theorem dX10_take_13 : decode cX10_take 13 = .ok (.getfield 175, 3) := by decide +kernel
theorem dX10_take_16 : decode cX10_take 16 = .ok (.ifCond .eq 6, 3) := by decide +kernel
theorem dX10_take_19 : decode cX10_take 19 = .ok (.bipush (-2), 2) := by decide +kernel
theorem dX10_take_21 : decode cX10_take 21 = .ok (.ireturn, 1) := by decide +kernel
theorem dX10_take_22 : decode cX10_take 22 = .ok (.aload_n 0, 1) := by decide +kernel
theorem dX10_take_23 : decode cX10_take 23 = .ok (.aload_n 0, 1) := by decide +kernel
theorem dX10_take_24 : decode cX10_take 24 = .ok (.getfield 65, 3) := by decide +kernel
theorem dX10_take_27 : decode cX10_take 27 = .ok (.aload_n 0, 1) := by decide +kernel
theorem dX10_take_28 : decode cX10_take 28 = .ok (.getfield 83, 3) := by decide +kernel
theorem dX10_take_31 : decode cX10_take 31 = .ok (.invokevirtual 154, 3) := by decide +kernel
theorem dX10_take_34 : decode cX10_take 34 = .ok (.aload_n 0, 1) := by decide +kernel
theorem dX10_take_35 : decode cX10_take 35 = .ok (.getfield 40, 3) := by decide +kernel
theorem dX10_take_38 : decode cX10_take 38 = .ok (.aload_n 0, 1) := by decide +kernel
theorem dX10_take_39 : decode cX10_take 39 = .ok (.getfield 58, 3) := by decide +kernel
theorem dX10_take_42 : decode cX10_take 42 = .ok (.invokevirtual 178, 3) := by decide +kernel
theorem dX10_take_45 : decode cX10_take 45 = .ok (.ifCond .ne 6, 3) := by decide +kernel
theorem dX10_take_48 : decode cX10_take 48 = .ok (.bipush (-3), 2) := by decide +kernel
theorem dX10_take_50 : decode cX10_take 50 = .ok (.ireturn, 1) := by decide +kernel
theorem dX10_take_51 : decode cX10_take 51 = .ok (.aload_n 0, 1) := by decide +kernel
theorem dX10_take_52 : decode cX10_take 52 = .ok (.getfield 47, 3) := by decide +kernel
theorem dX10_take_55 : decode cX10_take 55 = .ok (.aload_n 0, 1) := by decide +kernel
theorem dX10_take_56 : decode cX10_take 56 = .ok (.getfield 58, 3) := by decide +kernel
theorem dX10_take_59 : decode cX10_take 59 = .ok (.invokevirtual 182, 3) := by decide +kernel
theorem dX10_take_62 : decode cX10_take 62 = .ok (.aload_n 0, 1) := by decide +kernel
theorem dX10_take_63 : decode cX10_take 63 = .ok (.getfield 47, 3) := by decide +kernel
theorem dX10_take_66 : decode cX10_take 66 = .ok (.getfield 186, 3) := by decide +kernel
theorem dX10_take_69 : decode cX10_take 69 = .ok (.invokestatic 171, 3) := by decide +kernel
theorem dX10_take_72 : decode cX10_take 72 = .ok (.ireturn, 1) := by decide +kernel
theorem dX10_fall_0 : decode cX10_fall 0 = .ok (.aload_n 0, 1) := by decide +kernel
theorem dX10_fall_1 : decode cX10_fall 1 = .ok (.iload_n 1, 1) := by decide +kernel
theorem dX10_fall_2 : decode cX10_fall 2 = .ok (.invokevirtual 123, 3) := by decide +kernel
theorem dX10_fall_5 : decode cX10_fall 5 = .ok (.ifCond .eq 16, 3) := by decide +kernel
theorem dX10_fall_8 : decode cX10_fall 8 = .ok (.aload_n 0, 1) := by decide +kernel
theorem dX10_fall_9 : decode cX10_fall 9 = .ok (.getfield 47, 3) := by decide +kernel
theorem dX10_fall_12 : decode cX10_fall 12 = .ok (.getfield 186, 3) := by decide +kernel
theorem dX10_fall_15 : decode cX10_fall 15 = .ok (.iload_n 1, 1) := by decide +kernel
theorem dX10_fall_16 : decode cX10_fall 16 = .ok (.iaload, 1) := by decide +kernel
theorem dX10_fall_17 : decode cX10_fall 17 = .ok (.iconst (-1), 1) := by decide +kernel
theorem dX10_fall_18 : decode cX10_fall 18 = .ok (.if_icmp .ne 5, 3) := by decide +kernel
theorem dX10_fall_21 : decode cX10_fall 21 = .ok (.iconst (-1), 1) := by decide +kernel
theorem dX10_fall_22 : decode cX10_fall 22 = .ok (.ireturn, 1) := by decide +kernel
theorem dX10_fall_23 : decode cX10_fall 23 = .ok (.aload_n 0, 1) := by decide +kernel
theorem dX10_fall_24 : decode cX10_fall 24 = .ok (.getfield 47, 3) := by decide +kernel
theorem dX10_fall_27 : decode cX10_fall 27 = .ok (.iload_n 1, 1) := by decide +kernel
theorem dX10_fall_28 : decode cX10_fall 28 = .ok (.invokevirtual 187, 3) := by decide +kernel
theorem dX10_fall_31 : decode cX10_fall 31 = .ok (.aload_n 0, 1) := by decide +kernel
theorem dX10_fall_32 : decode cX10_fall 32 = .ok (.aload_n 0, 1) := by decide +kernel
theorem dX10_fall_33 : decode cX10_fall 33 = .ok (.getfield 65, 3) := by decide +kernel
theorem dX10_fall_36 : decode cX10_fall 36 = .ok (.aload_n 0, 1) := by decide +kernel
theorem dX10_fall_37 : decode cX10_fall 37 = .ok (.getfield 83, 3) := by decide +kernel
theorem dX10_fall_40 : decode cX10_fall 40 = .ok (.invokevirtual 154, 3) := by decide +kernel
theorem dX10_fall_43 : decode cX10_fall 43 = .ok (.aload_n 0, 1) := by decide +kernel
theorem dX10_fall_44 : decode cX10_fall 44 = .ok (.getfield 40, 3) := by decide +kernel
theorem dX10_fall_47 : decode cX10_fall 47 = .ok (.aload_n 0, 1) := by decide +kernel
theorem dX10_fall_48 : decode cX10_fall 48 = .ok (.getfield 47, 3) := by decide +kernel
theorem dX10_fall_51 : decode cX10_fall 51 = .ok (.invokevirtual 190, 3) := by decide +kernel
theorem dX10_fall_54 : decode cX10_fall 54 = .ok (.aload_n 0, 1) := by decide +kernel
theorem dX10_fall_55 : decode cX10_fall 55 = .ok (.getfield 40, 3) := by decide +kernel
theorem dX10_fall_58 : decode cX10_fall 58 = .ok (.invokevirtual 161, 3) := by decide +kernel
theorem dX10_fall_61 : decode cX10_fall 61 = .ok (.aload_n 0, 1) := by decide +kernel
theorem dX10_fall_62 : decode cX10_fall 62 = .ok (.getfield 47, 3) := by decide +kernel
theorem dX10_fall_65 : decode cX10_fall 65 = .ok (.aload_n 0, 1) := by decide +kernel
theorem dX10_fall_66 : decode cX10_fall 66 = .ok (.getfield 40, 3) := by decide +kernel
theorem dX10_fall_69 : decode cX10_fall 69 = .ok (.getfield 164, 3) := by decide +kernel
theorem dX10_fall_72 : decode cX10_fall 72 = .ok (.invokevirtual 194, 3) := by decide +kernel
theorem dX10_fall_75 : decode cX10_fall 75 = .ok (.ireturn, 1) := by decide +kernel
theorem dX10_moved_0 : decode cX10_moved 0 = .ok (.iload_n 1, 1) := by decide +kernel
theorem dX10_moved_1 : decode cX10_moved 1 = .ok (.ifCond .lt 20, 3) := by decide +kernel
theorem dX10_moved_4 : decode cX10_moved 4 = .ok (.iload_n 1, 1) := by decide +kernel
theorem dX10_moved_5 : decode cX10_moved 5 = .ok (.aload_n 0, 1) := by decide +kernel
theorem dX10_moved_6 : decode cX10_moved 6 = .ok (.getfield 47, 3) := by decide +kernel
theorem dX10_moved_9 : decode cX10_moved 9 = .ok (.getfield 197, 3) := by decide +kernel
theorem dX10_moved_12 : decode cX10_moved 12 = .ok (.if_icmp .ge 9, 3) := by decide +kernel
theorem dX10_moved_15 : decode cX10_moved 15 = .ok (.iload_n 1, 1) := by decide +kernel
theorem dX10_moved_16 : decode cX10_moved 16 = .ok (.bipush 12, 2) := by decide +kernel
theorem dX10_moved_18 : decode cX10_moved 18 = .ok (.if_icmp .lt 7, 3) := by decide +kernel
theorem dX10_moved_21 : decode cX10_moved 21 = .ok (.iconst (-1), 1) := by decide +kernel
theorem dX10_moved_22 : decode cX10_moved 22 = .ok (.goto 12, 3) := by decide +kernel
theorem dX10_moved_25 : decode cX10_moved 25 = .ok (.aload_n 0, 1) := by decide +kernel
theorem dX10_moved_26 : decode cX10_moved 26 = .ok (.getfield 47, 3) := by decide +kernel
theorem dX10_moved_29 : decode cX10_moved 29 = .ok (.getfield 200, 3) := by decide +kernel
theorem dX10_moved_32 : decode cX10_moved 32 = .ok (.iload_n 1, 1) := by decide +kernel
theorem dX10_moved_33 : decode cX10_moved 33 = .ok (.iaload, 1) := by decide +kernel
theorem dX10_moved_34 : decode cX10_moved 34 = .ok (.ireturn, 1) := by decide +kernel
theorem dX10_close_0 : decode cX10_close 0 = .ok (.aload_n 0, 1) := by decide +kernel
theorem dX10_close_1 : decode cX10_close 1 = .ok (.getfield 47, 3) := by decide +kernel
theorem dX10_close_4 : decode cX10_close 4 = .ok (.getfield 186, 3) := by decide +kernel
theorem dX10_close_7 : decode cX10_close 7 = .ok (.invokestatic 171, 3) := by decide +kernel
theorem dX10_close_10 : decode cX10_close 10 = .ok (.istore_n 1, 1) := by decide +kernel
theorem dX10_close_11 : decode cX10_close 11 = .ok (.aload_n 0, 1) := by decide +kernel
theorem dX10_close_12 : decode cX10_close 12 = .ok (.getfield 10, 3) := by decide +kernel
theorem dX10_close_15 : decode cX10_close 15 = .ok (.aload_n 0, 1) := by decide +kernel
theorem dX10_close_16 : decode cX10_close 16 = .ok (.getfield 33, 3) := by decide +kernel
theorem dX10_close_19 : decode cX10_close 19 = .ok (.getfield 140, 3) := by decide +kernel
theorem dX10_close_22 : decode cX10_close 22 = .ok (.aload_n 0, 1) := by decide +kernel
theorem dX10_close_23 : decode cX10_close 23 = .ok (.getfield 83, 3) := by decide +kernel
theorem dX10_close_26 : decode cX10_close 26 = .ok (.invokevirtual 143, 3) := by decide +kernel
theorem dX10_close_29 : decode cX10_close 29 = .ok (.iconst 0, 1) := by decide +kernel
theorem dX10_close_30 : decode cX10_close 30 = .ok (.istore_n 2, 1) := by decide +kernel
theorem dX10_close_31 : decode cX10_close 31 = .ok (.iload_n 2, 1) := by decide +kernel
theorem dX10_close_32 : decode cX10_close 32 = .ok (.bipush 12, 2) := by decide +kernel
theorem dX10_close_34 : decode cX10_close 34 = .ok (.if_icmp .ge 77, 3) := by decide +kernel
theorem dX10_close_37 : decode cX10_close 37 = .ok (.aload_n 0, 1) := by decide +kernel
theorem dX10_close_38 : decode cX10_close 38 = .ok (.getfield 47, 3) := by decide +kernel
theorem dX10_close_41 : decode cX10_close 41 = .ok (.getfield 186, 3) := by decide +kernel
theorem dX10_close_44 : decode cX10_close 44 = .ok (.iload_n 2, 1) := by decide +kernel
theorem dX10_close_45 : decode cX10_close 45 = .ok (.iaload, 1) := by decide +kernel
theorem dX10_close_46 : decode cX10_close 46 = .ok (.istore_n 3, 1) := by decide +kernel
theorem dX10_close_47 : decode cX10_close 47 = .ok (.aload_n 0, 1) := by decide +kernel
theorem dX10_close_48 : decode cX10_close 48 = .ok (.getfield 54, 3) := by decide +kernel
theorem dX10_close_51 : decode cX10_close 51 = .ok (.iload_n 2, 1) := by decide +kernel
theorem dX10_close_52 : decode cX10_close 52 = .ok (.iload_n 3, 1) := by decide +kernel
theorem dX10_close_53 : decode cX10_close 53 = .ok (.iconst (-1), 1) := by decide +kernel
theorem dX10_close_54 : decode cX10_close 54 = .ok (.if_icmp .eq 7, 3) := by decide +kernel
theorem dX10_close_57 : decode cX10_close 57 = .ok (.iconst 1, 1) := by decide +kernel
theorem dX10_close_58 : decode cX10_close 58 = .ok (.goto 4, 3) := by decide +kernel
theorem dX10_close_61 : decode cX10_close 61 = .ok (.iconst 0, 1) := by decide +kernel
theorem dX10_close_62 : decode cX10_close 62 = .ok (.aload_n 0, 1) := by decide +kernel
theorem dX10_close_63 : decode cX10_close 63 = .ok (.getfield 47, 3) := by decide +kernel
theorem dX10_close_66 : decode cX10_close 66 = .ok (.iload_n 2, 1) := by decide +kernel
theorem dX10_close_67 : decode cX10_close 67 = .ok (.invokevirtual 203, 3) := by decide +kernel
theorem dX10_close_70 : decode cX10_close 70 = .ok (.iconst (-1), 1) := by decide +kernel
theorem dX10_close_71 : decode cX10_close 71 = .ok (.if_icmp .eq 7, 3) := by decide +kernel
theorem dX10_close_74 : decode cX10_close 74 = .ok (.iconst 1, 1) := by decide +kernel
theorem dX10_close_75 : decode cX10_close 75 = .ok (.goto 4, 3) := by decide +kernel
theorem dX10_close_78 : decode cX10_close 78 = .ok (.iconst 0, 1) := by decide +kernel
theorem dX10_close_79 : decode cX10_close 79 = .ok (.invokevirtual 206, 3) := by decide +kernel
theorem dX10_close_82 : decode cX10_close 82 = .ok (.iload_n 3, 1) := by decide +kernel
theorem dX10_close_83 : decode cX10_close 83 = .ok (.iconst (-1), 1) := by decide +kernel
theorem dX10_close_84 : decode cX10_close 84 = .ok (.if_icmp .eq 21, 3) := by decide +kernel
theorem dX10_close_87 : decode cX10_close 87 = .ok (.aload_n 0, 1) := by decide +kernel
theorem dX10_close_88 : decode cX10_close 88 = .ok (.getfield 54, 3) := by decide +kernel
theorem dX10_close_91 : decode cX10_close 91 = .ok (.iload_n 2, 1) := by decide +kernel
theorem dX10_close_92 : decode cX10_close 92 = .ok (.iload_n 3, 1) := by decide +kernel
theorem dX10_close_93 : decode cX10_close 93 = .ok (.aload_n 0, 1) := by decide +kernel
theorem dX10_close_94 : decode cX10_close 94 = .ok (.getfield 33, 3) := by decide +kernel
theorem dX10_close_97 : decode cX10_close 97 = .ok (.iload_n 3, 1) := by decide +kernel
theorem dX10_close_98 : decode cX10_close 98 = .ok (.iconst 5, 1) := by decide +kernel
theorem dX10_close_99 : decode cX10_close 99 = .ok (.invokevirtual 210, 3) := by decide +kernel
theorem dX10_close_102 : decode cX10_close 102 = .ok (.invokevirtual 213, 3) := by decide +kernel
theorem dX10_close_105 : decode cX10_close 105 = .ok (.iinc 2 1, 3) := by decide +kernel
theorem dX10_close_108 : decode cX10_close 108 = .ok (.goto (-77), 3) := by decide +kernel
theorem dX10_close_111 : decode cX10_close 111 = .ok (.aload_n 0, 1) := by decide +kernel
theorem dX10_close_112 : decode cX10_close 112 = .ok (.getfield 47, 3) := by decide +kernel
theorem dX10_close_115 : decode cX10_close 115 = .ok (.invokevirtual 217, 3) := by decide +kernel
theorem dX10_close_118 : decode cX10_close 118 = .ok (.aload_n 0, 1) := by decide +kernel
theorem dX10_close_119 : decode cX10_close 119 = .ok (.dup, 1) := by decide +kernel
theorem dX10_close_120 : decode cX10_close 120 = .ok (.getfield 89, 3) := by decide +kernel
theorem dX10_close_123 : decode cX10_close 123 = .ok (.iconst 1, 1) := by decide +kernel
theorem dX10_close_124 : decode cX10_close 124 = .ok (.iadd, 1) := by decide +kernel
theorem dX10_close_125 : decode cX10_close 125 = .ok (.putfield 89, 3) := by decide +kernel
theorem dX10_close_128 : decode cX10_close 128 = .ok (.iload_n 1, 1) := by decide +kernel
theorem dX10_close_129 : decode cX10_close 129 = .ok (.ireturn, 1) := by decide +kernel
theorem dX10_link_0 : decode cX10_link 0 = .ok (.aload_n 0, 1) := by decide +kernel
theorem dX10_link_1 : decode cX10_link 1 = .ok (.iload_n 1, 1) := by decide +kernel
theorem dX10_link_2 : decode cX10_link 2 = .ok (.invokevirtual 123, 3) := by decide +kernel
theorem dX10_link_5 : decode cX10_link 5 = .ok (.ifCond .eq 13, 3) := by decide +kernel
theorem dX10_link_8 : decode cX10_link 8 = .ok (.iload_n 2, 1) := by decide +kernel
theorem dX10_link_9 : decode cX10_link 9 = .ok (.ifCond .lt 9, 3) := by decide +kernel
theorem dX10_link_12 : decode cX10_link 12 = .ok (.iload_n 2, 1) := by decide +kernel
theorem dX10_link_13 : decode cX10_link 13 = .ok (.bipush 12, 2) := by decide +kernel
theorem dX10_link_15 : decode cX10_link 15 = .ok (.if_icmp .lt 5, 3) := by decide +kernel
theorem dX10_link_18 : decode cX10_link 18 = .ok (.iconst (-1), 1) := by decide +kernel
theorem dX10_link_19 : decode cX10_link 19 = .ok (.ireturn, 1) := by decide +kernel
theorem dX10_link_20 : decode cX10_link 20 = .ok (.iload_n 1, 1) := by decide +kernel
theorem dX10_link_21 : decode cX10_link 21 = .ok (.istore_n 3, 1) := by decide +kernel
theorem dX10_link_22 : decode cX10_link 22 = .ok (.iconst 0, 1) := by decide +kernel
theorem dX10_link_23 : decode cX10_link 23 = .ok (.istore 4, 2) := by decide +kernel
theorem dX10_link_25 : decode cX10_link 25 = .ok (.iload 4, 2) := by decide +kernel
theorem dX10_link_27 : decode cX10_link 27 = .ok (.iload_n 2, 1) := by decide +kernel
theorem dX10_link_28 : decode cX10_link 28 = .ok (.if_icmp .ge 34, 3) := by decide +kernel
theorem dX10_link_31 : decode cX10_link 31 = .ok (.aload_n 0, 1) := by decide +kernel
theorem dX10_link_32 : decode cX10_link 32 = .ok (.getfield 47, 3) := by decide +kernel
theorem dX10_link_35 : decode cX10_link 35 = .ok (.getfield 186, 3) := by decide +kernel
theorem dX10_link_38 : decode cX10_link 38 = .ok (.iload_n 3, 1) := by decide +kernel
theorem dX10_link_39 : decode cX10_link 39 = .ok (.iaload, 1) := by decide +kernel
theorem dX10_link_40 : decode cX10_link 40 = .ok (.istore_n 3, 1) := by decide +kernel
theorem dX10_link_41 : decode cX10_link 41 = .ok (.aload_n 0, 1) := by decide +kernel
theorem dX10_link_42 : decode cX10_link 42 = .ok (.iload_n 3, 1) := by decide +kernel
theorem dX10_link_43 : decode cX10_link 43 = .ok (.invokevirtual 123, 3) := by decide +kernel
theorem dX10_link_46 : decode cX10_link 46 = .ok (.ifCond .eq 8, 3) := by decide +kernel
theorem dX10_link_49 : decode cX10_link 49 = .ok (.iload_n 3, 1) := by decide +kernel
theorem dX10_link_50 : decode cX10_link 50 = .ok (.iload_n 1, 1) := by decide +kernel
theorem dX10_link_51 : decode cX10_link 51 = .ok (.if_icmp .ne 5, 3) := by decide +kernel
theorem dX10_link_54 : decode cX10_link 54 = .ok (.iconst (-1), 1) := by decide +kernel
theorem dX10_link_55 : decode cX10_link 55 = .ok (.ireturn, 1) := by decide +kernel
theorem dX10_link_56 : decode cX10_link 56 = .ok (.iinc 4 1, 3) := by decide +kernel
theorem dX10_link_59 : decode cX10_link 59 = .ok (.goto (-34), 3) := by decide +kernel
theorem dX10_link_62 : decode cX10_link 62 = .ok (.iload_n 3, 1) := by decide +kernel
theorem dX10_link_63 : decode cX10_link 63 = .ok (.ireturn, 1) := by decide +kernel
theorem dX10_of_0 : decode cX10_of 0 = .ok (.aload_n 0, 1) := by decide +kernel
theorem dX10_of_1 : decode cX10_of 1 = .ok (.iload_n 1, 1) := by decide +kernel
theorem dX10_of_2 : decode cX10_of 2 = .ok (.invokevirtual 123, 3) := by decide +kernel
theorem dX10_of_5 : decode cX10_of 5 = .ok (.ifCond .ne 5, 3) := by decide +kernel
theorem dX10_of_8 : decode cX10_of 8 = .ok (.iconst (-1), 1) := by decide +kernel
theorem dX10_of_9 : decode cX10_of 9 = .ok (.ireturn, 1) := by decide +kernel
theorem dX10_of_10 : decode cX10_of 10 = .ok (.iload_n 2, 1) := by decide +kernel
theorem dX10_of_11 : decode cX10_of 11 = .ok (.tableswitch 104 0 5 #[37, 47, 56, 74, 84, 94], 37) := by decide +kernel
theorem dX10_of_48 : decode cX10_of 48 = .ok (.aload_n 0, 1) := by decide +kernel
theorem dX10_of_49 : decode cX10_of 49 = .ok (.getfield 47, 3) := by decide +kernel
theorem dX10_of_52 : decode cX10_of 52 = .ok (.getfield 186, 3) := by decide +kernel
theorem dX10_of_55 : decode cX10_of 55 = .ok (.iload_n 1, 1) := by decide +kernel
theorem dX10_of_56 : decode cX10_of 56 = .ok (.iaload, 1) := by decide +kernel
theorem dX10_of_57 : decode cX10_of 57 = .ok (.ireturn, 1) := by decide +kernel
theorem dX10_of_58 : decode cX10_of 58 = .ok (.aload_n 0, 1) := by decide +kernel
theorem dX10_of_59 : decode cX10_of 59 = .ok (.getfield 47, 3) := by decide +kernel
theorem dX10_of_62 : decode cX10_of 62 = .ok (.iload_n 1, 1) := by decide +kernel
theorem dX10_of_63 : decode cX10_of 63 = .ok (.invokevirtual 203, 3) := by decide +kernel
theorem dX10_of_66 : decode cX10_of 66 = .ok (.ireturn, 1) := by decide +kernel
theorem dX10_of_67 : decode cX10_of 67 = .ok (.aload_n 0, 1) := by decide +kernel
theorem dX10_of_68 : decode cX10_of 68 = .ok (.getfield 47, 3) := by decide +kernel
theorem dX10_of_71 : decode cX10_of 71 = .ok (.getfield 220, 3) := by decide +kernel
theorem dX10_of_74 : decode cX10_of 74 = .ok (.iload_n 1, 1) := by decide +kernel
theorem dX10_of_75 : decode cX10_of 75 = .ok (.baload, 1) := by decide +kernel
theorem dX10_of_76 : decode cX10_of 76 = .ok (.ifCond .eq 7, 3) := by decide +kernel
theorem dX10_of_79 : decode cX10_of 79 = .ok (.iconst 1, 1) := by decide +kernel
theorem dX10_of_80 : decode cX10_of 80 = .ok (.goto 4, 3) := by decide +kernel
theorem dX10_of_83 : decode cX10_of 83 = .ok (.iconst 0, 1) := by decide +kernel
theorem dX10_of_84 : decode cX10_of 84 = .ok (.ireturn, 1) := by decide +kernel
theorem dX10_of_85 : decode cX10_of 85 = .ok (.aload_n 0, 1) := by decide +kernel
theorem dX10_of_86 : decode cX10_of 86 = .ok (.getfield 54, 3) := by decide +kernel
theorem dX10_of_89 : decode cX10_of 89 = .ok (.getfield 224, 3) := by decide +kernel
theorem dX10_of_92 : decode cX10_of 92 = .ok (.iload_n 1, 1) := by decide +kernel
theorem dX10_of_93 : decode cX10_of 93 = .ok (.iaload, 1) := by decide +kernel
theorem dX10_of_94 : decode cX10_of 94 = .ok (.ireturn, 1) := by decide +kernel
theorem dX10_of_95 : decode cX10_of 95 = .ok (.aload_n 0, 1) := by decide +kernel
theorem dX10_of_96 : decode cX10_of 96 = .ok (.getfield 54, 3) := by decide +kernel
theorem dX10_of_99 : decode cX10_of 99 = .ok (.getfield 227, 3) := by decide +kernel
theorem dX10_of_102 : decode cX10_of 102 = .ok (.iload_n 1, 1) := by decide +kernel
theorem dX10_of_103 : decode cX10_of 103 = .ok (.iaload, 1) := by decide +kernel
theorem dX10_of_104 : decode cX10_of 104 = .ok (.ireturn, 1) := by decide +kernel
theorem dX10_of_105 : decode cX10_of 105 = .ok (.aload_n 0, 1) := by decide +kernel
theorem dX10_of_106 : decode cX10_of 106 = .ok (.getfield 54, 3) := by decide +kernel
theorem dX10_of_109 : decode cX10_of 109 = .ok (.getfield 230, 3) := by decide +kernel
theorem dX10_of_112 : decode cX10_of 112 = .ok (.iload_n 1, 1) := by decide +kernel
theorem dX10_of_113 : decode cX10_of 113 = .ok (.iaload, 1) := by decide +kernel
theorem dX10_of_114 : decode cX10_of 114 = .ok (.ireturn, 1) := by decide +kernel
theorem dX10_of_115 : decode cX10_of 115 = .ok (.iconst (-1), 1) := by decide +kernel
theorem dX10_of_116 : decode cX10_of 116 = .ok (.ireturn, 1) := by decide +kernel
theorem dX10_count_0 : decode cX10_count 0 = .ok (.iload_n 1, 1) := by decide +kernel
theorem dX10_count_1 : decode cX10_count 1 = .ok (.tableswitch 114 0 8 #[51, 56, 64, 69, 74, 79, 90, 98, 106], 51) := by decide +kernel
theorem dX10_count_52 : decode cX10_count 52 = .ok (.aload_n 0, 1) := by decide +kernel
theorem dX10_count_53 : decode cX10_count 53 = .ok (.getfield 80, 3) := by decide +kernel
theorem dX10_count_56 : decode cX10_count 56 = .ok (.ireturn, 1) := by decide +kernel
theorem dX10_count_57 : decode cX10_count 57 = .ok (.aload_n 0, 1) := by decide +kernel
theorem dX10_count_58 : decode cX10_count 58 = .ok (.getfield 10, 3) := by decide +kernel
theorem dX10_count_61 : decode cX10_count 61 = .ok (.getfield 233, 3) := by decide +kernel
theorem dX10_count_64 : decode cX10_count 64 = .ok (.ireturn, 1) := by decide +kernel
theorem dX10_count_65 : decode cX10_count 65 = .ok (.aload_n 0, 1) := by decide +kernel
theorem dX10_count_66 : decode cX10_count 66 = .ok (.getfield 83, 3) := by decide +kernel
theorem dX10_count_69 : decode cX10_count 69 = .ok (.ireturn, 1) := by decide +kernel
theorem dX10_count_70 : decode cX10_count 70 = .ok (.aload_n 0, 1) := by decide +kernel
theorem dX10_count_71 : decode cX10_count 71 = .ok (.getfield 86, 3) := by decide +kernel
theorem dX10_count_74 : decode cX10_count 74 = .ok (.ireturn, 1) := by decide +kernel
theorem dX10_count_75 : decode cX10_count 75 = .ok (.aload_n 0, 1) := by decide +kernel
theorem dX10_count_76 : decode cX10_count 76 = .ok (.getfield 89, 3) := by decide +kernel
theorem dX10_count_79 : decode cX10_count 79 = .ok (.ireturn, 1) := by decide +kernel
theorem dX10_count_80 : decode cX10_count 80 = .ok (.aload_n 0, 1) := by decide +kernel
theorem dX10_count_81 : decode cX10_count 81 = .ok (.getfield 47, 3) := by decide +kernel
theorem dX10_count_84 : decode cX10_count 84 = .ok (.getfield 186, 3) := by decide +kernel
theorem dX10_count_87 : decode cX10_count 87 = .ok (.invokestatic 171, 3) := by decide +kernel
theorem dX10_count_90 : decode cX10_count 90 = .ok (.ireturn, 1) := by decide +kernel
theorem dX10_count_91 : decode cX10_count 91 = .ok (.aload_n 0, 1) := by decide +kernel
theorem dX10_count_92 : decode cX10_count 92 = .ok (.getfield 65, 3) := by decide +kernel
theorem dX10_count_95 : decode cX10_count 95 = .ok (.getfield 236, 3) := by decide +kernel
theorem dX10_count_98 : decode cX10_count 98 = .ok (.ireturn, 1) := by decide +kernel
theorem dX10_count_99 : decode cX10_count 99 = .ok (.aload_n 0, 1) := by decide +kernel
theorem dX10_count_100 : decode cX10_count 100 = .ok (.getfield 69, 3) := by decide +kernel
theorem dX10_count_103 : decode cX10_count 103 = .ok (.getfield 236, 3) := by decide +kernel
theorem dX10_count_106 : decode cX10_count 106 = .ok (.ireturn, 1) := by decide +kernel
theorem dX10_count_107 : decode cX10_count 107 = .ok (.aload_n 0, 1) := by decide +kernel
theorem dX10_count_108 : decode cX10_count 108 = .ok (.getfield 19, 3) := by decide +kernel
theorem dX10_count_111 : decode cX10_count 111 = .ok (.getfield 92, 3) := by decide +kernel
theorem dX10_count_114 : decode cX10_count 114 = .ok (.ireturn, 1) := by decide +kernel
theorem dX10_count_115 : decode cX10_count 115 = .ok (.iconst (-1), 1) := by decide +kernel
theorem dX10_count_116 : decode cX10_count 116 = .ok (.ireturn, 1) := by decide +kernel
theorem dX10_isFamily_0 : decode cX10_isFamily 0 = .ok (.iload_n 1, 1) := by decide +kernel
theorem dX10_isFamily_1 : decode cX10_isFamily 1 = .ok (.ifCond .lt 21, 3) := by decide +kernel
theorem dX10_isFamily_4 : decode cX10_isFamily 4 = .ok (.iload_n 1, 1) := by decide +kernel
theorem dX10_isFamily_5 : decode cX10_isFamily 5 = .ok (.aload_n 0, 1) := by decide +kernel
theorem dX10_isFamily_6 : decode cX10_isFamily 6 = .ok (.getfield 80, 3) := by decide +kernel
theorem dX10_isFamily_9 : decode cX10_isFamily 9 = .ok (.if_icmp .ge 13, 3) := by decide +kernel
theorem dX10_isFamily_12 : decode cX10_isFamily 12 = .ok (.iload_n 1, 1) := by decide +kernel
theorem dX10_isFamily_13 : decode cX10_isFamily 13 = .ok (.bipush 12, 2) := by decide +kernel
theorem dX10_isFamily_15 : decode cX10_isFamily 15 = .ok (.if_icmp .ge 7, 3) := by decide +kernel
theorem dX10_isFamily_18 : decode cX10_isFamily 18 = .ok (.iconst 1, 1) := by decide +kernel
theorem dX10_isFamily_19 : decode cX10_isFamily 19 = .ok (.goto 4, 3) := by decide +kernel
theorem dX10_isFamily_22 : decode cX10_isFamily 22 = .ok (.iconst 0, 1) := by decide +kernel
theorem dX10_isFamily_23 : decode cX10_isFamily 23 = .ok (.ireturn, 1) := by decide +kernel
theorem dX10_isDay_0 : decode cX10_isDay 0 = .ok (.iload_n 0, 1) := by decide +kernel
theorem dX10_isDay_1 : decode cX10_isDay 1 = .ok (.ifCond .lt 13, 3) := by decide +kernel
theorem dX10_isDay_4 : decode cX10_isDay 4 = .ok (.iload_n 0, 1) := by decide +kernel
theorem dX10_isDay_5 : decode cX10_isDay 5 = .ok (.ldc 114, 2) := by decide +kernel
theorem dX10_isDay_7 : decode cX10_isDay 7 = .ok (.if_icmp .gt 7, 3) := by decide +kernel
theorem dX10_isDay_10 : decode cX10_isDay 10 = .ok (.iconst 1, 1) := by decide +kernel
theorem dX10_isDay_11 : decode cX10_isDay 11 = .ok (.goto 4, 3) := by decide +kernel
theorem dX10_isDay_14 : decode cX10_isDay 14 = .ok (.iconst 0, 1) := by decide +kernel
theorem dX10_isDay_15 : decode cX10_isDay 15 = .ok (.ireturn, 1) := by decide +kernel
theorem dX10_textOf_0 : decode cX10_textOf 0 = .ok (.iload_n 1, 1) := by decide +kernel
theorem dX10_textOf_1 : decode cX10_textOf 1 = .ok (.ifCond .ne 8, 3) := by decide +kernel
theorem dX10_textOf_4 : decode cX10_textOf 4 = .ok (.aload_n 0, 1) := by decide +kernel
theorem dX10_textOf_5 : decode cX10_textOf 5 = .ok (.getfield 65, 3) := by decide +kernel
theorem dX10_textOf_8 : decode cX10_textOf 8 = .ok (.areturn, 1) := by decide +kernel
theorem dX10_textOf_9 : decode cX10_textOf 9 = .ok (.iload_n 1, 1) := by decide +kernel
theorem dX10_textOf_10 : decode cX10_textOf 10 = .ok (.iconst 1, 1) := by decide +kernel
theorem dX10_textOf_11 : decode cX10_textOf 11 = .ok (.if_icmp .ne 10, 3) := by decide +kernel
theorem dX10_textOf_14 : decode cX10_textOf 14 = .ok (.aload_n 0, 1) := by decide +kernel
theorem dX10_textOf_15 : decode cX10_textOf 15 = .ok (.getfield 69, 3) := by decide +kernel
theorem dX10_textOf_18 : decode cX10_textOf 18 = .ok (.goto 4, 3) := by decide +kernel
theorem dX10_textOf_21 : decode cX10_textOf 21 = .ok (.aconst_null, 1) := by decide +kernel
theorem dX10_textOf_22 : decode cX10_textOf 22 = .ok (.areturn, 1) := by decide +kernel
theorem dX10_columnOf_0 : decode cX10_columnOf 0 = .ok (.iload_n 1, 1) := by decide +kernel
theorem dX10_columnOf_1 : decode cX10_columnOf 1 = .ok (.ifCond .lt 10, 3) := by decide +kernel
theorem dX10_columnOf_4 : decode cX10_columnOf 4 = .ok (.iload_n 1, 1) := by decide +kernel
theorem dX10_columnOf_5 : decode cX10_columnOf 5 = .ok (.iconst 5, 1) := by decide +kernel
theorem dX10_columnOf_6 : decode cX10_columnOf 6 = .ok (.if_icmp .gt 5, 3) := by decide +kernel
theorem dX10_columnOf_9 : decode cX10_columnOf 9 = .ok (.iload_n 1, 1) := by decide +kernel
theorem dX10_columnOf_10 : decode cX10_columnOf 10 = .ok (.ireturn, 1) := by decide +kernel
theorem dX10_columnOf_11 : decode cX10_columnOf 11 = .ok (.iload_n 1, 1) := by decide +kernel
theorem dX10_columnOf_12 : decode cX10_columnOf 12 = .ok (.bipush 10, 2) := by decide +kernel
theorem dX10_columnOf_14 : decode cX10_columnOf 14 = .ok (.if_icmp .lt 17, 3) := by decide +kernel
theorem dX10_columnOf_17 : decode cX10_columnOf 17 = .ok (.iload_n 1, 1) := by decide +kernel
theorem dX10_columnOf_18 : decode cX10_columnOf 18 = .ok (.bipush 18, 2) := by decide +kernel
theorem dX10_columnOf_20 : decode cX10_columnOf 20 = .ok (.if_icmp .ge 11, 3) := by decide +kernel
theorem dX10_columnOf_23 : decode cX10_columnOf 23 = .ok (.bipush 6, 2) := by decide +kernel
theorem dX10_columnOf_25 : decode cX10_columnOf 25 = .ok (.iload_n 1, 1) := by decide +kernel
theorem dX10_columnOf_26 : decode cX10_columnOf 26 = .ok (.bipush 10, 2) := by decide +kernel
theorem dX10_columnOf_28 : decode cX10_columnOf 28 = .ok (.isub, 1) := by decide +kernel
theorem dX10_columnOf_29 : decode cX10_columnOf 29 = .ok (.iadd, 1) := by decide +kernel
theorem dX10_columnOf_30 : decode cX10_columnOf 30 = .ok (.ireturn, 1) := by decide +kernel
theorem dX10_columnOf_31 : decode cX10_columnOf 31 = .ok (.iload_n 1, 1) := by decide +kernel
theorem dX10_columnOf_32 : decode cX10_columnOf 32 = .ok (.bipush 20, 2) := by decide +kernel
theorem dX10_columnOf_34 : decode cX10_columnOf 34 = .ok (.if_icmp .lt 22, 3) := by decide +kernel
theorem dX10_columnOf_37 : decode cX10_columnOf 37 = .ok (.iload_n 1, 1) := by decide +kernel
theorem dX10_columnOf_38 : decode cX10_columnOf 38 = .ok (.bipush 20, 2) := by decide +kernel
theorem dX10_columnOf_40 : decode cX10_columnOf 40 = .ok (.aload_n 0, 1) := by decide +kernel
theorem dX10_columnOf_41 : decode cX10_columnOf 41 = .ok (.getfield 80, 3) := by decide +kernel
theorem dX10_columnOf_44 : decode cX10_columnOf 44 = .ok (.iadd, 1) := by decide +kernel
theorem dX10_columnOf_45 : decode cX10_columnOf 45 = .ok (.if_icmp .ge 11, 3) := by decide +kernel
theorem dX10_columnOf_48 : decode cX10_columnOf 48 = .ok (.bipush 14, 2) := by decide +kernel
theorem dX10_columnOf_50 : decode cX10_columnOf 50 = .ok (.iload_n 1, 1) := by decide +kernel
theorem dX10_columnOf_51 : decode cX10_columnOf 51 = .ok (.bipush 20, 2) := by decide +kernel
theorem dX10_columnOf_53 : decode cX10_columnOf 53 = .ok (.isub, 1) := by decide +kernel
theorem dX10_columnOf_54 : decode cX10_columnOf 54 = .ok (.iadd, 1) := by decide +kernel
theorem dX10_columnOf_55 : decode cX10_columnOf 55 = .ok (.ireturn, 1) := by decide +kernel
theorem dX10_columnOf_56 : decode cX10_columnOf 56 = .ok (.iconst (-1), 1) := by decide +kernel
theorem dX10_columnOf_57 : decode cX10_columnOf 57 = .ok (.ireturn, 1) := by decide +kernel
theorem dX10_leastOf_0 : decode cX10_leastOf 0 = .ok (.iload_n 0, 1) := by decide +kernel
theorem dX10_leastOf_1 : decode cX10_leastOf 1 = .ok (.bipush 6, 2) := by decide +kernel
theorem dX10_leastOf_3 : decode cX10_leastOf 3 = .ok (.if_icmp .lt 15, 3) := by decide +kernel
theorem dX10_leastOf_6 : decode cX10_leastOf 6 = .ok (.iload_n 0, 1) := by decide +kernel
theorem dX10_leastOf_7 : decode cX10_leastOf 7 = .ok (.bipush 14, 2) := by decide +kernel
theorem dX10_leastOf_9 : decode cX10_leastOf 9 = .ok (.if_icmp .ge 9, 3) := by decide +kernel
theorem dX10_leastOf_12 : decode cX10_leastOf 12 = .ok (.sipush (-999), 3) := by decide +kernel
theorem dX10_leastOf_15 : decode cX10_leastOf 15 = .ok (.goto 4, 3) := by decide +kernel
theorem dX10_leastOf_18 : decode cX10_leastOf 18 = .ok (.iconst 0, 1) := by decide +kernel
theorem dX10_leastOf_19 : decode cX10_leastOf 19 = .ok (.ireturn, 1) := by decide +kernel
theorem dX10_mostOf_0 : decode cX10_mostOf 0 = .ok (.iload_n 0, 1) := by decide +kernel
theorem dX10_mostOf_1 : decode cX10_mostOf 1 = .ok (.iconst 3, 1) := by decide +kernel
theorem dX10_mostOf_2 : decode cX10_mostOf 2 = .ok (.if_icmp .gt 5, 3) := by decide +kernel
theorem dX10_mostOf_5 : decode cX10_mostOf 5 = .ok (.iconst 1, 1) := by decide +kernel
theorem dX10_mostOf_6 : decode cX10_mostOf 6 = .ok (.ireturn, 1) := by decide +kernel
theorem dX10_mostOf_7 : decode cX10_mostOf 7 = .ok (.iload_n 0, 1) := by decide +kernel
theorem dX10_mostOf_8 : decode cX10_mostOf 8 = .ok (.iconst 4, 1) := by decide +kernel
theorem dX10_mostOf_9 : decode cX10_mostOf 9 = .ok (.if_icmp .ne 6, 3) := by decide +kernel
theorem dX10_mostOf_12 : decode cX10_mostOf 12 = .ok (.ldc 114, 2) := by decide +kernel
theorem dX10_mostOf_14 : decode cX10_mostOf 14 = .ok (.ireturn, 1) := by decide +kernel
theorem dX10_mostOf_15 : decode cX10_mostOf 15 = .ok (.iload_n 0, 1) := by decide +kernel
theorem dX10_mostOf_16 : decode cX10_mostOf 16 = .ok (.iconst 5, 1) := by decide +kernel
theorem dX10_mostOf_17 : decode cX10_mostOf 17 = .ok (.if_icmp .ne 7, 3) := by decide +kernel
theorem dX10_mostOf_20 : decode cX10_mostOf 20 = .ok (.sipush 1000, 3) := by decide +kernel
theorem dX10_mostOf_23 : decode cX10_mostOf 23 = .ok (.ireturn, 1) := by decide +kernel
theorem dX10_mostOf_24 : decode cX10_mostOf 24 = .ok (.iload_n 0, 1) := by decide +kernel
theorem dX10_mostOf_25 : decode cX10_mostOf 25 = .ok (.bipush 14, 2) := by decide +kernel
theorem dX10_mostOf_27 : decode cX10_mostOf 27 = .ok (.if_icmp .ge 9, 3) := by decide +kernel
theorem dX10_mostOf_30 : decode cX10_mostOf 30 = .ok (.sipush 999, 3) := by decide +kernel
theorem dX10_mostOf_33 : decode cX10_mostOf 33 = .ok (.goto 5, 3) := by decide +kernel
theorem dX10_mostOf_36 : decode cX10_mostOf 36 = .ok (.bipush 9, 2) := by decide +kernel
theorem dX10_mostOf_38 : decode cX10_mostOf 38 = .ok (.ireturn, 1) := by decide +kernel
theorem dX10_prepare_0 : decode cX10_prepare 0 = .ok (.aload_n 0, 1) := by decide +kernel
theorem dX10_prepare_1 : decode cX10_prepare 1 = .ok (.getfield 10, 3) := by decide +kernel
theorem dX10_prepare_4 : decode cX10_prepare 4 = .ok (.aload_n 0, 1) := by decide +kernel
theorem dX10_prepare_5 : decode cX10_prepare 5 = .ok (.getfield 33, 3) := by decide +kernel
theorem dX10_prepare_8 : decode cX10_prepare 8 = .ok (.getfield 140, 3) := by decide +kernel
theorem dX10_prepare_11 : decode cX10_prepare 11 = .ok (.iload_n 2, 1) := by decide +kernel
theorem dX10_prepare_12 : decode cX10_prepare 12 = .ok (.invokevirtual 143, 3) := by decide +kernel
theorem dX10_prepare_15 : decode cX10_prepare 15 = .ok (.aload_n 0, 1) := by decide +kernel
theorem dX10_prepare_16 : decode cX10_prepare 16 = .ok (.getfield 40, 3) := by decide +kernel
theorem dX10_prepare_19 : decode cX10_prepare 19 = .ok (.aload_n 0, 1) := by decide +kernel
theorem dX10_prepare_20 : decode cX10_prepare 20 = .ok (.getfield 80, 3) := by decide +kernel
theorem dX10_prepare_23 : decode cX10_prepare 23 = .ok (.putfield 239, 3) := by decide +kernel
theorem dX10_prepare_26 : decode cX10_prepare 26 = .ok (.iconst 0, 1) := by decide +kernel
theorem dX10_prepare_27 : decode cX10_prepare 27 = .ok (.istore_n 3, 1) := by decide +kernel
theorem dX10_prepare_28 : decode cX10_prepare 28 = .ok (.iload_n 3, 1) := by decide +kernel
theorem dX10_prepare_29 : decode cX10_prepare 29 = .ok (.aload_n 0, 1) := by decide +kernel
theorem dX10_prepare_30 : decode cX10_prepare 30 = .ok (.getfield 80, 3) := by decide +kernel
theorem dX10_prepare_33 : decode cX10_prepare 33 = .ok (.if_icmp .ge 153, 3) := by decide +kernel
theorem dX10_prepare_36 : decode cX10_prepare 36 = .ok (.iload_n 3, 1) := by decide +kernel
theorem dX10_prepare_37 : decode cX10_prepare 37 = .ok (.bipush 12, 2) := by decide +kernel
theorem dX10_prepare_39 : decode cX10_prepare 39 = .ok (.if_icmp .ge 147, 3) := by decide +kernel
theorem dX10_prepare_42 : decode cX10_prepare 42 = .ok (.aload_n 0, 1) := by decide +kernel
theorem dX10_prepare_43 : decode cX10_prepare 43 = .ok (.getfield 54, 3) := by decide +kernel
theorem dX10_prepare_46 : decode cX10_prepare 46 = .ok (.getfield 224, 3) := by decide +kernel
theorem dX10_prepare_49 : decode cX10_prepare 49 = .ok (.iload_n 3, 1) := by decide +kernel
theorem dX10_prepare_50 : decode cX10_prepare 50 = .ok (.iaload, 1) := by decide +kernel
theorem dX10_prepare_51 : decode cX10_prepare 51 = .ok (.ifCond .le 7, 3) := by decide +kernel
theorem dX10_prepare_54 : decode cX10_prepare 54 = .ok (.iconst 1, 1) := by decide +kernel
theorem dX10_prepare_55 : decode cX10_prepare 55 = .ok (.goto 4, 3) := by decide +kernel
theorem dX10_prepare_58 : decode cX10_prepare 58 = .ok (.iconst 0, 1) := by decide +kernel
theorem dX10_prepare_59 : decode cX10_prepare 59 = .ok (.istore 4, 2) := by decide +kernel
theorem dX10_prepare_61 : decode cX10_prepare 61 = .ok (.aload_n 0, 1) := by decide +kernel
theorem dX10_prepare_62 : decode cX10_prepare 62 = .ok (.getfield 40, 3) := by decide +kernel
theorem dX10_prepare_65 : decode cX10_prepare 65 = .ok (.getfield 240, 3) := by decide +kernel
theorem dX10_prepare_68 : decode cX10_prepare 68 = .ok (.iload_n 3, 1) := by decide +kernel
theorem dX10_prepare_69 : decode cX10_prepare 69 = .ok (.aload_n 0, 1) := by decide +kernel
theorem dX10_prepare_70 : decode cX10_prepare 70 = .ok (.getfield 33, 3) := by decide +kernel
theorem dX10_prepare_73 : decode cX10_prepare 73 = .ok (.iload_n 3, 1) := by decide +kernel
theorem dX10_prepare_74 : decode cX10_prepare 74 = .ok (.iconst 2, 1) := by decide +kernel
theorem dX10_prepare_75 : decode cX10_prepare 75 = .ok (.invokevirtual 210, 3) := by decide +kernel
theorem dX10_prepare_78 : decode cX10_prepare 78 = .ok (.iconst 1, 1) := by decide +kernel
theorem dX10_prepare_79 : decode cX10_prepare 79 = .ok (.if_icmp .eq 8, 3) := by decide +kernel
theorem dX10_prepare_82 : decode cX10_prepare 82 = .ok (.iload 4, 2) := by decide +kernel
theorem dX10_prepare_84 : decode cX10_prepare 84 = .ok (.ifCond .eq 7, 3) := by decide +kernel
theorem dX10_prepare_87 : decode cX10_prepare 87 = .ok (.iconst 1, 1) := by decide +kernel
theorem dX10_prepare_88 : decode cX10_prepare 88 = .ok (.goto 4, 3) := by decide +kernel
theorem dX10_prepare_91 : decode cX10_prepare 91 = .ok (.iconst 0, 1) := by decide +kernel
theorem dX10_prepare_92 : decode cX10_prepare 92 = .ok (.bastore, 1) := by decide +kernel
theorem dX10_prepare_93 : decode cX10_prepare 93 = .ok (.aload_n 0, 1) := by decide +kernel
theorem dX10_prepare_94 : decode cX10_prepare 94 = .ok (.getfield 40, 3) := by decide +kernel
theorem dX10_prepare_97 : decode cX10_prepare 97 = .ok (.getfield 243, 3) := by decide +kernel
theorem dX10_prepare_100 : decode cX10_prepare 100 = .ok (.iload_n 3, 1) := by decide +kernel
theorem dX10_prepare_101 : decode cX10_prepare 101 = .ok (.aload_n 0, 1) := by decide +kernel
theorem dX10_prepare_102 : decode cX10_prepare 102 = .ok (.getfield 33, 3) := by decide +kernel
theorem dX10_prepare_105 : decode cX10_prepare 105 = .ok (.iload_n 3, 1) := by decide +kernel
theorem dX10_prepare_106 : decode cX10_prepare 106 = .ok (.iconst 3, 1) := by decide +kernel
theorem dX10_prepare_107 : decode cX10_prepare 107 = .ok (.invokevirtual 210, 3) := by decide +kernel
theorem dX10_prepare_110 : decode cX10_prepare 110 = .ok (.iconst 1, 1) := by decide +kernel
theorem dX10_prepare_111 : decode cX10_prepare 111 = .ok (.if_icmp .ne 12, 3) := by decide +kernel
theorem dX10_prepare_114 : decode cX10_prepare 114 = .ok (.iload 4, 2) := by decide +kernel
theorem dX10_prepare_116 : decode cX10_prepare 116 = .ok (.ifCond .ne 7, 3) := by decide +kernel
theorem dX10_prepare_119 : decode cX10_prepare 119 = .ok (.iconst 1, 1) := by decide +kernel
theorem dX10_prepare_120 : decode cX10_prepare 120 = .ok (.goto 4, 3) := by decide +kernel
theorem dX10_prepare_123 : decode cX10_prepare 123 = .ok (.iconst 0, 1) := by decide +kernel
theorem dX10_prepare_124 : decode cX10_prepare 124 = .ok (.bastore, 1) := by decide +kernel
theorem dX10_prepare_125 : decode cX10_prepare 125 = .ok (.iconst 0, 1) := by decide +kernel
theorem dX10_prepare_126 : decode cX10_prepare 126 = .ok (.istore 5, 2) := by decide +kernel
theorem dX10_prepare_128 : decode cX10_prepare 128 = .ok (.iload 5, 2) := by decide +kernel
theorem dX10_prepare_130 : decode cX10_prepare 130 = .ok (.aload_n 0, 1) := by decide +kernel
theorem dX10_prepare_131 : decode cX10_prepare 131 = .ok (.getfield 80, 3) := by decide +kernel
theorem dX10_prepare_134 : decode cX10_prepare 134 = .ok (.if_icmp .ge 46, 3) := by decide +kernel
theorem dX10_prepare_137 : decode cX10_prepare 137 = .ok (.iload 5, 2) := by decide +kernel
theorem dX10_prepare_139 : decode cX10_prepare 139 = .ok (.bipush 12, 2) := by decide +kernel
theorem dX10_prepare_141 : decode cX10_prepare 141 = .ok (.if_icmp .ge 39, 3) := by decide +kernel
theorem dX10_prepare_144 : decode cX10_prepare 144 = .ok (.aload_n 0, 1) := by decide +kernel
theorem dX10_prepare_145 : decode cX10_prepare 145 = .ok (.getfield 40, 3) := by decide +kernel
theorem dX10_prepare_148 : decode cX10_prepare 148 = .ok (.getfield 246, 3) := by decide +kernel
theorem dX10_prepare_151 : decode cX10_prepare 151 = .ok (.iload_n 3, 1) := by decide +kernel
theorem dX10_prepare_152 : decode cX10_prepare 152 = .ok (.bipush 12, 2) := by decide +kernel
theorem dX10_prepare_154 : decode cX10_prepare 154 = .ok (.imul, 1) := by decide +kernel
theorem dX10_prepare_155 : decode cX10_prepare 155 = .ok (.iload 5, 2) := by decide +kernel
theorem dX10_prepare_157 : decode cX10_prepare 157 = .ok (.iadd, 1) := by decide +kernel
theorem dX10_prepare_158 : decode cX10_prepare 158 = .ok (.aload_n 0, 1) := by decide +kernel
theorem dX10_prepare_159 : decode cX10_prepare 159 = .ok (.getfield 33, 3) := by decide +kernel
theorem dX10_prepare_162 : decode cX10_prepare 162 = .ok (.aload_n 1, 1) := by decide +kernel
theorem dX10_prepare_163 : decode cX10_prepare 163 = .ok (.aload_n 0, 1) := by decide +kernel
theorem dX10_prepare_164 : decode cX10_prepare 164 = .ok (.getfield 86, 3) := by decide +kernel
theorem dX10_prepare_167 : decode cX10_prepare 167 = .ok (.iload_n 3, 1) := by decide +kernel
theorem dX10_prepare_168 : decode cX10_prepare 168 = .ok (.iload 5, 2) := by decide +kernel
theorem dX10_prepare_170 : decode cX10_prepare 170 = .ok (.invokevirtual 151, 3) := by decide +kernel
theorem dX10_prepare_173 : decode cX10_prepare 173 = .ok (.iastore, 1) := by decide +kernel
theorem dX10_prepare_174 : decode cX10_prepare 174 = .ok (.iinc 5 1, 3) := by decide +kernel
theorem dX10_prepare_177 : decode cX10_prepare 177 = .ok (.goto (-49), 3) := by decide +kernel
theorem dX10_prepare_180 : decode cX10_prepare 180 = .ok (.iinc 3 1, 3) := by decide +kernel
theorem dX10_prepare_183 : decode cX10_prepare 183 = .ok (.goto (-155), 3) := by decide +kernel
theorem dX10_prepare_186 : decode cX10_prepare 186 = .ok (.return_, 1) := by decide +kernel
theorem dX10_goingIn_0 : decode cX10_goingIn 0 = .ok (.iconst 0, 1) := by decide +kernel
theorem dX10_goingIn_1 : decode cX10_goingIn 1 = .ok (.istore_n 1, 1) := by decide +kernel
theorem dX10_goingIn_2 : decode cX10_goingIn 2 = .ok (.iconst 0, 1) := by decide +kernel
theorem dX10_goingIn_3 : decode cX10_goingIn 3 = .ok (.istore_n 2, 1) := by decide +kernel
theorem dX10_goingIn_4 : decode cX10_goingIn 4 = .ok (.iload_n 2, 1) := by decide +kernel
theorem dX10_goingIn_5 : decode cX10_goingIn 5 = .ok (.aload_n 0, 1) := by decide +kernel
theorem dX10_goingIn_6 : decode cX10_goingIn 6 = .ok (.arraylength, 1) := by decide +kernel
theorem dX10_goingIn_7 : decode cX10_goingIn 7 = .ok (.if_icmp .ge 19, 3) := by decide +kernel
theorem dX10_goingIn_10 : decode cX10_goingIn 10 = .ok (.aload_n 0, 1) := by decide +kernel
theorem dX10_goingIn_11 : decode cX10_goingIn 11 = .ok (.iload_n 2, 1) := by decide +kernel
theorem dX10_goingIn_12 : decode cX10_goingIn 12 = .ok (.iaload, 1) := by decide +kernel
theorem dX10_goingIn_13 : decode cX10_goingIn 13 = .ok (.iconst (-1), 1) := by decide +kernel
theorem dX10_goingIn_14 : decode cX10_goingIn 14 = .ok (.if_icmp .eq 6, 3) := by decide +kernel
theorem dX10_goingIn_17 : decode cX10_goingIn 17 = .ok (.iinc 1 1, 3) := by decide +kernel
theorem dX10_goingIn_20 : decode cX10_goingIn 20 = .ok (.iinc 2 1, 3) := by decide +kernel
theorem dX10_goingIn_23 : decode cX10_goingIn 23 = .ok (.goto (-19), 3) := by decide +kernel
theorem dX10_goingIn_26 : decode cX10_goingIn 26 = .ok (.iload_n 1, 1) := by decide +kernel
theorem dX10_goingIn_27 : decode cX10_goingIn 27 = .ok (.ireturn, 1) := by decide +kernel
theorem dX10_guestIn_0 : decode cX10_guestIn 0 = .ok (.iconst 0, 1) := by decide +kernel
theorem dX10_guestIn_1 : decode cX10_guestIn 1 = .ok (.istore_n 2, 1) := by decide +kernel
theorem dX10_guestIn_2 : decode cX10_guestIn 2 = .ok (.iload_n 2, 1) := by decide +kernel
theorem dX10_guestIn_3 : decode cX10_guestIn 3 = .ok (.aload_n 0, 1) := by decide +kernel
theorem dX10_guestIn_4 : decode cX10_guestIn 4 = .ok (.arraylength, 1) := by decide +kernel
theorem dX10_guestIn_5 : decode cX10_guestIn 5 = .ok (.if_icmp .ge 18, 3) := by decide +kernel
theorem dX10_guestIn_8 : decode cX10_guestIn 8 = .ok (.aload_n 0, 1) := by decide +kernel
theorem dX10_guestIn_9 : decode cX10_guestIn 9 = .ok (.iload_n 2, 1) := by decide +kernel
theorem dX10_guestIn_10 : decode cX10_guestIn 10 = .ok (.iaload, 1) := by decide +kernel
theorem dX10_guestIn_11 : decode cX10_guestIn 11 = .ok (.iload_n 1, 1) := by decide +kernel
theorem dX10_guestIn_12 : decode cX10_guestIn 12 = .ok (.if_icmp .ne 5, 3) := by decide +kernel
theorem dX10_guestIn_15 : decode cX10_guestIn 15 = .ok (.iload_n 2, 1) := by decide +kernel
theorem dX10_guestIn_16 : decode cX10_guestIn 16 = .ok (.ireturn, 1) := by decide +kernel
theorem dX10_guestIn_17 : decode cX10_guestIn 17 = .ok (.iinc 2 1, 3) := by decide +kernel
theorem dX10_guestIn_20 : decode cX10_guestIn 20 = .ok (.goto (-18), 3) := by decide +kernel
theorem dX10_guestIn_23 : decode cX10_guestIn 23 = .ok (.iconst (-1), 1) := by decide +kernel
theorem dX10_guestIn_24 : decode cX10_guestIn 24 = .ok (.ireturn, 1) := by decide +kernel
theorem dL_law_0 : decode cL_law 0 = .ok (.new 7, 3) := by decide +kernel
theorem dL_law_3 : decode cL_law 3 = .ok (.dup, 1) := by decide +kernel
theorem dL_law_4 : decode cL_law 4 = .ok (.invokespecial 9, 3) := by decide +kernel
theorem dL_law_7 : decode cL_law 7 = .ok (.astore_n 1, 1) := by decide +kernel
theorem dL_law_8 : decode cL_law 8 = .ok (.new 10, 3) := by decide +kernel
theorem dL_law_11 : decode cL_law 11 = .ok (.dup, 1) := by decide +kernel
theorem dL_law_12 : decode cL_law 12 = .ok (.invokespecial 12, 3) := by decide +kernel
theorem dL_law_15 : decode cL_law 15 = .ok (.astore_n 2, 1) := by decide +kernel
theorem dL_law_16 : decode cL_law 16 = .ok (.iconst 0, 1) := by decide +kernel
theorem dL_law_17 : decode cL_law 17 = .ok (.istore_n 3, 1) := by decide +kernel
theorem dL_law_18 : decode cL_law 18 = .ok (.iload_n 3, 1) := by decide +kernel
theorem dL_law_19 : decode cL_law 19 = .ok (.aload_n 0, 1) := by decide +kernel
theorem dL_law_20 : decode cL_law 20 = .ok (.arraylength, 1) := by decide +kernel
theorem dL_law_21 : decode cL_law 21 = .ok (.bipush 6, 2) := by decide +kernel
theorem dL_law_23 : decode cL_law 23 = .ok (.isub, 1) := by decide +kernel
theorem dL_law_24 : decode cL_law 24 = .ok (.if_icmp .gt 717, 3) := by decide +kernel
theorem dL_law_27 : decode cL_law 27 = .ok (.aload_n 0, 1) := by decide +kernel
theorem dL_law_28 : decode cL_law 28 = .ok (.iload_n 3, 1) := by decide +kernel
theorem dL_law_29 : decode cL_law 29 = .ok (.iaload, 1) := by decide +kernel
theorem dL_law_30 : decode cL_law 30 = .ok (.bipush 31, 2) := by decide +kernel
theorem dL_law_32 : decode cL_law 32 = .ok (.iand, 1) := by decide +kernel
theorem dL_law_33 : decode cL_law 33 = .ok (.tableswitch 702 0 20 #[99, 162, 185, 208, 221, 234, 257, 280, 323, 366, 419, 472, 505, 528, 541, 554, 577, 600, 613, 646, 679], 99) := by decide +kernel
theorem dL_law_132 : decode cL_law 132 = .ok (.aload_n 1, 1) := by decide +kernel
theorem dL_law_133 : decode cL_law 133 = .ok (.aload_n 0, 1) := by decide +kernel
theorem dL_law_134 : decode cL_law 134 = .ok (.iload_n 3, 1) := by decide +kernel
theorem dL_law_135 : decode cL_law 135 = .ok (.iconst 1, 1) := by decide +kernel
theorem dL_law_136 : decode cL_law 136 = .ok (.iadd, 1) := by decide +kernel
theorem dL_law_137 : decode cL_law 137 = .ok (.iaload, 1) := by decide +kernel
theorem dL_law_138 : decode cL_law 138 = .ok (.aload_n 0, 1) := by decide +kernel
theorem dL_law_139 : decode cL_law 139 = .ok (.iload_n 3, 1) := by decide +kernel
theorem dL_law_140 : decode cL_law 140 = .ok (.iconst 2, 1) := by decide +kernel
theorem dL_law_141 : decode cL_law 141 = .ok (.iadd, 1) := by decide +kernel
theorem dL_law_142 : decode cL_law 142 = .ok (.iaload, 1) := by decide +kernel
theorem dL_law_143 : decode cL_law 143 = .ok (.aload_n 0, 1) := by decide +kernel
theorem dL_law_144 : decode cL_law 144 = .ok (.iload_n 3, 1) := by decide +kernel
theorem dL_law_145 : decode cL_law 145 = .ok (.iconst 3, 1) := by decide +kernel
theorem dL_law_146 : decode cL_law 146 = .ok (.iadd, 1) := by decide +kernel
theorem dL_law_147 : decode cL_law 147 = .ok (.iaload, 1) := by decide +kernel
theorem dL_law_148 : decode cL_law 148 = .ok (.aload_n 0, 1) := by decide +kernel
theorem dL_law_149 : decode cL_law 149 = .ok (.iload_n 3, 1) := by decide +kernel
theorem dL_law_150 : decode cL_law 150 = .ok (.iconst 4, 1) := by decide +kernel
theorem dL_law_151 : decode cL_law 151 = .ok (.iadd, 1) := by decide +kernel
theorem dL_law_152 : decode cL_law 152 = .ok (.iaload, 1) := by decide +kernel
theorem dL_law_153 : decode cL_law 153 = .ok (.aload_n 0, 1) := by decide +kernel
theorem dL_law_154 : decode cL_law 154 = .ok (.iload_n 3, 1) := by decide +kernel
theorem dL_law_155 : decode cL_law 155 = .ok (.iconst 5, 1) := by decide +kernel
theorem dL_law_156 : decode cL_law 156 = .ok (.iadd, 1) := by decide +kernel
theorem dL_law_157 : decode cL_law 157 = .ok (.iaload, 1) := by decide +kernel
theorem dL_law_158 : decode cL_law 158 = .ok (.invokevirtual 13, 3) := by decide +kernel
theorem dL_law_161 : decode cL_law 161 = .ok (.aload_n 2, 1) := by decide +kernel
theorem dL_law_162 : decode cL_law 162 = .ok (.aload_n 0, 1) := by decide +kernel
theorem dL_law_163 : decode cL_law 163 = .ok (.iload_n 3, 1) := by decide +kernel
theorem dL_law_164 : decode cL_law 164 = .ok (.iconst 1, 1) := by decide +kernel
theorem dL_law_165 : decode cL_law 165 = .ok (.iadd, 1) := by decide +kernel
theorem dL_law_166 : decode cL_law 166 = .ok (.iaload, 1) := by decide +kernel
theorem dL_law_167 : decode cL_law 167 = .ok (.aload_n 0, 1) := by decide +kernel
theorem dL_law_168 : decode cL_law 168 = .ok (.iload_n 3, 1) := by decide +kernel
theorem dL_law_169 : decode cL_law 169 = .ok (.iconst 2, 1) := by decide +kernel
theorem dL_law_170 : decode cL_law 170 = .ok (.iadd, 1) := by decide +kernel
theorem dL_law_171 : decode cL_law 171 = .ok (.iaload, 1) := by decide +kernel
theorem dL_law_172 : decode cL_law 172 = .ok (.aload_n 0, 1) := by decide +kernel
theorem dL_law_173 : decode cL_law 173 = .ok (.iload_n 3, 1) := by decide +kernel
theorem dL_law_174 : decode cL_law 174 = .ok (.iconst 3, 1) := by decide +kernel
theorem dL_law_175 : decode cL_law 175 = .ok (.iadd, 1) := by decide +kernel
theorem dL_law_176 : decode cL_law 176 = .ok (.iaload, 1) := by decide +kernel
theorem dL_law_177 : decode cL_law 177 = .ok (.aload_n 0, 1) := by decide +kernel
theorem dL_law_178 : decode cL_law 178 = .ok (.iload_n 3, 1) := by decide +kernel
theorem dL_law_179 : decode cL_law 179 = .ok (.iconst 4, 1) := by decide +kernel
theorem dL_law_180 : decode cL_law 180 = .ok (.iadd, 1) := by decide +kernel
theorem dL_law_181 : decode cL_law 181 = .ok (.iaload, 1) := by decide +kernel
theorem dL_law_182 : decode cL_law 182 = .ok (.aload_n 0, 1) := by decide +kernel
theorem dL_law_183 : decode cL_law 183 = .ok (.iload_n 3, 1) := by decide +kernel
theorem dL_law_184 : decode cL_law 184 = .ok (.iconst 5, 1) := by decide +kernel
theorem dL_law_185 : decode cL_law 185 = .ok (.iadd, 1) := by decide +kernel
theorem dL_law_186 : decode cL_law 186 = .ok (.iaload, 1) := by decide +kernel
theorem dL_law_187 : decode cL_law 187 = .ok (.invokevirtual 17, 3) := by decide +kernel
theorem dL_law_190 : decode cL_law 190 = .ok (.if_icmp .eq 545, 3) := by decide +kernel
theorem dL_law_193 : decode cL_law 193 = .ok (.iconst 0, 1) := by decide +kernel
theorem dL_law_194 : decode cL_law 194 = .ok (.ireturn, 1) := by decide +kernel
theorem dL_law_195 : decode cL_law 195 = .ok (.aload_n 1, 1) := by decide +kernel
theorem dL_law_196 : decode cL_law 196 = .ok (.aload_n 0, 1) := by decide +kernel
theorem dL_law_197 : decode cL_law 197 = .ok (.iload_n 3, 1) := by decide +kernel
theorem dL_law_198 : decode cL_law 198 = .ok (.iconst 1, 1) := by decide +kernel
theorem dL_law_199 : decode cL_law 199 = .ok (.iadd, 1) := by decide +kernel
theorem dL_law_200 : decode cL_law 200 = .ok (.iaload, 1) := by decide +kernel
theorem dL_law_201 : decode cL_law 201 = .ok (.invokevirtual 18, 3) := by decide +kernel
theorem dL_law_204 : decode cL_law 204 = .ok (.aload_n 2, 1) := by decide +kernel
theorem dL_law_205 : decode cL_law 205 = .ok (.aload_n 0, 1) := by decide +kernel
theorem dL_law_206 : decode cL_law 206 = .ok (.iload_n 3, 1) := by decide +kernel
theorem dL_law_207 : decode cL_law 207 = .ok (.iconst 1, 1) := by decide +kernel
theorem dL_law_208 : decode cL_law 208 = .ok (.iadd, 1) := by decide +kernel
theorem dL_law_209 : decode cL_law 209 = .ok (.iaload, 1) := by decide +kernel
theorem dL_law_210 : decode cL_law 210 = .ok (.invokevirtual 22, 3) := by decide +kernel
theorem dL_law_213 : decode cL_law 213 = .ok (.if_icmp .eq 522, 3) := by decide +kernel
theorem dL_law_216 : decode cL_law 216 = .ok (.iconst 0, 1) := by decide +kernel
theorem dL_law_217 : decode cL_law 217 = .ok (.ireturn, 1) := by decide +kernel
theorem dL_law_218 : decode cL_law 218 = .ok (.aload_n 1, 1) := by decide +kernel
theorem dL_law_219 : decode cL_law 219 = .ok (.aload_n 0, 1) := by decide +kernel
theorem dL_law_220 : decode cL_law 220 = .ok (.iload_n 3, 1) := by decide +kernel
theorem dL_law_221 : decode cL_law 221 = .ok (.iconst 1, 1) := by decide +kernel
theorem dL_law_222 : decode cL_law 222 = .ok (.iadd, 1) := by decide +kernel
theorem dL_law_223 : decode cL_law 223 = .ok (.iaload, 1) := by decide +kernel
theorem dL_law_224 : decode cL_law 224 = .ok (.invokevirtual 23, 3) := by decide +kernel
theorem dL_law_227 : decode cL_law 227 = .ok (.aload_n 2, 1) := by decide +kernel
theorem dL_law_228 : decode cL_law 228 = .ok (.aload_n 0, 1) := by decide +kernel
theorem dL_law_229 : decode cL_law 229 = .ok (.iload_n 3, 1) := by decide +kernel
theorem dL_law_230 : decode cL_law 230 = .ok (.iconst 1, 1) := by decide +kernel
theorem dL_law_231 : decode cL_law 231 = .ok (.iadd, 1) := by decide +kernel
theorem dL_law_232 : decode cL_law 232 = .ok (.iaload, 1) := by decide +kernel
theorem dL_law_233 : decode cL_law 233 = .ok (.invokevirtual 26, 3) := by decide +kernel
theorem dL_law_236 : decode cL_law 236 = .ok (.if_icmp .eq 499, 3) := by decide +kernel
theorem dL_law_239 : decode cL_law 239 = .ok (.iconst 0, 1) := by decide +kernel
theorem dL_law_240 : decode cL_law 240 = .ok (.ireturn, 1) := by decide +kernel
theorem dL_law_241 : decode cL_law 241 = .ok (.aload_n 1, 1) := by decide +kernel
theorem dL_law_242 : decode cL_law 242 = .ok (.invokevirtual 27, 3) := by decide +kernel
theorem dL_law_245 : decode cL_law 245 = .ok (.aload_n 2, 1) := by decide +kernel
theorem dL_law_246 : decode cL_law 246 = .ok (.invokevirtual 31, 3) := by decide +kernel
theorem dL_law_249 : decode cL_law 249 = .ok (.if_icmp .eq 486, 3) := by decide +kernel
theorem dL_law_252 : decode cL_law 252 = .ok (.iconst 0, 1) := by decide +kernel
theorem dL_law_253 : decode cL_law 253 = .ok (.ireturn, 1) := by decide +kernel
theorem dL_law_254 : decode cL_law 254 = .ok (.aload_n 1, 1) := by decide +kernel
theorem dL_law_255 : decode cL_law 255 = .ok (.invokevirtual 32, 3) := by decide +kernel
theorem dL_law_258 : decode cL_law 258 = .ok (.aload_n 2, 1) := by decide +kernel
theorem dL_law_259 : decode cL_law 259 = .ok (.invokevirtual 35, 3) := by decide +kernel
theorem dL_law_262 : decode cL_law 262 = .ok (.if_icmp .eq 473, 3) := by decide +kernel
theorem dL_law_265 : decode cL_law 265 = .ok (.iconst 0, 1) := by decide +kernel
theorem dL_law_266 : decode cL_law 266 = .ok (.ireturn, 1) := by decide +kernel
theorem dL_law_267 : decode cL_law 267 = .ok (.aload_n 1, 1) := by decide +kernel
theorem dL_law_268 : decode cL_law 268 = .ok (.aload_n 0, 1) := by decide +kernel
theorem dL_law_269 : decode cL_law 269 = .ok (.iload_n 3, 1) := by decide +kernel
theorem dL_law_270 : decode cL_law 270 = .ok (.iconst 1, 1) := by decide +kernel
theorem dL_law_271 : decode cL_law 271 = .ok (.iadd, 1) := by decide +kernel
theorem dL_law_272 : decode cL_law 272 = .ok (.iaload, 1) := by decide +kernel
theorem dL_law_273 : decode cL_law 273 = .ok (.invokevirtual 36, 3) := by decide +kernel
theorem dL_law_276 : decode cL_law 276 = .ok (.aload_n 2, 1) := by decide +kernel
theorem dL_law_277 : decode cL_law 277 = .ok (.aload_n 0, 1) := by decide +kernel
theorem dL_law_278 : decode cL_law 278 = .ok (.iload_n 3, 1) := by decide +kernel
theorem dL_law_279 : decode cL_law 279 = .ok (.iconst 1, 1) := by decide +kernel
theorem dL_law_280 : decode cL_law 280 = .ok (.iadd, 1) := by decide +kernel
theorem dL_law_281 : decode cL_law 281 = .ok (.iaload, 1) := by decide +kernel
theorem dL_law_282 : decode cL_law 282 = .ok (.invokevirtual 40, 3) := by decide +kernel
theorem dL_law_285 : decode cL_law 285 = .ok (.if_icmp .eq 450, 3) := by decide +kernel
theorem dL_law_288 : decode cL_law 288 = .ok (.iconst 0, 1) := by decide +kernel
theorem dL_law_289 : decode cL_law 289 = .ok (.ireturn, 1) := by decide +kernel
theorem dL_law_290 : decode cL_law 290 = .ok (.aload_n 1, 1) := by decide +kernel
theorem dL_law_291 : decode cL_law 291 = .ok (.aload_n 0, 1) := by decide +kernel
theorem dL_law_292 : decode cL_law 292 = .ok (.iload_n 3, 1) := by decide +kernel
theorem dL_law_293 : decode cL_law 293 = .ok (.iconst 1, 1) := by decide +kernel
theorem dL_law_294 : decode cL_law 294 = .ok (.iadd, 1) := by decide +kernel
theorem dL_law_295 : decode cL_law 295 = .ok (.iaload, 1) := by decide +kernel
theorem dL_law_296 : decode cL_law 296 = .ok (.invokevirtual 41, 3) := by decide +kernel
theorem dL_law_299 : decode cL_law 299 = .ok (.aload_n 2, 1) := by decide +kernel
theorem dL_law_300 : decode cL_law 300 = .ok (.aload_n 0, 1) := by decide +kernel
theorem dL_law_301 : decode cL_law 301 = .ok (.iload_n 3, 1) := by decide +kernel
theorem dL_law_302 : decode cL_law 302 = .ok (.iconst 1, 1) := by decide +kernel
theorem dL_law_303 : decode cL_law 303 = .ok (.iadd, 1) := by decide +kernel
theorem dL_law_304 : decode cL_law 304 = .ok (.iaload, 1) := by decide +kernel
theorem dL_law_305 : decode cL_law 305 = .ok (.invokevirtual 44, 3) := by decide +kernel
theorem dL_law_308 : decode cL_law 308 = .ok (.if_icmp .eq 427, 3) := by decide +kernel
theorem dL_law_311 : decode cL_law 311 = .ok (.iconst 0, 1) := by decide +kernel
theorem dL_law_312 : decode cL_law 312 = .ok (.ireturn, 1) := by decide +kernel
theorem dL_law_313 : decode cL_law 313 = .ok (.aload_n 1, 1) := by decide +kernel
theorem dL_law_314 : decode cL_law 314 = .ok (.aload_n 0, 1) := by decide +kernel
theorem dL_law_315 : decode cL_law 315 = .ok (.iload_n 3, 1) := by decide +kernel
theorem dL_law_316 : decode cL_law 316 = .ok (.iconst 1, 1) := by decide +kernel
theorem dL_law_317 : decode cL_law 317 = .ok (.iadd, 1) := by decide +kernel
theorem dL_law_318 : decode cL_law 318 = .ok (.iaload, 1) := by decide +kernel
theorem dL_law_319 : decode cL_law 319 = .ok (.aload_n 0, 1) := by decide +kernel
theorem dL_law_320 : decode cL_law 320 = .ok (.iload_n 3, 1) := by decide +kernel
theorem dL_law_321 : decode cL_law 321 = .ok (.iconst 2, 1) := by decide +kernel
theorem dL_law_322 : decode cL_law 322 = .ok (.iadd, 1) := by decide +kernel
theorem dL_law_323 : decode cL_law 323 = .ok (.iaload, 1) := by decide +kernel
theorem dL_law_324 : decode cL_law 324 = .ok (.aload_n 0, 1) := by decide +kernel
theorem dL_law_325 : decode cL_law 325 = .ok (.iload_n 3, 1) := by decide +kernel
theorem dL_law_326 : decode cL_law 326 = .ok (.iconst 3, 1) := by decide +kernel
theorem dL_law_327 : decode cL_law 327 = .ok (.iadd, 1) := by decide +kernel
theorem dL_law_328 : decode cL_law 328 = .ok (.iaload, 1) := by decide +kernel
theorem dL_law_329 : decode cL_law 329 = .ok (.invokevirtual 45, 3) := by decide +kernel
theorem dL_law_332 : decode cL_law 332 = .ok (.aload_n 2, 1) := by decide +kernel
theorem dL_law_333 : decode cL_law 333 = .ok (.aload_n 0, 1) := by decide +kernel
theorem dL_law_334 : decode cL_law 334 = .ok (.iload_n 3, 1) := by decide +kernel
theorem dL_law_335 : decode cL_law 335 = .ok (.iconst 1, 1) := by decide +kernel
theorem dL_law_336 : decode cL_law 336 = .ok (.iadd, 1) := by decide +kernel
theorem dL_law_337 : decode cL_law 337 = .ok (.iaload, 1) := by decide +kernel
theorem dL_law_338 : decode cL_law 338 = .ok (.aload_n 0, 1) := by decide +kernel
theorem dL_law_339 : decode cL_law 339 = .ok (.iload_n 3, 1) := by decide +kernel
theorem dL_law_340 : decode cL_law 340 = .ok (.iconst 2, 1) := by decide +kernel
theorem dL_law_341 : decode cL_law 341 = .ok (.iadd, 1) := by decide +kernel
theorem dL_law_342 : decode cL_law 342 = .ok (.iaload, 1) := by decide +kernel
theorem dL_law_343 : decode cL_law 343 = .ok (.aload_n 0, 1) := by decide +kernel
theorem dL_law_344 : decode cL_law 344 = .ok (.iload_n 3, 1) := by decide +kernel
theorem dL_law_345 : decode cL_law 345 = .ok (.iconst 3, 1) := by decide +kernel
theorem dL_law_346 : decode cL_law 346 = .ok (.iadd, 1) := by decide +kernel
theorem dL_law_347 : decode cL_law 347 = .ok (.iaload, 1) := by decide +kernel
theorem dL_law_348 : decode cL_law 348 = .ok (.invokevirtual 49, 3) := by decide +kernel
theorem dL_law_351 : decode cL_law 351 = .ok (.if_icmp .eq 384, 3) := by decide +kernel
theorem dL_law_354 : decode cL_law 354 = .ok (.iconst 0, 1) := by decide +kernel
theorem dL_law_355 : decode cL_law 355 = .ok (.ireturn, 1) := by decide +kernel
theorem dL_law_356 : decode cL_law 356 = .ok (.aload_n 1, 1) := by decide +kernel
theorem dL_law_357 : decode cL_law 357 = .ok (.aload_n 0, 1) := by decide +kernel
theorem dL_law_358 : decode cL_law 358 = .ok (.iload_n 3, 1) := by decide +kernel
theorem dL_law_359 : decode cL_law 359 = .ok (.iconst 1, 1) := by decide +kernel
theorem dL_law_360 : decode cL_law 360 = .ok (.iadd, 1) := by decide +kernel
theorem dL_law_361 : decode cL_law 361 = .ok (.iaload, 1) := by decide +kernel
theorem dL_law_362 : decode cL_law 362 = .ok (.aload_n 0, 1) := by decide +kernel
theorem dL_law_363 : decode cL_law 363 = .ok (.iload_n 3, 1) := by decide +kernel
theorem dL_law_364 : decode cL_law 364 = .ok (.iconst 2, 1) := by decide +kernel
theorem dL_law_365 : decode cL_law 365 = .ok (.iadd, 1) := by decide +kernel
theorem dL_law_366 : decode cL_law 366 = .ok (.iaload, 1) := by decide +kernel
theorem dL_law_367 : decode cL_law 367 = .ok (.aload_n 0, 1) := by decide +kernel
theorem dL_law_368 : decode cL_law 368 = .ok (.iload_n 3, 1) := by decide +kernel
theorem dL_law_369 : decode cL_law 369 = .ok (.iconst 3, 1) := by decide +kernel
theorem dL_law_370 : decode cL_law 370 = .ok (.iadd, 1) := by decide +kernel
theorem dL_law_371 : decode cL_law 371 = .ok (.iaload, 1) := by decide +kernel
theorem dL_law_372 : decode cL_law 372 = .ok (.invokevirtual 50, 3) := by decide +kernel
theorem dL_law_375 : decode cL_law 375 = .ok (.aload_n 2, 1) := by decide +kernel
theorem dL_law_376 : decode cL_law 376 = .ok (.aload_n 0, 1) := by decide +kernel
theorem dL_law_377 : decode cL_law 377 = .ok (.iload_n 3, 1) := by decide +kernel
theorem dL_law_378 : decode cL_law 378 = .ok (.iconst 1, 1) := by decide +kernel
theorem dL_law_379 : decode cL_law 379 = .ok (.iadd, 1) := by decide +kernel
theorem dL_law_380 : decode cL_law 380 = .ok (.iaload, 1) := by decide +kernel
theorem dL_law_381 : decode cL_law 381 = .ok (.aload_n 0, 1) := by decide +kernel
theorem dL_law_382 : decode cL_law 382 = .ok (.iload_n 3, 1) := by decide +kernel
theorem dL_law_383 : decode cL_law 383 = .ok (.iconst 2, 1) := by decide +kernel
theorem dL_law_384 : decode cL_law 384 = .ok (.iadd, 1) := by decide +kernel
theorem dL_law_385 : decode cL_law 385 = .ok (.iaload, 1) := by decide +kernel
theorem dL_law_386 : decode cL_law 386 = .ok (.aload_n 0, 1) := by decide +kernel
theorem dL_law_387 : decode cL_law 387 = .ok (.iload_n 3, 1) := by decide +kernel
theorem dL_law_388 : decode cL_law 388 = .ok (.iconst 3, 1) := by decide +kernel
theorem dL_law_389 : decode cL_law 389 = .ok (.iadd, 1) := by decide +kernel
theorem dL_law_390 : decode cL_law 390 = .ok (.iaload, 1) := by decide +kernel
theorem dL_law_391 : decode cL_law 391 = .ok (.invokevirtual 53, 3) := by decide +kernel
theorem dL_law_394 : decode cL_law 394 = .ok (.if_icmp .eq 341, 3) := by decide +kernel
theorem dL_law_397 : decode cL_law 397 = .ok (.iconst 0, 1) := by decide +kernel
theorem dL_law_398 : decode cL_law 398 = .ok (.ireturn, 1) := by decide +kernel
theorem dL_law_399 : decode cL_law 399 = .ok (.aload_n 1, 1) := by decide +kernel
theorem dL_law_400 : decode cL_law 400 = .ok (.aload_n 0, 1) := by decide +kernel
theorem dL_law_401 : decode cL_law 401 = .ok (.iload_n 3, 1) := by decide +kernel
theorem dL_law_402 : decode cL_law 402 = .ok (.iconst 1, 1) := by decide +kernel
theorem dL_law_403 : decode cL_law 403 = .ok (.iadd, 1) := by decide +kernel
theorem dL_law_404 : decode cL_law 404 = .ok (.iaload, 1) := by decide +kernel
theorem dL_law_405 : decode cL_law 405 = .ok (.aload_n 0, 1) := by decide +kernel
theorem dL_law_406 : decode cL_law 406 = .ok (.iload_n 3, 1) := by decide +kernel
theorem dL_law_407 : decode cL_law 407 = .ok (.iconst 2, 1) := by decide +kernel
theorem dL_law_408 : decode cL_law 408 = .ok (.iadd, 1) := by decide +kernel
theorem dL_law_409 : decode cL_law 409 = .ok (.iaload, 1) := by decide +kernel
theorem dL_law_410 : decode cL_law 410 = .ok (.aload_n 0, 1) := by decide +kernel
theorem dL_law_411 : decode cL_law 411 = .ok (.iload_n 3, 1) := by decide +kernel
theorem dL_law_412 : decode cL_law 412 = .ok (.iconst 3, 1) := by decide +kernel
theorem dL_law_413 : decode cL_law 413 = .ok (.iadd, 1) := by decide +kernel
theorem dL_law_414 : decode cL_law 414 = .ok (.iaload, 1) := by decide +kernel
theorem dL_law_415 : decode cL_law 415 = .ok (.aload_n 0, 1) := by decide +kernel
theorem dL_law_416 : decode cL_law 416 = .ok (.iload_n 3, 1) := by decide +kernel
theorem dL_law_417 : decode cL_law 417 = .ok (.iconst 4, 1) := by decide +kernel
theorem dL_law_418 : decode cL_law 418 = .ok (.iadd, 1) := by decide +kernel
theorem dL_law_419 : decode cL_law 419 = .ok (.iaload, 1) := by decide +kernel
theorem dL_law_420 : decode cL_law 420 = .ok (.invokevirtual 54, 3) := by decide +kernel
theorem dL_law_423 : decode cL_law 423 = .ok (.aload_n 2, 1) := by decide +kernel
theorem dL_law_424 : decode cL_law 424 = .ok (.aload_n 0, 1) := by decide +kernel
theorem dL_law_425 : decode cL_law 425 = .ok (.iload_n 3, 1) := by decide +kernel
theorem dL_law_426 : decode cL_law 426 = .ok (.iconst 1, 1) := by decide +kernel
theorem dL_law_427 : decode cL_law 427 = .ok (.iadd, 1) := by decide +kernel
theorem dL_law_428 : decode cL_law 428 = .ok (.iaload, 1) := by decide +kernel
theorem dL_law_429 : decode cL_law 429 = .ok (.aload_n 0, 1) := by decide +kernel
theorem dL_law_430 : decode cL_law 430 = .ok (.iload_n 3, 1) := by decide +kernel
theorem dL_law_431 : decode cL_law 431 = .ok (.iconst 2, 1) := by decide +kernel
theorem dL_law_432 : decode cL_law 432 = .ok (.iadd, 1) := by decide +kernel
theorem dL_law_433 : decode cL_law 433 = .ok (.iaload, 1) := by decide +kernel
theorem dL_law_434 : decode cL_law 434 = .ok (.aload_n 0, 1) := by decide +kernel
theorem dL_law_435 : decode cL_law 435 = .ok (.iload_n 3, 1) := by decide +kernel
theorem dL_law_436 : decode cL_law 436 = .ok (.iconst 3, 1) := by decide +kernel
theorem dL_law_437 : decode cL_law 437 = .ok (.iadd, 1) := by decide +kernel
theorem dL_law_438 : decode cL_law 438 = .ok (.iaload, 1) := by decide +kernel
theorem dL_law_439 : decode cL_law 439 = .ok (.aload_n 0, 1) := by decide +kernel
theorem dL_law_440 : decode cL_law 440 = .ok (.iload_n 3, 1) := by decide +kernel
theorem dL_law_441 : decode cL_law 441 = .ok (.iconst 4, 1) := by decide +kernel
theorem dL_law_442 : decode cL_law 442 = .ok (.iadd, 1) := by decide +kernel
theorem dL_law_443 : decode cL_law 443 = .ok (.iaload, 1) := by decide +kernel
theorem dL_law_444 : decode cL_law 444 = .ok (.invokevirtual 58, 3) := by decide +kernel
theorem dL_law_447 : decode cL_law 447 = .ok (.if_icmp .eq 288, 3) := by decide +kernel
theorem dL_law_450 : decode cL_law 450 = .ok (.iconst 0, 1) := by decide +kernel
theorem dL_law_451 : decode cL_law 451 = .ok (.ireturn, 1) := by decide +kernel
theorem dL_law_452 : decode cL_law 452 = .ok (.aload_n 1, 1) := by decide +kernel
theorem dL_law_453 : decode cL_law 453 = .ok (.aload_n 0, 1) := by decide +kernel
theorem dL_law_454 : decode cL_law 454 = .ok (.iload_n 3, 1) := by decide +kernel
theorem dL_law_455 : decode cL_law 455 = .ok (.iconst 1, 1) := by decide +kernel
theorem dL_law_456 : decode cL_law 456 = .ok (.iadd, 1) := by decide +kernel
theorem dL_law_457 : decode cL_law 457 = .ok (.iaload, 1) := by decide +kernel
theorem dL_law_458 : decode cL_law 458 = .ok (.aload_n 0, 1) := by decide +kernel
theorem dL_law_459 : decode cL_law 459 = .ok (.iload_n 3, 1) := by decide +kernel
theorem dL_law_460 : decode cL_law 460 = .ok (.iconst 2, 1) := by decide +kernel
theorem dL_law_461 : decode cL_law 461 = .ok (.iadd, 1) := by decide +kernel
theorem dL_law_462 : decode cL_law 462 = .ok (.iaload, 1) := by decide +kernel
theorem dL_law_463 : decode cL_law 463 = .ok (.aload_n 0, 1) := by decide +kernel
theorem dL_law_464 : decode cL_law 464 = .ok (.iload_n 3, 1) := by decide +kernel
theorem dL_law_465 : decode cL_law 465 = .ok (.iconst 3, 1) := by decide +kernel
theorem dL_law_466 : decode cL_law 466 = .ok (.iadd, 1) := by decide +kernel
theorem dL_law_467 : decode cL_law 467 = .ok (.iaload, 1) := by decide +kernel
theorem dL_law_468 : decode cL_law 468 = .ok (.aload_n 0, 1) := by decide +kernel
theorem dL_law_469 : decode cL_law 469 = .ok (.iload_n 3, 1) := by decide +kernel
theorem dL_law_470 : decode cL_law 470 = .ok (.iconst 4, 1) := by decide +kernel
theorem dL_law_471 : decode cL_law 471 = .ok (.iadd, 1) := by decide +kernel
theorem dL_law_472 : decode cL_law 472 = .ok (.iaload, 1) := by decide +kernel
theorem dL_law_473 : decode cL_law 473 = .ok (.invokevirtual 59, 3) := by decide +kernel
theorem dL_law_476 : decode cL_law 476 = .ok (.aload_n 2, 1) := by decide +kernel
theorem dL_law_477 : decode cL_law 477 = .ok (.aload_n 0, 1) := by decide +kernel
theorem dL_law_478 : decode cL_law 478 = .ok (.iload_n 3, 1) := by decide +kernel
theorem dL_law_479 : decode cL_law 479 = .ok (.iconst 1, 1) := by decide +kernel
theorem dL_law_480 : decode cL_law 480 = .ok (.iadd, 1) := by decide +kernel
theorem dL_law_481 : decode cL_law 481 = .ok (.iaload, 1) := by decide +kernel
theorem dL_law_482 : decode cL_law 482 = .ok (.aload_n 0, 1) := by decide +kernel
theorem dL_law_483 : decode cL_law 483 = .ok (.iload_n 3, 1) := by decide +kernel
theorem dL_law_484 : decode cL_law 484 = .ok (.iconst 2, 1) := by decide +kernel
theorem dL_law_485 : decode cL_law 485 = .ok (.iadd, 1) := by decide +kernel
theorem dL_law_486 : decode cL_law 486 = .ok (.iaload, 1) := by decide +kernel
theorem dL_law_487 : decode cL_law 487 = .ok (.aload_n 0, 1) := by decide +kernel
theorem dL_law_488 : decode cL_law 488 = .ok (.iload_n 3, 1) := by decide +kernel
theorem dL_law_489 : decode cL_law 489 = .ok (.iconst 3, 1) := by decide +kernel
theorem dL_law_490 : decode cL_law 490 = .ok (.iadd, 1) := by decide +kernel
theorem dL_law_491 : decode cL_law 491 = .ok (.iaload, 1) := by decide +kernel
theorem dL_law_492 : decode cL_law 492 = .ok (.aload_n 0, 1) := by decide +kernel
theorem dL_law_493 : decode cL_law 493 = .ok (.iload_n 3, 1) := by decide +kernel
theorem dL_law_494 : decode cL_law 494 = .ok (.iconst 4, 1) := by decide +kernel
theorem dL_law_495 : decode cL_law 495 = .ok (.iadd, 1) := by decide +kernel
theorem dL_law_496 : decode cL_law 496 = .ok (.iaload, 1) := by decide +kernel
theorem dL_law_497 : decode cL_law 497 = .ok (.invokevirtual 62, 3) := by decide +kernel
theorem dL_law_500 : decode cL_law 500 = .ok (.if_icmp .eq 235, 3) := by decide +kernel
theorem dL_law_503 : decode cL_law 503 = .ok (.iconst 0, 1) := by decide +kernel
theorem dL_law_504 : decode cL_law 504 = .ok (.ireturn, 1) := by decide +kernel
theorem dL_law_505 : decode cL_law 505 = .ok (.aload_n 1, 1) := by decide +kernel
theorem dL_law_506 : decode cL_law 506 = .ok (.aload_n 0, 1) := by decide +kernel
theorem dL_law_507 : decode cL_law 507 = .ok (.iload_n 3, 1) := by decide +kernel
theorem dL_law_508 : decode cL_law 508 = .ok (.iconst 1, 1) := by decide +kernel
theorem dL_law_509 : decode cL_law 509 = .ok (.iadd, 1) := by decide +kernel
theorem dL_law_510 : decode cL_law 510 = .ok (.iaload, 1) := by decide +kernel
theorem dL_law_511 : decode cL_law 511 = .ok (.aload_n 0, 1) := by decide +kernel
theorem dL_law_512 : decode cL_law 512 = .ok (.iload_n 3, 1) := by decide +kernel
theorem dL_law_513 : decode cL_law 513 = .ok (.iconst 2, 1) := by decide +kernel
theorem dL_law_514 : decode cL_law 514 = .ok (.iadd, 1) := by decide +kernel
theorem dL_law_515 : decode cL_law 515 = .ok (.iaload, 1) := by decide +kernel
theorem dL_law_516 : decode cL_law 516 = .ok (.invokevirtual 63, 3) := by decide +kernel
theorem dL_law_519 : decode cL_law 519 = .ok (.aload_n 2, 1) := by decide +kernel
theorem dL_law_520 : decode cL_law 520 = .ok (.aload_n 0, 1) := by decide +kernel
theorem dL_law_521 : decode cL_law 521 = .ok (.iload_n 3, 1) := by decide +kernel
theorem dL_law_522 : decode cL_law 522 = .ok (.iconst 1, 1) := by decide +kernel
theorem dL_law_523 : decode cL_law 523 = .ok (.iadd, 1) := by decide +kernel
theorem dL_law_524 : decode cL_law 524 = .ok (.iaload, 1) := by decide +kernel
theorem dL_law_525 : decode cL_law 525 = .ok (.aload_n 0, 1) := by decide +kernel
theorem dL_law_526 : decode cL_law 526 = .ok (.iload_n 3, 1) := by decide +kernel
theorem dL_law_527 : decode cL_law 527 = .ok (.iconst 2, 1) := by decide +kernel
theorem dL_law_528 : decode cL_law 528 = .ok (.iadd, 1) := by decide +kernel
theorem dL_law_529 : decode cL_law 529 = .ok (.iaload, 1) := by decide +kernel
theorem dL_law_530 : decode cL_law 530 = .ok (.invokevirtual 67, 3) := by decide +kernel
theorem dL_law_533 : decode cL_law 533 = .ok (.if_icmp .eq 202, 3) := by decide +kernel
theorem dL_law_536 : decode cL_law 536 = .ok (.iconst 0, 1) := by decide +kernel
theorem dL_law_537 : decode cL_law 537 = .ok (.ireturn, 1) := by decide +kernel
theorem dL_law_538 : decode cL_law 538 = .ok (.aload_n 1, 1) := by decide +kernel
theorem dL_law_539 : decode cL_law 539 = .ok (.aload_n 0, 1) := by decide +kernel
theorem dL_law_540 : decode cL_law 540 = .ok (.iload_n 3, 1) := by decide +kernel
theorem dL_law_541 : decode cL_law 541 = .ok (.iconst 1, 1) := by decide +kernel
theorem dL_law_542 : decode cL_law 542 = .ok (.iadd, 1) := by decide +kernel
theorem dL_law_543 : decode cL_law 543 = .ok (.iaload, 1) := by decide +kernel
theorem dL_law_544 : decode cL_law 544 = .ok (.invokevirtual 68, 3) := by decide +kernel
theorem dL_law_547 : decode cL_law 547 = .ok (.aload_n 2, 1) := by decide +kernel
theorem dL_law_548 : decode cL_law 548 = .ok (.aload_n 0, 1) := by decide +kernel
theorem dL_law_549 : decode cL_law 549 = .ok (.iload_n 3, 1) := by decide +kernel
theorem dL_law_550 : decode cL_law 550 = .ok (.iconst 1, 1) := by decide +kernel
theorem dL_law_551 : decode cL_law 551 = .ok (.iadd, 1) := by decide +kernel
theorem dL_law_552 : decode cL_law 552 = .ok (.iaload, 1) := by decide +kernel
theorem dL_law_553 : decode cL_law 553 = .ok (.invokevirtual 71, 3) := by decide +kernel
theorem dL_law_556 : decode cL_law 556 = .ok (.if_icmp .eq 179, 3) := by decide +kernel
theorem dL_law_559 : decode cL_law 559 = .ok (.iconst 0, 1) := by decide +kernel
theorem dL_law_560 : decode cL_law 560 = .ok (.ireturn, 1) := by decide +kernel
theorem dL_law_561 : decode cL_law 561 = .ok (.aload_n 1, 1) := by decide +kernel
theorem dL_law_562 : decode cL_law 562 = .ok (.invokevirtual 72, 3) := by decide +kernel
theorem dL_law_565 : decode cL_law 565 = .ok (.aload_n 2, 1) := by decide +kernel
theorem dL_law_566 : decode cL_law 566 = .ok (.invokevirtual 75, 3) := by decide +kernel
theorem dL_law_569 : decode cL_law 569 = .ok (.if_icmp .eq 166, 3) := by decide +kernel
theorem dL_law_572 : decode cL_law 572 = .ok (.iconst 0, 1) := by decide +kernel
theorem dL_law_573 : decode cL_law 573 = .ok (.ireturn, 1) := by decide +kernel
theorem dL_law_574 : decode cL_law 574 = .ok (.aload_n 1, 1) := by decide +kernel
theorem dL_law_575 : decode cL_law 575 = .ok (.invokevirtual 76, 3) := by decide +kernel
theorem dL_law_578 : decode cL_law 578 = .ok (.aload_n 2, 1) := by decide +kernel
theorem dL_law_579 : decode cL_law 579 = .ok (.invokevirtual 79, 3) := by decide +kernel
theorem dL_law_582 : decode cL_law 582 = .ok (.if_icmp .eq 153, 3) := by decide +kernel
theorem dL_law_585 : decode cL_law 585 = .ok (.iconst 0, 1) := by decide +kernel
theorem dL_law_586 : decode cL_law 586 = .ok (.ireturn, 1) := by decide +kernel
theorem dL_law_587 : decode cL_law 587 = .ok (.aload_n 1, 1) := by decide +kernel
theorem dL_law_588 : decode cL_law 588 = .ok (.aload_n 0, 1) := by decide +kernel
theorem dL_law_589 : decode cL_law 589 = .ok (.iload_n 3, 1) := by decide +kernel
theorem dL_law_590 : decode cL_law 590 = .ok (.iconst 1, 1) := by decide +kernel
theorem dL_law_591 : decode cL_law 591 = .ok (.iadd, 1) := by decide +kernel
theorem dL_law_592 : decode cL_law 592 = .ok (.iaload, 1) := by decide +kernel
theorem dL_law_593 : decode cL_law 593 = .ok (.invokevirtual 80, 3) := by decide +kernel
theorem dL_law_596 : decode cL_law 596 = .ok (.aload_n 2, 1) := by decide +kernel
theorem dL_law_597 : decode cL_law 597 = .ok (.aload_n 0, 1) := by decide +kernel
theorem dL_law_598 : decode cL_law 598 = .ok (.iload_n 3, 1) := by decide +kernel
theorem dL_law_599 : decode cL_law 599 = .ok (.iconst 1, 1) := by decide +kernel
theorem dL_law_600 : decode cL_law 600 = .ok (.iadd, 1) := by decide +kernel
theorem dL_law_601 : decode cL_law 601 = .ok (.iaload, 1) := by decide +kernel
theorem dL_law_602 : decode cL_law 602 = .ok (.invokevirtual 83, 3) := by decide +kernel
theorem dL_law_605 : decode cL_law 605 = .ok (.if_icmp .eq 130, 3) := by decide +kernel
theorem dL_law_608 : decode cL_law 608 = .ok (.iconst 0, 1) := by decide +kernel
theorem dL_law_609 : decode cL_law 609 = .ok (.ireturn, 1) := by decide +kernel
theorem dL_law_610 : decode cL_law 610 = .ok (.aload_n 1, 1) := by decide +kernel
theorem dL_law_611 : decode cL_law 611 = .ok (.aload_n 0, 1) := by decide +kernel
theorem dL_law_612 : decode cL_law 612 = .ok (.iload_n 3, 1) := by decide +kernel
theorem dL_law_613 : decode cL_law 613 = .ok (.iconst 1, 1) := by decide +kernel
theorem dL_law_614 : decode cL_law 614 = .ok (.iadd, 1) := by decide +kernel
theorem dL_law_615 : decode cL_law 615 = .ok (.iaload, 1) := by decide +kernel
theorem dL_law_616 : decode cL_law 616 = .ok (.invokevirtual 84, 3) := by decide +kernel
theorem dL_law_619 : decode cL_law 619 = .ok (.aload_n 2, 1) := by decide +kernel
theorem dL_law_620 : decode cL_law 620 = .ok (.aload_n 0, 1) := by decide +kernel
theorem dL_law_621 : decode cL_law 621 = .ok (.iload_n 3, 1) := by decide +kernel
theorem dL_law_622 : decode cL_law 622 = .ok (.iconst 1, 1) := by decide +kernel
theorem dL_law_623 : decode cL_law 623 = .ok (.iadd, 1) := by decide +kernel
theorem dL_law_624 : decode cL_law 624 = .ok (.iaload, 1) := by decide +kernel
theorem dL_law_625 : decode cL_law 625 = .ok (.invokevirtual 87, 3) := by decide +kernel
theorem dL_law_628 : decode cL_law 628 = .ok (.if_icmp .eq 107, 3) := by decide +kernel
theorem dL_law_631 : decode cL_law 631 = .ok (.iconst 0, 1) := by decide +kernel
theorem dL_law_632 : decode cL_law 632 = .ok (.ireturn, 1) := by decide +kernel
theorem dL_law_633 : decode cL_law 633 = .ok (.aload_n 1, 1) := by decide +kernel
theorem dL_law_634 : decode cL_law 634 = .ok (.invokevirtual 88, 3) := by decide +kernel
theorem dL_law_637 : decode cL_law 637 = .ok (.aload_n 2, 1) := by decide +kernel
theorem dL_law_638 : decode cL_law 638 = .ok (.invokevirtual 91, 3) := by decide +kernel
theorem dL_law_641 : decode cL_law 641 = .ok (.if_icmp .eq 94, 3) := by decide +kernel
theorem dL_law_644 : decode cL_law 644 = .ok (.iconst 0, 1) := by decide +kernel
theorem dL_law_645 : decode cL_law 645 = .ok (.ireturn, 1) := by decide +kernel
theorem dL_law_646 : decode cL_law 646 = .ok (.aload_n 1, 1) := by decide +kernel
theorem dL_law_647 : decode cL_law 647 = .ok (.aload_n 0, 1) := by decide +kernel
theorem dL_law_648 : decode cL_law 648 = .ok (.iload_n 3, 1) := by decide +kernel
theorem dL_law_649 : decode cL_law 649 = .ok (.iconst 1, 1) := by decide +kernel
theorem dL_law_650 : decode cL_law 650 = .ok (.iadd, 1) := by decide +kernel
theorem dL_law_651 : decode cL_law 651 = .ok (.iaload, 1) := by decide +kernel
theorem dL_law_652 : decode cL_law 652 = .ok (.aload_n 0, 1) := by decide +kernel
theorem dL_law_653 : decode cL_law 653 = .ok (.iload_n 3, 1) := by decide +kernel
theorem dL_law_654 : decode cL_law 654 = .ok (.iconst 2, 1) := by decide +kernel
theorem dL_law_655 : decode cL_law 655 = .ok (.iadd, 1) := by decide +kernel
theorem dL_law_656 : decode cL_law 656 = .ok (.iaload, 1) := by decide +kernel
theorem dL_law_657 : decode cL_law 657 = .ok (.invokevirtual 92, 3) := by decide +kernel
theorem dL_law_660 : decode cL_law 660 = .ok (.aload_n 2, 1) := by decide +kernel
theorem dL_law_661 : decode cL_law 661 = .ok (.aload_n 0, 1) := by decide +kernel
theorem dL_law_662 : decode cL_law 662 = .ok (.iload_n 3, 1) := by decide +kernel
theorem dL_law_663 : decode cL_law 663 = .ok (.iconst 1, 1) := by decide +kernel
theorem dL_law_664 : decode cL_law 664 = .ok (.iadd, 1) := by decide +kernel
theorem dL_law_665 : decode cL_law 665 = .ok (.iaload, 1) := by decide +kernel
theorem dL_law_666 : decode cL_law 666 = .ok (.aload_n 0, 1) := by decide +kernel
theorem dL_law_667 : decode cL_law 667 = .ok (.iload_n 3, 1) := by decide +kernel
theorem dL_law_668 : decode cL_law 668 = .ok (.iconst 2, 1) := by decide +kernel
theorem dL_law_669 : decode cL_law 669 = .ok (.iadd, 1) := by decide +kernel
theorem dL_law_670 : decode cL_law 670 = .ok (.iaload, 1) := by decide +kernel
theorem dL_law_671 : decode cL_law 671 = .ok (.invokevirtual 95, 3) := by decide +kernel
theorem dL_law_674 : decode cL_law 674 = .ok (.if_icmp .eq 61, 3) := by decide +kernel
theorem dL_law_677 : decode cL_law 677 = .ok (.iconst 0, 1) := by decide +kernel
theorem dL_law_678 : decode cL_law 678 = .ok (.ireturn, 1) := by decide +kernel
theorem dL_law_679 : decode cL_law 679 = .ok (.aload_n 1, 1) := by decide +kernel
theorem dL_law_680 : decode cL_law 680 = .ok (.aload_n 0, 1) := by decide +kernel
theorem dL_law_681 : decode cL_law 681 = .ok (.iload_n 3, 1) := by decide +kernel
theorem dL_law_682 : decode cL_law 682 = .ok (.iconst 1, 1) := by decide +kernel
theorem dL_law_683 : decode cL_law 683 = .ok (.iadd, 1) := by decide +kernel
theorem dL_law_684 : decode cL_law 684 = .ok (.iaload, 1) := by decide +kernel
theorem dL_law_685 : decode cL_law 685 = .ok (.aload_n 0, 1) := by decide +kernel
theorem dL_law_686 : decode cL_law 686 = .ok (.iload_n 3, 1) := by decide +kernel
theorem dL_law_687 : decode cL_law 687 = .ok (.iconst 2, 1) := by decide +kernel
theorem dL_law_688 : decode cL_law 688 = .ok (.iadd, 1) := by decide +kernel
theorem dL_law_689 : decode cL_law 689 = .ok (.iaload, 1) := by decide +kernel
theorem dL_law_690 : decode cL_law 690 = .ok (.invokevirtual 96, 3) := by decide +kernel
theorem dL_law_693 : decode cL_law 693 = .ok (.aload_n 2, 1) := by decide +kernel
theorem dL_law_694 : decode cL_law 694 = .ok (.aload_n 0, 1) := by decide +kernel
theorem dL_law_695 : decode cL_law 695 = .ok (.iload_n 3, 1) := by decide +kernel
theorem dL_law_696 : decode cL_law 696 = .ok (.iconst 1, 1) := by decide +kernel
theorem dL_law_697 : decode cL_law 697 = .ok (.iadd, 1) := by decide +kernel
theorem dL_law_698 : decode cL_law 698 = .ok (.iaload, 1) := by decide +kernel
theorem dL_law_699 : decode cL_law 699 = .ok (.aload_n 0, 1) := by decide +kernel
theorem dL_law_700 : decode cL_law 700 = .ok (.iload_n 3, 1) := by decide +kernel
theorem dL_law_701 : decode cL_law 701 = .ok (.iconst 2, 1) := by decide +kernel
theorem dL_law_702 : decode cL_law 702 = .ok (.iadd, 1) := by decide +kernel
theorem dL_law_703 : decode cL_law 703 = .ok (.iaload, 1) := by decide +kernel
theorem dL_law_704 : decode cL_law 704 = .ok (.invokevirtual 99, 3) := by decide +kernel
theorem dL_law_707 : decode cL_law 707 = .ok (.if_icmp .eq 28, 3) := by decide +kernel
theorem dL_law_710 : decode cL_law 710 = .ok (.iconst 0, 1) := by decide +kernel
theorem dL_law_711 : decode cL_law 711 = .ok (.ireturn, 1) := by decide +kernel
theorem dL_law_712 : decode cL_law 712 = .ok (.aload_n 1, 1) := by decide +kernel
theorem dL_law_713 : decode cL_law 713 = .ok (.aload_n 0, 1) := by decide +kernel
theorem dL_law_714 : decode cL_law 714 = .ok (.iload_n 3, 1) := by decide +kernel
theorem dL_law_715 : decode cL_law 715 = .ok (.iconst 1, 1) := by decide +kernel
theorem dL_law_716 : decode cL_law 716 = .ok (.iadd, 1) := by decide +kernel
theorem dL_law_717 : decode cL_law 717 = .ok (.iaload, 1) := by decide +kernel
theorem dL_law_718 : decode cL_law 718 = .ok (.invokevirtual 100, 3) := by decide +kernel
theorem dL_law_721 : decode cL_law 721 = .ok (.aload_n 2, 1) := by decide +kernel
theorem dL_law_722 : decode cL_law 722 = .ok (.aload_n 0, 1) := by decide +kernel
theorem dL_law_723 : decode cL_law 723 = .ok (.iload_n 3, 1) := by decide +kernel
theorem dL_law_724 : decode cL_law 724 = .ok (.iconst 1, 1) := by decide +kernel
theorem dL_law_725 : decode cL_law 725 = .ok (.iadd, 1) := by decide +kernel
theorem dL_law_726 : decode cL_law 726 = .ok (.iaload, 1) := by decide +kernel
theorem dL_law_727 : decode cL_law 727 = .ok (.invokevirtual 103, 3) := by decide +kernel
theorem dL_law_730 : decode cL_law 730 = .ok (.if_icmp .eq 5, 3) := by decide +kernel
theorem dL_law_733 : decode cL_law 733 = .ok (.iconst 0, 1) := by decide +kernel
theorem dL_law_734 : decode cL_law 734 = .ok (.ireturn, 1) := by decide +kernel
theorem dL_law_735 : decode cL_law 735 = .ok (.iinc 3 6, 3) := by decide +kernel
theorem dL_law_738 : decode cL_law 738 = .ok (.goto (-720), 3) := by decide +kernel
theorem dL_law_741 : decode cL_law 741 = .ok (.iconst 1, 1) := by decide +kernel
theorem dL_law_742 : decode cL_law 742 = .ok (.ireturn, 1) := by decide +kernel
