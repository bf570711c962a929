theorem dX0_init_0 : decode cX0_init 0 = .ok (.aload_n 0, 1) := by decide +kernel
theorem dX0_init_1 : decode cX0_init 1 = .ok (.invokespecial 3, 3) := by decide +kernel
theorem dX0_init_4 : decode cX0_init 4 = .ok (.aload_n 0, 1) := by decide +kernel
theorem dX0_init_5 : decode cX0_init 5 = .ok (.sipush 400, 3) := by decide +kernel
theorem dX0_init_8 : decode cX0_init 8 = .ok (.newarray .int, 2) := by decide +kernel
theorem dX0_init_10 : decode cX0_init 10 = .ok (.putfield 9, 3) := by decide +kernel
theorem dX0_init_13 : decode cX0_init 13 = .ok (.aload_n 0, 1) := by decide +kernel
theorem dX0_init_14 : decode cX0_init 14 = .ok (.sipush 400, 3) := by decide +kernel
theorem dX0_init_17 : decode cX0_init 17 = .ok (.newarray .int, 2) := by decide +kernel
theorem dX0_init_19 : decode cX0_init 19 = .ok (.putfield 15, 3) := by decide +kernel
theorem dX0_init_22 : decode cX0_init 22 = .ok (.aload_n 0, 1) := by decide +kernel
theorem dX0_init_23 : decode cX0_init 23 = .ok (.sipush 400, 3) := by decide +kernel
theorem dX0_init_26 : decode cX0_init 26 = .ok (.newarray .int, 2) := by decide +kernel
theorem dX0_init_28 : decode cX0_init 28 = .ok (.putfield 18, 3) := by decide +kernel
theorem dX0_init_31 : decode cX0_init 31 = .ok (.aload_n 0, 1) := by decide +kernel
theorem dX0_init_32 : decode cX0_init 32 = .ok (.iconst 0, 1) := by decide +kernel
theorem dX0_init_33 : decode cX0_init 33 = .ok (.putfield 21, 3) := by decide +kernel
theorem dX0_init_36 : decode cX0_init 36 = .ok (.return_, 1) := by decide +kernel
theorem dX0_add_0 : decode cX0_add 0 = .ok (.aload_n 0, 1) := by decide +kernel
theorem dX0_add_1 : decode cX0_add 1 = .ok (.getfield 21, 3) := by decide +kernel
theorem dX0_add_4 : decode cX0_add 4 = .ok (.sipush 400, 3) := by decide +kernel
theorem dX0_add_7 : decode cX0_add 7 = .ok (.if_icmp .lt 5, 3) := by decide +kernel
theorem dX0_add_10 : decode cX0_add 10 = .ok (.iconst (-1), 1) := by decide +kernel
theorem dX0_add_11 : decode cX0_add 11 = .ok (.ireturn, 1) := by decide +kernel
theorem dX0_add_12 : decode cX0_add 12 = .ok (.aload_n 0, 1) := by decide +kernel
theorem dX0_add_13 : decode cX0_add 13 = .ok (.getfield 9, 3) := by decide +kernel
theorem dX0_add_16 : decode cX0_add 16 = .ok (.aload_n 0, 1) := by decide +kernel
theorem dX0_add_17 : decode cX0_add 17 = .ok (.getfield 21, 3) := by decide +kernel
theorem dX0_add_20 : decode cX0_add 20 = .ok (.iload_n 1, 1) := by decide +kernel
theorem dX0_add_21 : decode cX0_add 21 = .ok (.iastore, 1) := by decide +kernel
theorem dX0_add_22 : decode cX0_add 22 = .ok (.aload_n 0, 1) := by decide +kernel
theorem dX0_add_23 : decode cX0_add 23 = .ok (.getfield 15, 3) := by decide +kernel
theorem dX0_add_26 : decode cX0_add 26 = .ok (.aload_n 0, 1) := by decide +kernel
theorem dX0_add_27 : decode cX0_add 27 = .ok (.getfield 21, 3) := by decide +kernel
theorem dX0_add_30 : decode cX0_add 30 = .ok (.iload_n 2, 1) := by decide +kernel
theorem dX0_add_31 : decode cX0_add 31 = .ok (.iastore, 1) := by decide +kernel
theorem dX0_add_32 : decode cX0_add 32 = .ok (.aload_n 0, 1) := by decide +kernel
theorem dX0_add_33 : decode cX0_add 33 = .ok (.getfield 18, 3) := by decide +kernel
theorem dX0_add_36 : decode cX0_add 36 = .ok (.aload_n 0, 1) := by decide +kernel
theorem dX0_add_37 : decode cX0_add 37 = .ok (.getfield 21, 3) := by decide +kernel
theorem dX0_add_40 : decode cX0_add 40 = .ok (.iload_n 3, 1) := by decide +kernel
theorem dX0_add_41 : decode cX0_add 41 = .ok (.iastore, 1) := by decide +kernel
theorem dX0_add_42 : decode cX0_add 42 = .ok (.aload_n 0, 1) := by decide +kernel
theorem dX0_add_43 : decode cX0_add 43 = .ok (.dup, 1) := by decide +kernel
theorem dX0_add_44 : decode cX0_add 44 = .ok (.getfield 21, 3) := by decide +kernel
theorem dX0_add_47 : decode cX0_add 47 = .ok (.iconst 1, 1) := by decide +kernel
theorem dX0_add_48 : decode cX0_add 48 = .ok (.iadd, 1) := by decide +kernel
theorem dX0_add_49 : decode cX0_add 49 = .ok (.putfield 21, 3) := by decide +kernel
theorem dX0_add_52 : decode cX0_add 52 = .ok (.aload_n 0, 1) := by decide +kernel
theorem dX0_add_53 : decode cX0_add 53 = .ok (.getfield 21, 3) := by decide +kernel
theorem dX0_add_56 : decode cX0_add 56 = .ok (.iconst 1, 1) := by decide +kernel
theorem dX0_add_57 : decode cX0_add 57 = .ok (.isub, 1) := by decide +kernel
theorem dX0_add_58 : decode cX0_add 58 = .ok (.ireturn, 1) := by decide +kernel
theorem dX0_latest_0 : decode cX0_latest 0 = .ok (.aload_n 0, 1) := by decide +kernel
theorem dX0_latest_1 : decode cX0_latest 1 = .ok (.getfield 21, 3) := by decide +kernel
theorem dX0_latest_4 : decode cX0_latest 4 = .ok (.iconst 1, 1) := by decide +kernel
theorem dX0_latest_5 : decode cX0_latest 5 = .ok (.isub, 1) := by decide +kernel
theorem dX0_latest_6 : decode cX0_latest 6 = .ok (.istore_n 3, 1) := by decide +kernel
theorem dX0_latest_7 : decode cX0_latest 7 = .ok (.iload_n 3, 1) := by decide +kernel
theorem dX0_latest_8 : decode cX0_latest 8 = .ok (.ifCond .lt 36, 3) := by decide +kernel
theorem dX0_latest_11 : decode cX0_latest 11 = .ok (.aload_n 0, 1) := by decide +kernel
theorem dX0_latest_12 : decode cX0_latest 12 = .ok (.getfield 9, 3) := by decide +kernel
theorem dX0_latest_15 : decode cX0_latest 15 = .ok (.iload_n 3, 1) := by decide +kernel
theorem dX0_latest_16 : decode cX0_latest 16 = .ok (.iaload, 1) := by decide +kernel
theorem dX0_latest_17 : decode cX0_latest 17 = .ok (.iload_n 1, 1) := by decide +kernel
theorem dX0_latest_18 : decode cX0_latest 18 = .ok (.if_icmp .ne 20, 3) := by decide +kernel
theorem dX0_latest_21 : decode cX0_latest 21 = .ok (.aload_n 0, 1) := by decide +kernel
theorem dX0_latest_22 : decode cX0_latest 22 = .ok (.getfield 18, 3) := by decide +kernel
theorem dX0_latest_25 : decode cX0_latest 25 = .ok (.iload_n 3, 1) := by decide +kernel
theorem dX0_latest_26 : decode cX0_latest 26 = .ok (.iaload, 1) := by decide +kernel
theorem dX0_latest_27 : decode cX0_latest 27 = .ok (.iload_n 2, 1) := by decide +kernel
theorem dX0_latest_28 : decode cX0_latest 28 = .ok (.if_icmp .gt 10, 3) := by decide +kernel
theorem dX0_latest_31 : decode cX0_latest 31 = .ok (.aload_n 0, 1) := by decide +kernel
theorem dX0_latest_32 : decode cX0_latest 32 = .ok (.getfield 15, 3) := by decide +kernel
theorem dX0_latest_35 : decode cX0_latest 35 = .ok (.iload_n 3, 1) := by decide +kernel
theorem dX0_latest_36 : decode cX0_latest 36 = .ok (.iaload, 1) := by decide +kernel
theorem dX0_latest_37 : decode cX0_latest 37 = .ok (.ireturn, 1) := by decide +kernel
theorem dX0_latest_38 : decode cX0_latest 38 = .ok (.iinc 3 (-1), 3) := by decide +kernel
theorem dX0_latest_41 : decode cX0_latest 41 = .ok (.goto (-34), 3) := by decide +kernel
theorem dX0_latest_44 : decode cX0_latest 44 = .ok (.iconst 0, 1) := by decide +kernel
theorem dX0_latest_45 : decode cX0_latest 45 = .ok (.ireturn, 1) := by decide +kernel
theorem dX0_fill_0 : decode cX0_fill 0 = .ok (.iconst 0, 1) := by decide +kernel
theorem dX0_fill_1 : decode cX0_fill 1 = .ok (.istore_n 3, 1) := by decide +kernel
theorem dX0_fill_2 : decode cX0_fill 2 = .ok (.iload_n 3, 1) := by decide +kernel
theorem dX0_fill_3 : decode cX0_fill 3 = .ok (.aload_n 1, 1) := by decide +kernel
theorem dX0_fill_4 : decode cX0_fill 4 = .ok (.arraylength, 1) := by decide +kernel
theorem dX0_fill_5 : decode cX0_fill 5 = .ok (.if_icmp .ge 13, 3) := by decide +kernel
theorem dX0_fill_8 : decode cX0_fill 8 = .ok (.aload_n 1, 1) := by decide +kernel
theorem dX0_fill_9 : decode cX0_fill 9 = .ok (.iload_n 3, 1) := by decide +kernel
theorem dX0_fill_10 : decode cX0_fill 10 = .ok (.iconst 0, 1) := by decide +kernel
theorem dX0_fill_11 : decode cX0_fill 11 = .ok (.iastore, 1) := by decide +kernel
theorem dX0_fill_12 : decode cX0_fill 12 = .ok (.iinc 3 1, 3) := by decide +kernel
theorem dX0_fill_15 : decode cX0_fill 15 = .ok (.goto (-13), 3) := by decide +kernel
theorem dX0_fill_18 : decode cX0_fill 18 = .ok (.iconst 0, 1) := by decide +kernel
theorem dX0_fill_19 : decode cX0_fill 19 = .ok (.istore_n 3, 1) := by decide +kernel
theorem dX0_fill_20 : decode cX0_fill 20 = .ok (.iload_n 3, 1) := by decide +kernel
theorem dX0_fill_21 : decode cX0_fill 21 = .ok (.aload_n 0, 1) := by decide +kernel
theorem dX0_fill_22 : decode cX0_fill 22 = .ok (.getfield 21, 3) := by decide +kernel
theorem dX0_fill_25 : decode cX0_fill 25 = .ok (.if_icmp .ge 53, 3) := by decide +kernel
theorem dX0_fill_28 : decode cX0_fill 28 = .ok (.aload_n 0, 1) := by decide +kernel
theorem dX0_fill_29 : decode cX0_fill 29 = .ok (.getfield 18, 3) := by decide +kernel
theorem dX0_fill_32 : decode cX0_fill 32 = .ok (.iload_n 3, 1) := by decide +kernel
theorem dX0_fill_33 : decode cX0_fill 33 = .ok (.iaload, 1) := by decide +kernel
theorem dX0_fill_34 : decode cX0_fill 34 = .ok (.iload_n 2, 1) := by decide +kernel
theorem dX0_fill_35 : decode cX0_fill 35 = .ok (.if_icmp .gt 43, 3) := by decide +kernel
theorem dX0_fill_38 : decode cX0_fill 38 = .ok (.aload_n 0, 1) := by decide +kernel
theorem dX0_fill_39 : decode cX0_fill 39 = .ok (.getfield 9, 3) := by decide +kernel
theorem dX0_fill_42 : decode cX0_fill 42 = .ok (.iload_n 3, 1) := by decide +kernel
theorem dX0_fill_43 : decode cX0_fill 43 = .ok (.iaload, 1) := by decide +kernel
theorem dX0_fill_44 : decode cX0_fill 44 = .ok (.ifCond .lt 28, 3) := by decide +kernel
theorem dX0_fill_47 : decode cX0_fill 47 = .ok (.aload_n 0, 1) := by decide +kernel
theorem dX0_fill_48 : decode cX0_fill 48 = .ok (.getfield 9, 3) := by decide +kernel
theorem dX0_fill_51 : decode cX0_fill 51 = .ok (.iload_n 3, 1) := by decide +kernel
theorem dX0_fill_52 : decode cX0_fill 52 = .ok (.iaload, 1) := by decide +kernel
theorem dX0_fill_53 : decode cX0_fill 53 = .ok (.aload_n 1, 1) := by decide +kernel
theorem dX0_fill_54 : decode cX0_fill 54 = .ok (.arraylength, 1) := by decide +kernel
theorem dX0_fill_55 : decode cX0_fill 55 = .ok (.if_icmp .ge 17, 3) := by decide +kernel
theorem dX0_fill_58 : decode cX0_fill 58 = .ok (.aload_n 1, 1) := by decide +kernel
theorem dX0_fill_59 : decode cX0_fill 59 = .ok (.aload_n 0, 1) := by decide +kernel
theorem dX0_fill_60 : decode cX0_fill 60 = .ok (.getfield 9, 3) := by decide +kernel
theorem dX0_fill_63 : decode cX0_fill 63 = .ok (.iload_n 3, 1) := by decide +kernel
theorem dX0_fill_64 : decode cX0_fill 64 = .ok (.iaload, 1) := by decide +kernel
theorem dX0_fill_65 : decode cX0_fill 65 = .ok (.aload_n 0, 1) := by decide +kernel
theorem dX0_fill_66 : decode cX0_fill 66 = .ok (.getfield 15, 3) := by decide +kernel
theorem dX0_fill_69 : decode cX0_fill 69 = .ok (.iload_n 3, 1) := by decide +kernel
theorem dX0_fill_70 : decode cX0_fill 70 = .ok (.iaload, 1) := by decide +kernel
theorem dX0_fill_71 : decode cX0_fill 71 = .ok (.iastore, 1) := by decide +kernel
theorem dX0_fill_72 : decode cX0_fill 72 = .ok (.iinc 3 1, 3) := by decide +kernel
theorem dX0_fill_75 : decode cX0_fill 75 = .ok (.goto (-55), 3) := by decide +kernel
theorem dX0_fill_78 : decode cX0_fill 78 = .ok (.return_, 1) := by decide +kernel
theorem dX1_init_0 : decode cX1_init 0 = .ok (.aload_n 0, 1) := by decide +kernel
theorem dX1_init_1 : decode cX1_init 1 = .ok (.invokespecial 3, 3) := by decide +kernel
theorem dX1_init_4 : decode cX1_init 4 = .ok (.aload_n 0, 1) := by decide +kernel
theorem dX1_init_5 : decode cX1_init 5 = .ok (.sipush 312, 3) := by decide +kernel
theorem dX1_init_8 : decode cX1_init 8 = .ok (.newarray .int, 2) := by decide +kernel
theorem dX1_init_10 : decode cX1_init 10 = .ok (.putfield 9, 3) := by decide +kernel
theorem dX1_init_13 : decode cX1_init 13 = .ok (.aload_n 0, 1) := by decide +kernel
theorem dX1_init_14 : decode cX1_init 14 = .ok (.bipush 64, 2) := by decide +kernel
theorem dX1_init_16 : decode cX1_init 16 = .ok (.newarray .int, 2) := by decide +kernel
theorem dX1_init_18 : decode cX1_init 18 = .ok (.putfield 15, 3) := by decide +kernel
theorem dX1_init_21 : decode cX1_init 21 = .ok (.return_, 1) := by decide +kernel
theorem dX1_fact_0 : decode cX1_fact 0 = .ok (.iload_n 1, 1) := by decide +kernel
theorem dX1_fact_1 : decode cX1_fact 1 = .ok (.bipush 26, 2) := by decide +kernel
theorem dX1_fact_3 : decode cX1_fact 3 = .ok (.imul, 1) := by decide +kernel
theorem dX1_fact_4 : decode cX1_fact 4 = .ok (.iload_n 2, 1) := by decide +kernel
theorem dX1_fact_5 : decode cX1_fact 5 = .ok (.iadd, 1) := by decide +kernel
theorem dX1_fact_6 : decode cX1_fact 6 = .ok (.istore_n 3, 1) := by decide +kernel
theorem dX1_fact_7 : decode cX1_fact 7 = .ok (.iload_n 3, 1) := by decide +kernel
theorem dX1_fact_8 : decode cX1_fact 8 = .ok (.ifCond .lt 12, 3) := by decide +kernel
theorem dX1_fact_11 : decode cX1_fact 11 = .ok (.iload_n 3, 1) := by decide +kernel
theorem dX1_fact_12 : decode cX1_fact 12 = .ok (.aload_n 0, 1) := by decide +kernel
theorem dX1_fact_13 : decode cX1_fact 13 = .ok (.getfield 9, 3) := by decide +kernel
theorem dX1_fact_16 : decode cX1_fact 16 = .ok (.arraylength, 1) := by decide +kernel
theorem dX1_fact_17 : decode cX1_fact 17 = .ok (.if_icmp .lt 7, 3) := by decide +kernel
theorem dX1_fact_20 : decode cX1_fact 20 = .ok (.iconst 0, 1) := by decide +kernel
theorem dX1_fact_21 : decode cX1_fact 21 = .ok (.goto 9, 3) := by decide +kernel
theorem dX1_fact_24 : decode cX1_fact 24 = .ok (.aload_n 0, 1) := by decide +kernel
theorem dX1_fact_25 : decode cX1_fact 25 = .ok (.getfield 9, 3) := by decide +kernel
theorem dX1_fact_28 : decode cX1_fact 28 = .ok (.iload_n 3, 1) := by decide +kernel
theorem dX1_fact_29 : decode cX1_fact 29 = .ok (.iaload, 1) := by decide +kernel
theorem dX1_fact_30 : decode cX1_fact 30 = .ok (.ireturn, 1) := by decide +kernel
theorem dX1_reason_0 : decode cX1_reason 0 = .ok (.iload_n 3, 1) := by decide +kernel
theorem dX1_reason_1 : decode cX1_reason 1 = .ok (.iload 4, 2) := by decide +kernel
theorem dX1_reason_3 : decode cX1_reason 3 = .ok (.if_icmp .ne 5, 3) := by decide +kernel
theorem dX1_reason_6 : decode cX1_reason 6 = .ok (.iconst 1, 1) := by decide +kernel
theorem dX1_reason_7 : decode cX1_reason 7 = .ok (.ireturn, 1) := by decide +kernel
theorem dX1_reason_8 : decode cX1_reason 8 = .ok (.aload_n 0, 1) := by decide +kernel
theorem dX1_reason_9 : decode cX1_reason 9 = .ok (.iload_n 3, 1) := by decide +kernel
theorem dX1_reason_10 : decode cX1_reason 10 = .ok (.iconst 0, 1) := by decide +kernel
theorem dX1_reason_11 : decode cX1_reason 11 = .ok (.invokevirtual 18, 3) := by decide +kernel
theorem dX1_reason_14 : decode cX1_reason 14 = .ok (.ifCond .ne 5, 3) := by decide +kernel
theorem dX1_reason_17 : decode cX1_reason 17 = .ok (.iconst 2, 1) := by decide +kernel
theorem dX1_reason_18 : decode cX1_reason 18 = .ok (.ireturn, 1) := by decide +kernel
theorem dX1_reason_19 : decode cX1_reason 19 = .ok (.aload_n 0, 1) := by decide +kernel
theorem dX1_reason_20 : decode cX1_reason 20 = .ok (.iload 4, 2) := by decide +kernel
theorem dX1_reason_22 : decode cX1_reason 22 = .ok (.iconst 1, 1) := by decide +kernel
theorem dX1_reason_23 : decode cX1_reason 23 = .ok (.invokevirtual 18, 3) := by decide +kernel
theorem dX1_reason_26 : decode cX1_reason 26 = .ok (.ifCond .ne 5, 3) := by decide +kernel
theorem dX1_reason_29 : decode cX1_reason 29 = .ok (.iconst 3, 1) := by decide +kernel
theorem dX1_reason_30 : decode cX1_reason 30 = .ok (.ireturn, 1) := by decide +kernel
theorem dX1_reason_31 : decode cX1_reason 31 = .ok (.aload_n 0, 1) := by decide +kernel
theorem dX1_reason_32 : decode cX1_reason 32 = .ok (.iload_n 3, 1) := by decide +kernel
theorem dX1_reason_33 : decode cX1_reason 33 = .ok (.bipush 14, 2) := by decide +kernel
theorem dX1_reason_35 : decode cX1_reason 35 = .ok (.iload 4, 2) := by decide +kernel
theorem dX1_reason_37 : decode cX1_reason 37 = .ok (.iadd, 1) := by decide +kernel
theorem dX1_reason_38 : decode cX1_reason 38 = .ok (.invokevirtual 18, 3) := by decide +kernel
theorem dX1_reason_41 : decode cX1_reason 41 = .ok (.ifCond .ne 5, 3) := by decide +kernel
theorem dX1_reason_44 : decode cX1_reason 44 = .ok (.iconst 4, 1) := by decide +kernel
theorem dX1_reason_45 : decode cX1_reason 45 = .ok (.ireturn, 1) := by decide +kernel
theorem dX1_reason_46 : decode cX1_reason 46 = .ok (.aload_n 0, 1) := by decide +kernel
theorem dX1_reason_47 : decode cX1_reason 47 = .ok (.iload_n 3, 1) := by decide +kernel
theorem dX1_reason_48 : decode cX1_reason 48 = .ok (.iconst 4, 1) := by decide +kernel
theorem dX1_reason_49 : decode cX1_reason 49 = .ok (.invokevirtual 18, 3) := by decide +kernel
theorem dX1_reason_52 : decode cX1_reason 52 = .ok (.iload_n 2, 1) := by decide +kernel
theorem dX1_reason_53 : decode cX1_reason 53 = .ok (.if_icmp .le 5, 3) := by decide +kernel
theorem dX1_reason_56 : decode cX1_reason 56 = .ok (.iconst 5, 1) := by decide +kernel
theorem dX1_reason_57 : decode cX1_reason 57 = .ok (.ireturn, 1) := by decide +kernel
theorem dX1_reason_58 : decode cX1_reason 58 = .ok (.iconst 0, 1) := by decide +kernel
theorem dX1_reason_59 : decode cX1_reason 59 = .ok (.istore 5, 2) := by decide +kernel
theorem dX1_reason_61 : decode cX1_reason 61 = .ok (.iload 5, 2) := by decide +kernel
theorem dX1_reason_63 : decode cX1_reason 63 = .ok (.aload_n 1, 1) := by decide +kernel
theorem dX1_reason_64 : decode cX1_reason 64 = .ok (.getfield 22, 3) := by decide +kernel
theorem dX1_reason_67 : decode cX1_reason 67 = .ok (.if_icmp .ge 45, 3) := by decide +kernel
theorem dX1_reason_70 : decode cX1_reason 70 = .ok (.iload 5, 2) := by decide +kernel
theorem dX1_reason_72 : decode cX1_reason 72 = .ok (.bipush 20, 2) := by decide +kernel
theorem dX1_reason_74 : decode cX1_reason 74 = .ok (.if_icmp .ge 38, 3) := by decide +kernel
theorem dX1_reason_77 : decode cX1_reason 77 = .ok (.aload_n 1, 1) := by decide +kernel
theorem dX1_reason_78 : decode cX1_reason 78 = .ok (.getfield 28, 3) := by decide +kernel
theorem dX1_reason_81 : decode cX1_reason 81 = .ok (.iload 5, 2) := by decide +kernel
theorem dX1_reason_83 : decode cX1_reason 83 = .ok (.baload, 1) := by decide +kernel
theorem dX1_reason_84 : decode cX1_reason 84 = .ok (.ifCond .eq 22, 3) := by decide +kernel
theorem dX1_reason_87 : decode cX1_reason 87 = .ok (.aload_n 0, 1) := by decide +kernel
theorem dX1_reason_88 : decode cX1_reason 88 = .ok (.aload_n 1, 1) := by decide +kernel
theorem dX1_reason_89 : decode cX1_reason 89 = .ok (.iload 5, 2) := by decide +kernel
theorem dX1_reason_91 : decode cX1_reason 91 = .ok (.iload_n 3, 1) := by decide +kernel
theorem dX1_reason_92 : decode cX1_reason 92 = .ok (.iload 4, 2) := by decide +kernel
theorem dX1_reason_94 : decode cX1_reason 94 = .ok (.invokevirtual 32, 3) := by decide +kernel
theorem dX1_reason_97 : decode cX1_reason 97 = .ok (.ifCond .eq 9, 3) := by decide +kernel
theorem dX1_reason_100 : decode cX1_reason 100 = .ok (.bipush 10, 2) := by decide +kernel
theorem dX1_reason_102 : decode cX1_reason 102 = .ok (.iload 5, 2) := by decide +kernel
theorem dX1_reason_104 : decode cX1_reason 104 = .ok (.iadd, 1) := by decide +kernel
theorem dX1_reason_105 : decode cX1_reason 105 = .ok (.ireturn, 1) := by decide +kernel
theorem dX1_reason_106 : decode cX1_reason 106 = .ok (.iinc 5 1, 3) := by decide +kernel
theorem dX1_reason_109 : decode cX1_reason 109 = .ok (.goto (-48), 3) := by decide +kernel
theorem dX1_reason_112 : decode cX1_reason 112 = .ok (.iconst 0, 1) := by decide +kernel
theorem dX1_reason_113 : decode cX1_reason 113 = .ok (.ireturn, 1) := by decide +kernel
theorem dX1_costOrNone_0 : decode cX1_costOrNone 0 = .ok (.aload_n 0, 1) := by decide +kernel
theorem dX1_costOrNone_1 : decode cX1_costOrNone 1 = .ok (.aload_n 1, 1) := by decide +kernel
theorem dX1_costOrNone_2 : decode cX1_costOrNone 2 = .ok (.iload_n 2, 1) := by decide +kernel
theorem dX1_costOrNone_3 : decode cX1_costOrNone 3 = .ok (.iload_n 3, 1) := by decide +kernel
theorem dX1_costOrNone_4 : decode cX1_costOrNone 4 = .ok (.iload 4, 2) := by decide +kernel
theorem dX1_costOrNone_6 : decode cX1_costOrNone 6 = .ok (.invokevirtual 36, 3) := by decide +kernel
theorem dX1_costOrNone_9 : decode cX1_costOrNone 9 = .ok (.ifCond .eq 5, 3) := by decide +kernel
theorem dX1_costOrNone_12 : decode cX1_costOrNone 12 = .ok (.iconst (-1), 1) := by decide +kernel
theorem dX1_costOrNone_13 : decode cX1_costOrNone 13 = .ok (.ireturn, 1) := by decide +kernel
theorem dX1_costOrNone_14 : decode cX1_costOrNone 14 = .ok (.aload_n 0, 1) := by decide +kernel
theorem dX1_costOrNone_15 : decode cX1_costOrNone 15 = .ok (.iload_n 3, 1) := by decide +kernel
theorem dX1_costOrNone_16 : decode cX1_costOrNone 16 = .ok (.bipush 14, 2) := by decide +kernel
theorem dX1_costOrNone_18 : decode cX1_costOrNone 18 = .ok (.iload 4, 2) := by decide +kernel
theorem dX1_costOrNone_20 : decode cX1_costOrNone 20 = .ok (.iadd, 1) := by decide +kernel
theorem dX1_costOrNone_21 : decode cX1_costOrNone 21 = .ok (.invokevirtual 18, 3) := by decide +kernel
theorem dX1_costOrNone_24 : decode cX1_costOrNone 24 = .ok (.istore 5, 2) := by decide +kernel
theorem dX1_costOrNone_26 : decode cX1_costOrNone 26 = .ok (.iconst 0, 1) := by decide +kernel
theorem dX1_costOrNone_27 : decode cX1_costOrNone 27 = .ok (.istore 6, 2) := by decide +kernel
theorem dX1_costOrNone_29 : decode cX1_costOrNone 29 = .ok (.iload 6, 2) := by decide +kernel
theorem dX1_costOrNone_31 : decode cX1_costOrNone 31 = .ok (.aload_n 1, 1) := by decide +kernel
theorem dX1_costOrNone_32 : decode cX1_costOrNone 32 = .ok (.getfield 22, 3) := by decide +kernel
theorem dX1_costOrNone_35 : decode cX1_costOrNone 35 = .ok (.if_icmp .ge 66, 3) := by decide +kernel
theorem dX1_costOrNone_38 : decode cX1_costOrNone 38 = .ok (.iload 6, 2) := by decide +kernel
theorem dX1_costOrNone_40 : decode cX1_costOrNone 40 = .ok (.bipush 20, 2) := by decide +kernel
theorem dX1_costOrNone_42 : decode cX1_costOrNone 42 = .ok (.if_icmp .ge 59, 3) := by decide +kernel
theorem dX1_costOrNone_45 : decode cX1_costOrNone 45 = .ok (.aload_n 1, 1) := by decide +kernel
theorem dX1_costOrNone_46 : decode cX1_costOrNone 46 = .ok (.getfield 28, 3) := by decide +kernel
theorem dX1_costOrNone_49 : decode cX1_costOrNone 49 = .ok (.iload 6, 2) := by decide +kernel
theorem dX1_costOrNone_51 : decode cX1_costOrNone 51 = .ok (.baload, 1) := by decide +kernel
theorem dX1_costOrNone_52 : decode cX1_costOrNone 52 = .ok (.ifCond .ne 43, 3) := by decide +kernel
theorem dX1_costOrNone_55 : decode cX1_costOrNone 55 = .ok (.aload_n 0, 1) := by decide +kernel
theorem dX1_costOrNone_56 : decode cX1_costOrNone 56 = .ok (.aload_n 1, 1) := by decide +kernel
theorem dX1_costOrNone_57 : decode cX1_costOrNone 57 = .ok (.iload 6, 2) := by decide +kernel
theorem dX1_costOrNone_59 : decode cX1_costOrNone 59 = .ok (.iload_n 3, 1) := by decide +kernel
theorem dX1_costOrNone_60 : decode cX1_costOrNone 60 = .ok (.iload 4, 2) := by decide +kernel
theorem dX1_costOrNone_62 : decode cX1_costOrNone 62 = .ok (.invokevirtual 32, 3) := by decide +kernel
theorem dX1_costOrNone_65 : decode cX1_costOrNone 65 = .ok (.ifCond .eq 30, 3) := by decide +kernel
theorem dX1_costOrNone_68 : decode cX1_costOrNone 68 = .ok (.iload 5, 2) := by decide +kernel
theorem dX1_costOrNone_70 : decode cX1_costOrNone 70 = .ok (.aload_n 0, 1) := by decide +kernel
theorem dX1_costOrNone_71 : decode cX1_costOrNone 71 = .ok (.aload_n 1, 1) := by decide +kernel
theorem dX1_costOrNone_72 : decode cX1_costOrNone 72 = .ok (.aload_n 1, 1) := by decide +kernel
theorem dX1_costOrNone_73 : decode cX1_costOrNone 73 = .ok (.getfield 40, 3) := by decide +kernel
theorem dX1_costOrNone_76 : decode cX1_costOrNone 76 = .ok (.iload 6, 2) := by decide +kernel
theorem dX1_costOrNone_78 : decode cX1_costOrNone 78 = .ok (.iaload, 1) := by decide +kernel
theorem dX1_costOrNone_79 : decode cX1_costOrNone 79 = .ok (.aload_n 1, 1) := by decide +kernel
theorem dX1_costOrNone_80 : decode cX1_costOrNone 80 = .ok (.getfield 43, 3) := by decide +kernel
theorem dX1_costOrNone_83 : decode cX1_costOrNone 83 = .ok (.iload 6, 2) := by decide +kernel
theorem dX1_costOrNone_85 : decode cX1_costOrNone 85 = .ok (.iaload, 1) := by decide +kernel
theorem dX1_costOrNone_86 : decode cX1_costOrNone 86 = .ok (.iload_n 3, 1) := by decide +kernel
theorem dX1_costOrNone_87 : decode cX1_costOrNone 87 = .ok (.iload 4, 2) := by decide +kernel
theorem dX1_costOrNone_89 : decode cX1_costOrNone 89 = .ok (.invokevirtual 46, 3) := by decide +kernel
theorem dX1_costOrNone_92 : decode cX1_costOrNone 92 = .ok (.iadd, 1) := by decide +kernel
theorem dX1_costOrNone_93 : decode cX1_costOrNone 93 = .ok (.istore 5, 2) := by decide +kernel
theorem dX1_costOrNone_95 : decode cX1_costOrNone 95 = .ok (.iinc 6 1, 3) := by decide +kernel
theorem dX1_costOrNone_98 : decode cX1_costOrNone 98 = .ok (.goto (-69), 3) := by decide +kernel
theorem dX1_costOrNone_101 : decode cX1_costOrNone 101 = .ok (.iconst 0, 1) := by decide +kernel
theorem dX1_costOrNone_102 : decode cX1_costOrNone 102 = .ok (.iload 5, 2) := by decide +kernel
theorem dX1_costOrNone_104 : decode cX1_costOrNone 104 = .ok (.sipush 10000, 3) := by decide +kernel
theorem dX1_costOrNone_107 : decode cX1_costOrNone 107 = .ok (.invokestatic 50, 3) := by decide +kernel
theorem dX1_costOrNone_110 : decode cX1_costOrNone 110 = .ok (.invokestatic 55, 3) := by decide +kernel
theorem dX1_costOrNone_113 : decode cX1_costOrNone 113 = .ok (.ireturn, 1) := by decide +kernel
theorem dX1_holds_0 : decode cX1_holds 0 = .ok (.iload_n 2, 1) := by decide +kernel
theorem dX1_holds_1 : decode cX1_holds 1 = .ok (.ifCond .lt 9, 3) := by decide +kernel
theorem dX1_holds_4 : decode cX1_holds 4 = .ok (.iload_n 2, 1) := by decide +kernel
theorem dX1_holds_5 : decode cX1_holds 5 = .ok (.bipush 20, 2) := by decide +kernel
theorem dX1_holds_7 : decode cX1_holds 7 = .ok (.if_icmp .lt 5, 3) := by decide +kernel
theorem dX1_holds_10 : decode cX1_holds 10 = .ok (.iconst 0, 1) := by decide +kernel
theorem dX1_holds_11 : decode cX1_holds 11 = .ok (.ireturn, 1) := by decide +kernel
theorem dX1_holds_12 : decode cX1_holds 12 = .ok (.aload_n 1, 1) := by decide +kernel
theorem dX1_holds_13 : decode cX1_holds 13 = .ok (.getfield 43, 3) := by decide +kernel
theorem dX1_holds_16 : decode cX1_holds 16 = .ok (.iload_n 2, 1) := by decide +kernel
theorem dX1_holds_17 : decode cX1_holds 17 = .ok (.iaload, 1) := by decide +kernel
theorem dX1_holds_18 : decode cX1_holds 18 = .ok (.aload_n 1, 1) := by decide +kernel
theorem dX1_holds_19 : decode cX1_holds 19 = .ok (.getfield 58, 3) := by decide +kernel
theorem dX1_holds_22 : decode cX1_holds 22 = .ok (.iload_n 2, 1) := by decide +kernel
theorem dX1_holds_23 : decode cX1_holds 23 = .ok (.iaload, 1) := by decide +kernel
theorem dX1_holds_24 : decode cX1_holds 24 = .ok (.if_icmp .ne 7, 3) := by decide +kernel
theorem dX1_holds_27 : decode cX1_holds 27 = .ok (.iconst 1, 1) := by decide +kernel
theorem dX1_holds_28 : decode cX1_holds 28 = .ok (.goto 4, 3) := by decide +kernel
theorem dX1_holds_31 : decode cX1_holds 31 = .ok (.iconst 0, 1) := by decide +kernel
theorem dX1_holds_32 : decode cX1_holds 32 = .ok (.istore 5, 2) := by decide +kernel
theorem dX1_holds_34 : decode cX1_holds 34 = .ok (.iload 5, 2) := by decide +kernel
theorem dX1_holds_36 : decode cX1_holds 36 = .ok (.ifCond .ne 26, 3) := by decide +kernel
theorem dX1_holds_39 : decode cX1_holds 39 = .ok (.aload_n 0, 1) := by decide +kernel
theorem dX1_holds_40 : decode cX1_holds 40 = .ok (.aload_n 1, 1) := by decide +kernel
theorem dX1_holds_41 : decode cX1_holds 41 = .ok (.aload_n 1, 1) := by decide +kernel
theorem dX1_holds_42 : decode cX1_holds 42 = .ok (.getfield 43, 3) := by decide +kernel
theorem dX1_holds_45 : decode cX1_holds 45 = .ok (.iload_n 2, 1) := by decide +kernel
theorem dX1_holds_46 : decode cX1_holds 46 = .ok (.iaload, 1) := by decide +kernel
theorem dX1_holds_47 : decode cX1_holds 47 = .ok (.aload_n 1, 1) := by decide +kernel
theorem dX1_holds_48 : decode cX1_holds 48 = .ok (.getfield 58, 3) := by decide +kernel
theorem dX1_holds_51 : decode cX1_holds 51 = .ok (.iload_n 2, 1) := by decide +kernel
theorem dX1_holds_52 : decode cX1_holds 52 = .ok (.iaload, 1) := by decide +kernel
theorem dX1_holds_53 : decode cX1_holds 53 = .ok (.iload_n 3, 1) := by decide +kernel
theorem dX1_holds_54 : decode cX1_holds 54 = .ok (.iload 4, 2) := by decide +kernel
theorem dX1_holds_56 : decode cX1_holds 56 = .ok (.invokevirtual 46, 3) := by decide +kernel
theorem dX1_holds_59 : decode cX1_holds 59 = .ok (.ifCond .eq 7, 3) := by decide +kernel
theorem dX1_holds_62 : decode cX1_holds 62 = .ok (.iconst 1, 1) := by decide +kernel
theorem dX1_holds_63 : decode cX1_holds 63 = .ok (.goto 4, 3) := by decide +kernel
theorem dX1_holds_66 : decode cX1_holds 66 = .ok (.iconst 0, 1) := by decide +kernel
theorem dX1_holds_67 : decode cX1_holds 67 = .ok (.ireturn, 1) := by decide +kernel
theorem dX1_valueOf_0 : decode cX1_valueOf 0 = .ok (.iconst 0, 1) := by decide +kernel
theorem dX1_valueOf_1 : decode cX1_valueOf 1 = .ok (.istore 6, 2) := by decide +kernel
theorem dX1_valueOf_3 : decode cX1_valueOf 3 = .ok (.iconst 0, 1) := by decide +kernel
theorem dX1_valueOf_4 : decode cX1_valueOf 4 = .ok (.iload_n 2, 1) := by decide +kernel
theorem dX1_valueOf_5 : decode cX1_valueOf 5 = .ok (.invokestatic 55, 3) := by decide +kernel
theorem dX1_valueOf_8 : decode cX1_valueOf 8 = .ok (.istore 7, 2) := by decide +kernel
theorem dX1_valueOf_10 : decode cX1_valueOf 10 = .ok (.iload 7, 2) := by decide +kernel
theorem dX1_valueOf_12 : decode cX1_valueOf 12 = .ok (.iload_n 3, 1) := by decide +kernel
theorem dX1_valueOf_13 : decode cX1_valueOf 13 = .ok (.if_icmp .ge 168, 3) := by decide +kernel
theorem dX1_valueOf_16 : decode cX1_valueOf 16 = .ok (.iload 7, 2) := by decide +kernel
theorem dX1_valueOf_18 : decode cX1_valueOf 18 = .ok (.sipush 600, 3) := by decide +kernel
theorem dX1_valueOf_21 : decode cX1_valueOf 21 = .ok (.if_icmp .ge 160, 3) := by decide +kernel
theorem dX1_valueOf_24 : decode cX1_valueOf 24 = .ok (.aload_n 1, 1) := by decide +kernel
theorem dX1_valueOf_25 : decode cX1_valueOf 25 = .ok (.getfield 61, 3) := by decide +kernel
theorem dX1_valueOf_28 : decode cX1_valueOf 28 = .ok (.iload 7, 2) := by decide +kernel
theorem dX1_valueOf_30 : decode cX1_valueOf 30 = .ok (.iaload, 1) := by decide +kernel
theorem dX1_valueOf_31 : decode cX1_valueOf 31 = .ok (.bipush 16, 2) := by decide +kernel
theorem dX1_valueOf_33 : decode cX1_valueOf 33 = .ok (.ishr, 1) := by decide +kernel
theorem dX1_valueOf_34 : decode cX1_valueOf 34 = .ok (.istore 8, 2) := by decide +kernel
theorem dX1_valueOf_36 : decode cX1_valueOf 36 = .ok (.iload 8, 2) := by decide +kernel
theorem dX1_valueOf_38 : decode cX1_valueOf 38 = .ok (.iconst 2, 1) := by decide +kernel
theorem dX1_valueOf_39 : decode cX1_valueOf 39 = .ok (.if_icmp .gt 43, 3) := by decide +kernel
theorem dX1_valueOf_42 : decode cX1_valueOf 42 = .ok (.iload 6, 2) := by decide +kernel
theorem dX1_valueOf_44 : decode cX1_valueOf 44 = .ok (.bipush 64, 2) := by decide +kernel
theorem dX1_valueOf_46 : decode cX1_valueOf 46 = .ok (.if_icmp .ge 36, 3) := by decide +kernel
theorem dX1_valueOf_49 : decode cX1_valueOf 49 = .ok (.aload_n 0, 1) := by decide +kernel
theorem dX1_valueOf_50 : decode cX1_valueOf 50 = .ok (.getfield 15, 3) := by decide +kernel
theorem dX1_valueOf_53 : decode cX1_valueOf 53 = .ok (.iload 6, 2) := by decide +kernel
theorem dX1_valueOf_55 : decode cX1_valueOf 55 = .ok (.aload_n 0, 1) := by decide +kernel
theorem dX1_valueOf_56 : decode cX1_valueOf 56 = .ok (.iload 8, 2) := by decide +kernel
theorem dX1_valueOf_58 : decode cX1_valueOf 58 = .ok (.aload_n 1, 1) := by decide +kernel
theorem dX1_valueOf_59 : decode cX1_valueOf 59 = .ok (.getfield 61, 3) := by decide +kernel
theorem dX1_valueOf_62 : decode cX1_valueOf 62 = .ok (.iload 7, 2) := by decide +kernel
theorem dX1_valueOf_64 : decode cX1_valueOf 64 = .ok (.iaload, 1) := by decide +kernel
theorem dX1_valueOf_65 : decode cX1_valueOf 65 = .ok (.ldc 64, 2) := by decide +kernel
theorem dX1_valueOf_67 : decode cX1_valueOf 67 = .ok (.iand, 1) := by decide +kernel
theorem dX1_valueOf_68 : decode cX1_valueOf 68 = .ok (.iload 4, 2) := by decide +kernel
theorem dX1_valueOf_70 : decode cX1_valueOf 70 = .ok (.iload 5, 2) := by decide +kernel
theorem dX1_valueOf_72 : decode cX1_valueOf 72 = .ok (.invokevirtual 65, 3) := by decide +kernel
theorem dX1_valueOf_75 : decode cX1_valueOf 75 = .ok (.iastore, 1) := by decide +kernel
theorem dX1_valueOf_76 : decode cX1_valueOf 76 = .ok (.iinc 6 1, 3) := by decide +kernel
theorem dX1_valueOf_79 : decode cX1_valueOf 79 = .ok (.goto 96, 3) := by decide +kernel
theorem dX1_valueOf_82 : decode cX1_valueOf 82 = .ok (.iload 8, 2) := by decide +kernel
theorem dX1_valueOf_84 : decode cX1_valueOf 84 = .ok (.iconst 4, 1) := by decide +kernel
theorem dX1_valueOf_85 : decode cX1_valueOf 85 = .ok (.if_icmp .gt 51, 3) := by decide +kernel
theorem dX1_valueOf_88 : decode cX1_valueOf 88 = .ok (.iload 6, 2) := by decide +kernel
theorem dX1_valueOf_90 : decode cX1_valueOf 90 = .ok (.iconst 1, 1) := by decide +kernel
theorem dX1_valueOf_91 : decode cX1_valueOf 91 = .ok (.if_icmp .lt 45, 3) := by decide +kernel
theorem dX1_valueOf_94 : decode cX1_valueOf 94 = .ok (.aload_n 0, 1) := by decide +kernel
theorem dX1_valueOf_95 : decode cX1_valueOf 95 = .ok (.getfield 15, 3) := by decide +kernel
theorem dX1_valueOf_98 : decode cX1_valueOf 98 = .ok (.iload 6, 2) := by decide +kernel
theorem dX1_valueOf_100 : decode cX1_valueOf 100 = .ok (.iconst 1, 1) := by decide +kernel
theorem dX1_valueOf_101 : decode cX1_valueOf 101 = .ok (.isub, 1) := by decide +kernel
theorem dX1_valueOf_102 : decode cX1_valueOf 102 = .ok (.iload 8, 2) := by decide +kernel
theorem dX1_valueOf_104 : decode cX1_valueOf 104 = .ok (.iconst 3, 1) := by decide +kernel
theorem dX1_valueOf_105 : decode cX1_valueOf 105 = .ok (.if_icmp .ne 16, 3) := by decide +kernel
theorem dX1_valueOf_108 : decode cX1_valueOf 108 = .ok (.aload_n 0, 1) := by decide +kernel
theorem dX1_valueOf_109 : decode cX1_valueOf 109 = .ok (.getfield 15, 3) := by decide +kernel
theorem dX1_valueOf_112 : decode cX1_valueOf 112 = .ok (.iload 6, 2) := by decide +kernel
theorem dX1_valueOf_114 : decode cX1_valueOf 114 = .ok (.iconst 1, 1) := by decide +kernel
theorem dX1_valueOf_115 : decode cX1_valueOf 115 = .ok (.isub, 1) := by decide +kernel
theorem dX1_valueOf_116 : decode cX1_valueOf 116 = .ok (.iaload, 1) := by decide +kernel
theorem dX1_valueOf_117 : decode cX1_valueOf 117 = .ok (.ineg, 1) := by decide +kernel
theorem dX1_valueOf_118 : decode cX1_valueOf 118 = .ok (.goto 14, 3) := by decide +kernel
theorem dX1_valueOf_121 : decode cX1_valueOf 121 = .ok (.iconst 1, 1) := by decide +kernel
theorem dX1_valueOf_122 : decode cX1_valueOf 122 = .ok (.aload_n 0, 1) := by decide +kernel
theorem dX1_valueOf_123 : decode cX1_valueOf 123 = .ok (.getfield 15, 3) := by decide +kernel
theorem dX1_valueOf_126 : decode cX1_valueOf 126 = .ok (.iload 6, 2) := by decide +kernel
theorem dX1_valueOf_128 : decode cX1_valueOf 128 = .ok (.iconst 1, 1) := by decide +kernel
theorem dX1_valueOf_129 : decode cX1_valueOf 129 = .ok (.isub, 1) := by decide +kernel
theorem dX1_valueOf_130 : decode cX1_valueOf 130 = .ok (.iaload, 1) := by decide +kernel
theorem dX1_valueOf_131 : decode cX1_valueOf 131 = .ok (.isub, 1) := by decide +kernel
theorem dX1_valueOf_132 : decode cX1_valueOf 132 = .ok (.iastore, 1) := by decide +kernel
theorem dX1_valueOf_133 : decode cX1_valueOf 133 = .ok (.goto 42, 3) := by decide +kernel
theorem dX1_valueOf_136 : decode cX1_valueOf 136 = .ok (.iload 6, 2) := by decide +kernel
theorem dX1_valueOf_138 : decode cX1_valueOf 138 = .ok (.iconst 2, 1) := by decide +kernel
theorem dX1_valueOf_139 : decode cX1_valueOf 139 = .ok (.if_icmp .lt 36, 3) := by decide +kernel
theorem dX1_valueOf_142 : decode cX1_valueOf 142 = .ok (.iinc 6 (-1), 3) := by decide +kernel
theorem dX1_valueOf_145 : decode cX1_valueOf 145 = .ok (.aload_n 0, 1) := by decide +kernel
theorem dX1_valueOf_146 : decode cX1_valueOf 146 = .ok (.getfield 15, 3) := by decide +kernel
theorem dX1_valueOf_149 : decode cX1_valueOf 149 = .ok (.iload 6, 2) := by decide +kernel
theorem dX1_valueOf_151 : decode cX1_valueOf 151 = .ok (.iconst 1, 1) := by decide +kernel
theorem dX1_valueOf_152 : decode cX1_valueOf 152 = .ok (.isub, 1) := by decide +kernel
theorem dX1_valueOf_153 : decode cX1_valueOf 153 = .ok (.iload 8, 2) := by decide +kernel
theorem dX1_valueOf_155 : decode cX1_valueOf 155 = .ok (.aload_n 0, 1) := by decide +kernel
theorem dX1_valueOf_156 : decode cX1_valueOf 156 = .ok (.getfield 15, 3) := by decide +kernel
theorem dX1_valueOf_159 : decode cX1_valueOf 159 = .ok (.iload 6, 2) := by decide +kernel
theorem dX1_valueOf_161 : decode cX1_valueOf 161 = .ok (.iconst 1, 1) := by decide +kernel
theorem dX1_valueOf_162 : decode cX1_valueOf 162 = .ok (.isub, 1) := by decide +kernel
theorem dX1_valueOf_163 : decode cX1_valueOf 163 = .ok (.iaload, 1) := by decide +kernel
theorem dX1_valueOf_164 : decode cX1_valueOf 164 = .ok (.aload_n 0, 1) := by decide +kernel
theorem dX1_valueOf_165 : decode cX1_valueOf 165 = .ok (.getfield 15, 3) := by decide +kernel
theorem dX1_valueOf_168 : decode cX1_valueOf 168 = .ok (.iload 6, 2) := by decide +kernel
theorem dX1_valueOf_170 : decode cX1_valueOf 170 = .ok (.iaload, 1) := by decide +kernel
theorem dX1_valueOf_171 : decode cX1_valueOf 171 = .ok (.invokestatic 69, 3) := by decide +kernel
theorem dX1_valueOf_174 : decode cX1_valueOf 174 = .ok (.iastore, 1) := by decide +kernel
theorem dX1_valueOf_175 : decode cX1_valueOf 175 = .ok (.iinc 7 1, 3) := by decide +kernel
theorem dX1_valueOf_178 : decode cX1_valueOf 178 = .ok (.goto (-168), 3) := by decide +kernel
theorem dX1_valueOf_181 : decode cX1_valueOf 181 = .ok (.iload 6, 2) := by decide +kernel
theorem dX1_valueOf_183 : decode cX1_valueOf 183 = .ok (.iconst 1, 1) := by decide +kernel
theorem dX1_valueOf_184 : decode cX1_valueOf 184 = .ok (.if_icmp .lt 15, 3) := by decide +kernel
theorem dX1_valueOf_187 : decode cX1_valueOf 187 = .ok (.aload_n 0, 1) := by decide +kernel
theorem dX1_valueOf_188 : decode cX1_valueOf 188 = .ok (.getfield 15, 3) := by decide +kernel
theorem dX1_valueOf_191 : decode cX1_valueOf 191 = .ok (.iload 6, 2) := by decide +kernel
theorem dX1_valueOf_193 : decode cX1_valueOf 193 = .ok (.iconst 1, 1) := by decide +kernel
theorem dX1_valueOf_194 : decode cX1_valueOf 194 = .ok (.isub, 1) := by decide +kernel
theorem dX1_valueOf_195 : decode cX1_valueOf 195 = .ok (.iaload, 1) := by decide +kernel
theorem dX1_valueOf_196 : decode cX1_valueOf 196 = .ok (.goto 4, 3) := by decide +kernel
theorem dX1_valueOf_199 : decode cX1_valueOf 199 = .ok (.iconst 0, 1) := by decide +kernel
theorem dX1_valueOf_200 : decode cX1_valueOf 200 = .ok (.ireturn, 1) := by decide +kernel
theorem dX1_leaf_0 : decode cX1_leaf 0 = .ok (.iload_n 1, 1) := by decide +kernel
theorem dX1_leaf_1 : decode cX1_leaf 1 = .ok (.ifCond .ne 5, 3) := by decide +kernel
theorem dX1_leaf_4 : decode cX1_leaf 4 = .ok (.iload_n 2, 1) := by decide +kernel
theorem dX1_leaf_5 : decode cX1_leaf 5 = .ok (.ireturn, 1) := by decide +kernel
theorem dX1_leaf_6 : decode cX1_leaf 6 = .ok (.aload_n 0, 1) := by decide +kernel
theorem dX1_leaf_7 : decode cX1_leaf 7 = .ok (.iload_n 1, 1) := by decide +kernel
theorem dX1_leaf_8 : decode cX1_leaf 8 = .ok (.iconst 1, 1) := by decide +kernel
theorem dX1_leaf_9 : decode cX1_leaf 9 = .ok (.if_icmp .ne 7, 3) := by decide +kernel
theorem dX1_leaf_12 : decode cX1_leaf 12 = .ok (.iload_n 3, 1) := by decide +kernel
theorem dX1_leaf_13 : decode cX1_leaf 13 = .ok (.goto 5, 3) := by decide +kernel
theorem dX1_leaf_16 : decode cX1_leaf 16 = .ok (.iload 4, 2) := by decide +kernel
theorem dX1_leaf_18 : decode cX1_leaf 18 = .ok (.bipush 6, 2) := by decide +kernel
theorem dX1_leaf_20 : decode cX1_leaf 20 = .ok (.iload_n 2, 1) := by decide +kernel
theorem dX1_leaf_21 : decode cX1_leaf 21 = .ok (.iadd, 1) := by decide +kernel
theorem dX1_leaf_22 : decode cX1_leaf 22 = .ok (.invokevirtual 18, 3) := by decide +kernel
theorem dX1_leaf_25 : decode cX1_leaf 25 = .ok (.ireturn, 1) := by decide +kernel
theorem dX1_combine_0 : decode cX1_combine 0 = .ok (.iload_n 0, 1) := by decide +kernel
theorem dX1_combine_1 : decode cX1_combine 1 = .ok (.tableswitch 107 5 12 #[47, 51, 55, 59, 70, 81, 92, 103], 47) := by decide +kernel
theorem dX1_combine_48 : decode cX1_combine 48 = .ok (.iload_n 1, 1) := by decide +kernel
theorem dX1_combine_49 : decode cX1_combine 49 = .ok (.iload_n 2, 1) := by decide +kernel
theorem dX1_combine_50 : decode cX1_combine 50 = .ok (.iadd, 1) := by decide +kernel
theorem dX1_combine_51 : decode cX1_combine 51 = .ok (.ireturn, 1) := by decide +kernel
theorem dX1_combine_52 : decode cX1_combine 52 = .ok (.iload_n 1, 1) := by decide +kernel
theorem dX1_combine_53 : decode cX1_combine 53 = .ok (.iload_n 2, 1) := by decide +kernel
theorem dX1_combine_54 : decode cX1_combine 54 = .ok (.isub, 1) := by decide +kernel
theorem dX1_combine_55 : decode cX1_combine 55 = .ok (.ireturn, 1) := by decide +kernel
theorem dX1_combine_56 : decode cX1_combine 56 = .ok (.iload_n 1, 1) := by decide +kernel
theorem dX1_combine_57 : decode cX1_combine 57 = .ok (.iload_n 2, 1) := by decide +kernel
theorem dX1_combine_58 : decode cX1_combine 58 = .ok (.imul, 1) := by decide +kernel
theorem dX1_combine_59 : decode cX1_combine 59 = .ok (.ireturn, 1) := by decide +kernel
theorem dX1_combine_60 : decode cX1_combine 60 = .ok (.iload_n 1, 1) := by decide +kernel
theorem dX1_combine_61 : decode cX1_combine 61 = .ok (.iload_n 2, 1) := by decide +kernel
theorem dX1_combine_62 : decode cX1_combine 62 = .ok (.if_icmp .ne 7, 3) := by decide +kernel
theorem dX1_combine_65 : decode cX1_combine 65 = .ok (.iconst 1, 1) := by decide +kernel
theorem dX1_combine_66 : decode cX1_combine 66 = .ok (.goto 4, 3) := by decide +kernel
theorem dX1_combine_69 : decode cX1_combine 69 = .ok (.iconst 0, 1) := by decide +kernel
theorem dX1_combine_70 : decode cX1_combine 70 = .ok (.ireturn, 1) := by decide +kernel
theorem dX1_combine_71 : decode cX1_combine 71 = .ok (.iload_n 1, 1) := by decide +kernel
theorem dX1_combine_72 : decode cX1_combine 72 = .ok (.iload_n 2, 1) := by decide +kernel
theorem dX1_combine_73 : decode cX1_combine 73 = .ok (.if_icmp .eq 7, 3) := by decide +kernel
theorem dX1_combine_76 : decode cX1_combine 76 = .ok (.iconst 1, 1) := by decide +kernel
theorem dX1_combine_77 : decode cX1_combine 77 = .ok (.goto 4, 3) := by decide +kernel
theorem dX1_combine_80 : decode cX1_combine 80 = .ok (.iconst 0, 1) := by decide +kernel
theorem dX1_combine_81 : decode cX1_combine 81 = .ok (.ireturn, 1) := by decide +kernel
theorem dX1_combine_82 : decode cX1_combine 82 = .ok (.iload_n 1, 1) := by decide +kernel
theorem dX1_combine_83 : decode cX1_combine 83 = .ok (.iload_n 2, 1) := by decide +kernel
theorem dX1_combine_84 : decode cX1_combine 84 = .ok (.if_icmp .ge 7, 3) := by decide +kernel
theorem dX1_combine_87 : decode cX1_combine 87 = .ok (.iconst 1, 1) := by decide +kernel
theorem dX1_combine_88 : decode cX1_combine 88 = .ok (.goto 4, 3) := by decide +kernel
theorem dX1_combine_91 : decode cX1_combine 91 = .ok (.iconst 0, 1) := by decide +kernel
theorem dX1_combine_92 : decode cX1_combine 92 = .ok (.ireturn, 1) := by decide +kernel
theorem dX1_combine_93 : decode cX1_combine 93 = .ok (.iload_n 1, 1) := by decide +kernel
theorem dX1_combine_94 : decode cX1_combine 94 = .ok (.iload_n 2, 1) := by decide +kernel
theorem dX1_combine_95 : decode cX1_combine 95 = .ok (.if_icmp .gt 7, 3) := by decide +kernel
theorem dX1_combine_98 : decode cX1_combine 98 = .ok (.iconst 1, 1) := by decide +kernel
theorem dX1_combine_99 : decode cX1_combine 99 = .ok (.goto 4, 3) := by decide +kernel
theorem dX1_combine_102 : decode cX1_combine 102 = .ok (.iconst 0, 1) := by decide +kernel
theorem dX1_combine_103 : decode cX1_combine 103 = .ok (.ireturn, 1) := by decide +kernel
theorem dX1_combine_104 : decode cX1_combine 104 = .ok (.iload_n 1, 1) := by decide +kernel
theorem dX1_combine_105 : decode cX1_combine 105 = .ok (.iload_n 2, 1) := by decide +kernel
theorem dX1_combine_106 : decode cX1_combine 106 = .ok (.iand, 1) := by decide +kernel
theorem dX1_combine_107 : decode cX1_combine 107 = .ok (.ireturn, 1) := by decide +kernel
theorem dX1_combine_108 : decode cX1_combine 108 = .ok (.iload_n 1, 1) := by decide +kernel
theorem dX1_combine_109 : decode cX1_combine 109 = .ok (.iload_n 2, 1) := by decide +kernel
theorem dX1_combine_110 : decode cX1_combine 110 = .ok (.ior, 1) := by decide +kernel
theorem dX1_combine_111 : decode cX1_combine 111 = .ok (.ireturn, 1) := by decide +kernel
theorem dX2_init_0 : decode cX2_init 0 = .ok (.aload_n 0, 1) := by decide +kernel
theorem dX2_init_1 : decode cX2_init 1 = .ok (.invokespecial 3, 3) := by decide +kernel
theorem dX2_init_4 : decode cX2_init 4 = .ok (.aload_n 0, 1) := by decide +kernel
theorem dX2_init_5 : decode cX2_init 5 = .ok (.bipush 12, 2) := by decide +kernel
theorem dX2_init_7 : decode cX2_init 7 = .ok (.newarray .int, 2) := by decide +kernel
theorem dX2_init_9 : decode cX2_init 9 = .ok (.putfield 9, 3) := by decide +kernel
theorem dX2_init_12 : decode cX2_init 12 = .ok (.aload_n 0, 1) := by decide +kernel
theorem dX2_init_13 : decode cX2_init 13 = .ok (.bipush 12, 2) := by decide +kernel
theorem dX2_init_15 : decode cX2_init 15 = .ok (.newarray .int, 2) := by decide +kernel
theorem dX2_init_17 : decode cX2_init 17 = .ok (.putfield 15, 3) := by decide +kernel
theorem dX2_init_20 : decode cX2_init 20 = .ok (.aload_n 0, 1) := by decide +kernel
theorem dX2_init_21 : decode cX2_init 21 = .ok (.bipush 12, 2) := by decide +kernel
theorem dX2_init_23 : decode cX2_init 23 = .ok (.newarray .int, 2) := by decide +kernel
theorem dX2_init_25 : decode cX2_init 25 = .ok (.putfield 18, 3) := by decide +kernel
theorem dX2_init_28 : decode cX2_init 28 = .ok (.return_, 1) := by decide +kernel
theorem dX2_settle_0 : decode cX2_settle 0 = .ok (.iload_n 1, 1) := by decide +kernel
theorem dX2_settle_1 : decode cX2_settle 1 = .ok (.ifCond .lt 14, 3) := by decide +kernel
theorem dX2_settle_4 : decode cX2_settle 4 = .ok (.iload_n 1, 1) := by decide +kernel
theorem dX2_settle_5 : decode cX2_settle 5 = .ok (.bipush 12, 2) := by decide +kernel
theorem dX2_settle_7 : decode cX2_settle 7 = .ok (.if_icmp .ge 8, 3) := by decide +kernel
theorem dX2_settle_10 : decode cX2_settle 10 = .ok (.iload_n 2, 1) := by decide +kernel
theorem dX2_settle_11 : decode cX2_settle 11 = .ok (.iload_n 3, 1) := by decide +kernel
theorem dX2_settle_12 : decode cX2_settle 12 = .ok (.if_icmp .ne 4, 3) := by decide +kernel
theorem dX2_settle_15 : decode cX2_settle 15 = .ok (.return_, 1) := by decide +kernel
theorem dX2_settle_16 : decode cX2_settle 16 = .ok (.iload_n 2, 1) := by decide +kernel
theorem dX2_settle_17 : decode cX2_settle 17 = .ok (.ifCond .eq 16, 3) := by decide +kernel
theorem dX2_settle_20 : decode cX2_settle 20 = .ok (.aload_n 0, 1) := by decide +kernel
theorem dX2_settle_21 : decode cX2_settle 21 = .ok (.getfield 9, 3) := by decide +kernel
theorem dX2_settle_24 : decode cX2_settle 24 = .ok (.iload_n 1, 1) := by decide +kernel
theorem dX2_settle_25 : decode cX2_settle 25 = .ok (.dup2, 1) := by decide +kernel
theorem dX2_settle_26 : decode cX2_settle 26 = .ok (.iaload, 1) := by decide +kernel
theorem dX2_settle_27 : decode cX2_settle 27 = .ok (.iconst 1, 1) := by decide +kernel
theorem dX2_settle_28 : decode cX2_settle 28 = .ok (.iadd, 1) := by decide +kernel
theorem dX2_settle_29 : decode cX2_settle 29 = .ok (.iastore, 1) := by decide +kernel
theorem dX2_settle_30 : decode cX2_settle 30 = .ok (.goto 35, 3) := by decide +kernel
theorem dX2_settle_33 : decode cX2_settle 33 = .ok (.aload_n 0, 1) := by decide +kernel
theorem dX2_settle_34 : decode cX2_settle 34 = .ok (.getfield 9, 3) := by decide +kernel
theorem dX2_settle_37 : decode cX2_settle 37 = .ok (.iload_n 1, 1) := by decide +kernel
theorem dX2_settle_38 : decode cX2_settle 38 = .ok (.iaload, 1) := by decide +kernel
theorem dX2_settle_39 : decode cX2_settle 39 = .ok (.ifCond .le 16, 3) := by decide +kernel
theorem dX2_settle_42 : decode cX2_settle 42 = .ok (.aload_n 0, 1) := by decide +kernel
theorem dX2_settle_43 : decode cX2_settle 43 = .ok (.getfield 9, 3) := by decide +kernel
theorem dX2_settle_46 : decode cX2_settle 46 = .ok (.iload_n 1, 1) := by decide +kernel
theorem dX2_settle_47 : decode cX2_settle 47 = .ok (.dup2, 1) := by decide +kernel
theorem dX2_settle_48 : decode cX2_settle 48 = .ok (.iaload, 1) := by decide +kernel
theorem dX2_settle_49 : decode cX2_settle 49 = .ok (.iconst 1, 1) := by decide +kernel
theorem dX2_settle_50 : decode cX2_settle 50 = .ok (.isub, 1) := by decide +kernel
theorem dX2_settle_51 : decode cX2_settle 51 = .ok (.iastore, 1) := by decide +kernel
theorem dX2_settle_52 : decode cX2_settle 52 = .ok (.goto 13, 3) := by decide +kernel
theorem dX2_settle_55 : decode cX2_settle 55 = .ok (.aload_n 0, 1) := by decide +kernel
theorem dX2_settle_56 : decode cX2_settle 56 = .ok (.getfield 15, 3) := by decide +kernel
theorem dX2_settle_59 : decode cX2_settle 59 = .ok (.iload_n 1, 1) := by decide +kernel
theorem dX2_settle_60 : decode cX2_settle 60 = .ok (.dup2, 1) := by decide +kernel
theorem dX2_settle_61 : decode cX2_settle 61 = .ok (.iaload, 1) := by decide +kernel
theorem dX2_settle_62 : decode cX2_settle 62 = .ok (.iconst 1, 1) := by decide +kernel
theorem dX2_settle_63 : decode cX2_settle 63 = .ok (.iadd, 1) := by decide +kernel
theorem dX2_settle_64 : decode cX2_settle 64 = .ok (.iastore, 1) := by decide +kernel
theorem dX2_settle_65 : decode cX2_settle 65 = .ok (.return_, 1) := by decide +kernel
theorem dX2_pay_0 : decode cX2_pay 0 = .ok (.iload_n 1, 1) := by decide +kernel
theorem dX2_pay_1 : decode cX2_pay 1 = .ok (.ifCond .lt 39, 3) := by decide +kernel
theorem dX2_pay_4 : decode cX2_pay 4 = .ok (.iload_n 1, 1) := by decide +kernel
theorem dX2_pay_5 : decode cX2_pay 5 = .ok (.bipush 12, 2) := by decide +kernel
theorem dX2_pay_7 : decode cX2_pay 7 = .ok (.if_icmp .ge 33, 3) := by decide +kernel
theorem dX2_pay_10 : decode cX2_pay 10 = .ok (.iload_n 2, 1) := by decide +kernel
theorem dX2_pay_11 : decode cX2_pay 11 = .ok (.ifCond .lt 29, 3) := by decide +kernel
theorem dX2_pay_14 : decode cX2_pay 14 = .ok (.iload_n 2, 1) := by decide +kernel
theorem dX2_pay_15 : decode cX2_pay 15 = .ok (.bipush 12, 2) := by decide +kernel
theorem dX2_pay_17 : decode cX2_pay 17 = .ok (.if_icmp .ge 23, 3) := by decide +kernel
theorem dX2_pay_20 : decode cX2_pay 20 = .ok (.aload_n 0, 1) := by decide +kernel
theorem dX2_pay_21 : decode cX2_pay 21 = .ok (.getfield 18, 3) := by decide +kernel
theorem dX2_pay_24 : decode cX2_pay 24 = .ok (.iload_n 1, 1) := by decide +kernel
theorem dX2_pay_25 : decode cX2_pay 25 = .ok (.dup2, 1) := by decide +kernel
theorem dX2_pay_26 : decode cX2_pay 26 = .ok (.iaload, 1) := by decide +kernel
theorem dX2_pay_27 : decode cX2_pay 27 = .ok (.iload_n 3, 1) := by decide +kernel
theorem dX2_pay_28 : decode cX2_pay 28 = .ok (.isub, 1) := by decide +kernel
theorem dX2_pay_29 : decode cX2_pay 29 = .ok (.iastore, 1) := by decide +kernel
theorem dX2_pay_30 : decode cX2_pay 30 = .ok (.aload_n 0, 1) := by decide +kernel
theorem dX2_pay_31 : decode cX2_pay 31 = .ok (.getfield 18, 3) := by decide +kernel
theorem dX2_pay_34 : decode cX2_pay 34 = .ok (.iload_n 2, 1) := by decide +kernel
theorem dX2_pay_35 : decode cX2_pay 35 = .ok (.dup2, 1) := by decide +kernel
theorem dX2_pay_36 : decode cX2_pay 36 = .ok (.iaload, 1) := by decide +kernel
theorem dX2_pay_37 : decode cX2_pay 37 = .ok (.iload_n 3, 1) := by decide +kernel
theorem dX2_pay_38 : decode cX2_pay 38 = .ok (.iadd, 1) := by decide +kernel
theorem dX2_pay_39 : decode cX2_pay 39 = .ok (.iastore, 1) := by decide +kernel
theorem dX2_pay_40 : decode cX2_pay 40 = .ok (.return_, 1) := by decide +kernel
theorem dX3_init_0 : decode cX3_init 0 = .ok (.aload_n 0, 1) := by decide +kernel
theorem dX3_init_1 : decode cX3_init 1 = .ok (.invokespecial 3, 3) := by decide +kernel
theorem dX3_init_4 : decode cX3_init 4 = .ok (.aload_n 0, 1) := by decide +kernel
theorem dX3_init_5 : decode cX3_init 5 = .ok (.sipush 144, 3) := by decide +kernel
theorem dX3_init_8 : decode cX3_init 8 = .ok (.newarray .long, 2) := by decide +kernel
theorem dX3_init_10 : decode cX3_init 10 = .ok (.putfield 9, 3) := by decide +kernel
theorem dX3_init_13 : decode cX3_init 13 = .ok (.aload_n 0, 1) := by decide +kernel
theorem dX3_init_14 : decode cX3_init 14 = .ok (.bipush 13, 2) := by decide +kernel
theorem dX3_init_16 : decode cX3_init 16 = .ok (.newarray .int, 2) := by decide +kernel
theorem dX3_init_18 : decode cX3_init 18 = .ok (.putfield 15, 3) := by decide +kernel
theorem dX3_init_21 : decode cX3_init 21 = .ok (.aload_n 0, 1) := by decide +kernel
theorem dX3_init_22 : decode cX3_init 22 = .ok (.bipush 12, 2) := by decide +kernel
theorem dX3_init_24 : decode cX3_init 24 = .ok (.newarray .long, 2) := by decide +kernel
theorem dX3_init_26 : decode cX3_init 26 = .ok (.putfield 19, 3) := by decide +kernel
theorem dX3_init_29 : decode cX3_init 29 = .ok (.aload_n 0, 1) := by decide +kernel
theorem dX3_init_30 : decode cX3_init 30 = .ok (.bipush 13, 2) := by decide +kernel
theorem dX3_init_32 : decode cX3_init 32 = .ok (.newarray .long, 2) := by decide +kernel
theorem dX3_init_34 : decode cX3_init 34 = .ok (.putfield 22, 3) := by decide +kernel
theorem dX3_init_37 : decode cX3_init 37 = .ok (.aload_n 0, 1) := by decide +kernel
theorem dX3_init_38 : decode cX3_init 38 = .ok (.bipush 13, 2) := by decide +kernel
theorem dX3_init_40 : decode cX3_init 40 = .ok (.newarray .long, 2) := by decide +kernel
theorem dX3_init_42 : decode cX3_init 42 = .ok (.putfield 25, 3) := by decide +kernel
theorem dX3_init_45 : decode cX3_init 45 = .ok (.aload_n 0, 1) := by decide +kernel
theorem dX3_init_46 : decode cX3_init 46 = .ok (.bipush 13, 2) := by decide +kernel
theorem dX3_init_48 : decode cX3_init 48 = .ok (.newarray .int, 2) := by decide +kernel
theorem dX3_init_50 : decode cX3_init 50 = .ok (.putfield 28, 3) := by decide +kernel
theorem dX3_init_53 : decode cX3_init 53 = .ok (.aload_n 0, 1) := by decide +kernel
theorem dX3_init_54 : decode cX3_init 54 = .ok (.bipush 13, 2) := by decide +kernel
theorem dX3_init_56 : decode cX3_init 56 = .ok (.newarray .boolean, 2) := by decide +kernel
theorem dX3_init_58 : decode cX3_init 58 = .ok (.putfield 31, 3) := by decide +kernel
theorem dX3_init_61 : decode cX3_init 61 = .ok (.return_, 1) := by decide +kernel
theorem dX3_solve_0 : decode cX3_solve 0 = .ok (.iconst 0, 1) := by decide +kernel
theorem dX3_solve_1 : decode cX3_solve 1 = .ok (.iload_n 1, 1) := by decide +kernel
theorem dX3_solve_2 : decode cX3_solve 2 = .ok (.bipush 12, 2) := by decide +kernel
theorem dX3_solve_4 : decode cX3_solve 4 = .ok (.invokestatic 35, 3) := by decide +kernel
theorem dX3_solve_7 : decode cX3_solve 7 = .ok (.invokestatic 41, 3) := by decide +kernel
theorem dX3_solve_10 : decode cX3_solve 10 = .ok (.istore_n 2, 1) := by decide +kernel
theorem dX3_solve_11 : decode cX3_solve 11 = .ok (.iconst 0, 1) := by decide +kernel
theorem dX3_solve_12 : decode cX3_solve 12 = .ok (.istore_n 3, 1) := by decide +kernel
theorem dX3_solve_13 : decode cX3_solve 13 = .ok (.iload_n 3, 1) := by decide +kernel
theorem dX3_solve_14 : decode cX3_solve 14 = .ok (.bipush 12, 2) := by decide +kernel
theorem dX3_solve_16 : decode cX3_solve 16 = .ok (.if_icmp .gt 36, 3) := by decide +kernel
theorem dX3_solve_19 : decode cX3_solve 19 = .ok (.aload_n 0, 1) := by decide +kernel
theorem dX3_solve_20 : decode cX3_solve 20 = .ok (.getfield 15, 3) := by decide +kernel
theorem dX3_solve_23 : decode cX3_solve 23 = .ok (.iload_n 3, 1) := by decide +kernel
theorem dX3_solve_24 : decode cX3_solve 24 = .ok (.iconst (-1), 1) := by decide +kernel
theorem dX3_solve_25 : decode cX3_solve 25 = .ok (.iastore, 1) := by decide +kernel
theorem dX3_solve_26 : decode cX3_solve 26 = .ok (.aload_n 0, 1) := by decide +kernel
theorem dX3_solve_27 : decode cX3_solve 27 = .ok (.getfield 22, 3) := by decide +kernel
theorem dX3_solve_30 : decode cX3_solve 30 = .ok (.iload_n 3, 1) := by decide +kernel
theorem dX3_solve_31 : decode cX3_solve 31 = .ok (.lconst 0, 1) := by decide +kernel
theorem dX3_solve_32 : decode cX3_solve 32 = .ok (.lastore, 1) := by decide +kernel
theorem dX3_solve_33 : decode cX3_solve 33 = .ok (.iload_n 3, 1) := by decide +kernel
theorem dX3_solve_34 : decode cX3_solve 34 = .ok (.bipush 12, 2) := by decide +kernel
theorem dX3_solve_36 : decode cX3_solve 36 = .ok (.if_icmp .ge 10, 3) := by decide +kernel
theorem dX3_solve_39 : decode cX3_solve 39 = .ok (.aload_n 0, 1) := by decide +kernel
theorem dX3_solve_40 : decode cX3_solve 40 = .ok (.getfield 19, 3) := by decide +kernel
theorem dX3_solve_43 : decode cX3_solve 43 = .ok (.iload_n 3, 1) := by decide +kernel
theorem dX3_solve_44 : decode cX3_solve 44 = .ok (.lconst 0, 1) := by decide +kernel
theorem dX3_solve_45 : decode cX3_solve 45 = .ok (.lastore, 1) := by decide +kernel
theorem dX3_solve_46 : decode cX3_solve 46 = .ok (.iinc 3 1, 3) := by decide +kernel
theorem dX3_solve_49 : decode cX3_solve 49 = .ok (.goto (-36), 3) := by decide +kernel
theorem dX3_solve_52 : decode cX3_solve 52 = .ok (.iconst 0, 1) := by decide +kernel
theorem dX3_solve_53 : decode cX3_solve 53 = .ok (.istore_n 3, 1) := by decide +kernel
theorem dX3_solve_54 : decode cX3_solve 54 = .ok (.iload_n 3, 1) := by decide +kernel
theorem dX3_solve_55 : decode cX3_solve 55 = .ok (.iload_n 2, 1) := by decide +kernel
theorem dX3_solve_56 : decode cX3_solve 56 = .ok (.if_icmp .ge 15, 3) := by decide +kernel
theorem dX3_solve_59 : decode cX3_solve 59 = .ok (.aload_n 0, 1) := by decide +kernel
theorem dX3_solve_60 : decode cX3_solve 60 = .ok (.iload_n 3, 1) := by decide +kernel
theorem dX3_solve_61 : decode cX3_solve 61 = .ok (.iload_n 2, 1) := by decide +kernel
theorem dX3_solve_62 : decode cX3_solve 62 = .ok (.invokevirtual 44, 3) := by decide +kernel
theorem dX3_solve_65 : decode cX3_solve 65 = .ok (.iinc 3 1, 3) := by decide +kernel
theorem dX3_solve_68 : decode cX3_solve 68 = .ok (.goto (-14), 3) := by decide +kernel
theorem dX3_solve_71 : decode cX3_solve 71 = .ok (.return_, 1) := by decide +kernel
theorem dX3_isTight_0 : decode cX3_isTight 0 = .ok (.iload_n 1, 1) := by decide +kernel
theorem dX3_isTight_1 : decode cX3_isTight 1 = .ok (.ifCond .lt 19, 3) := by decide +kernel
theorem dX3_isTight_4 : decode cX3_isTight 4 = .ok (.iload_n 1, 1) := by decide +kernel
theorem dX3_isTight_5 : decode cX3_isTight 5 = .ok (.bipush 12, 2) := by decide +kernel
theorem dX3_isTight_7 : decode cX3_isTight 7 = .ok (.if_icmp .ge 13, 3) := by decide +kernel
theorem dX3_isTight_10 : decode cX3_isTight 10 = .ok (.iload_n 2, 1) := by decide +kernel
theorem dX3_isTight_11 : decode cX3_isTight 11 = .ok (.ifCond .lt 9, 3) := by decide +kernel
theorem dX3_isTight_14 : decode cX3_isTight 14 = .ok (.iload_n 2, 1) := by decide +kernel
theorem dX3_isTight_15 : decode cX3_isTight 15 = .ok (.bipush 12, 2) := by decide +kernel
theorem dX3_isTight_17 : decode cX3_isTight 17 = .ok (.if_icmp .lt 5, 3) := by decide +kernel
theorem dX3_isTight_20 : decode cX3_isTight 20 = .ok (.iconst 0, 1) := by decide +kernel
theorem dX3_isTight_21 : decode cX3_isTight 21 = .ok (.ireturn, 1) := by decide +kernel
theorem dX3_isTight_22 : decode cX3_isTight 22 = .ok (.aload_n 0, 1) := by decide +kernel
theorem dX3_isTight_23 : decode cX3_isTight 23 = .ok (.getfield 9, 3) := by decide +kernel
theorem dX3_isTight_26 : decode cX3_isTight 26 = .ok (.iload_n 1, 1) := by decide +kernel
theorem dX3_isTight_27 : decode cX3_isTight 27 = .ok (.bipush 12, 2) := by decide +kernel
theorem dX3_isTight_29 : decode cX3_isTight 29 = .ok (.imul, 1) := by decide +kernel
theorem dX3_isTight_30 : decode cX3_isTight 30 = .ok (.iload_n 2, 1) := by decide +kernel
theorem dX3_isTight_31 : decode cX3_isTight 31 = .ok (.iadd, 1) := by decide +kernel
theorem dX3_isTight_32 : decode cX3_isTight 32 = .ok (.laload, 1) := by decide +kernel
theorem dX3_isTight_33 : decode cX3_isTight 33 = .ok (.lstore_n 3, 1) := by decide +kernel
theorem dX3_isTight_34 : decode cX3_isTight 34 = .ok (.lload_n 3, 1) := by decide +kernel
theorem dX3_isTight_35 : decode cX3_isTight 35 = .ok (.ldc2_w 48, 3) := by decide +kernel
theorem dX3_isTight_38 : decode cX3_isTight 38 = .ok (.lcmp, 1) := by decide +kernel
theorem dX3_isTight_39 : decode cX3_isTight 39 = .ok (.ifCond .ge 25, 3) := by decide +kernel
theorem dX3_isTight_42 : decode cX3_isTight 42 = .ok (.lload_n 3, 1) := by decide +kernel
theorem dX3_isTight_43 : decode cX3_isTight 43 = .ok (.aload_n 0, 1) := by decide +kernel
theorem dX3_isTight_44 : decode cX3_isTight 44 = .ok (.getfield 19, 3) := by decide +kernel
theorem dX3_isTight_47 : decode cX3_isTight 47 = .ok (.iload_n 1, 1) := by decide +kernel
theorem dX3_isTight_48 : decode cX3_isTight 48 = .ok (.laload, 1) := by decide +kernel
theorem dX3_isTight_49 : decode cX3_isTight 49 = .ok (.aload_n 0, 1) := by decide +kernel
theorem dX3_isTight_50 : decode cX3_isTight 50 = .ok (.getfield 22, 3) := by decide +kernel
theorem dX3_isTight_53 : decode cX3_isTight 53 = .ok (.iload_n 2, 1) := by decide +kernel
theorem dX3_isTight_54 : decode cX3_isTight 54 = .ok (.laload, 1) := by decide +kernel
theorem dX3_isTight_55 : decode cX3_isTight 55 = .ok (.ladd, 1) := by decide +kernel
theorem dX3_isTight_56 : decode cX3_isTight 56 = .ok (.lcmp, 1) := by decide +kernel
theorem dX3_isTight_57 : decode cX3_isTight 57 = .ok (.ifCond .ne 7, 3) := by decide +kernel
theorem dX3_isTight_60 : decode cX3_isTight 60 = .ok (.iconst 1, 1) := by decide +kernel
theorem dX3_isTight_61 : decode cX3_isTight 61 = .ok (.goto 4, 3) := by decide +kernel
theorem dX3_isTight_64 : decode cX3_isTight 64 = .ok (.iconst 0, 1) := by decide +kernel
theorem dX3_isTight_65 : decode cX3_isTight 65 = .ok (.ireturn, 1) := by decide +kernel
theorem dX3_placeRow_0 : decode cX3_placeRow 0 = .ok (.iconst 0, 1) := by decide +kernel
theorem dX3_placeRow_1 : decode cX3_placeRow 1 = .ok (.istore_n 3, 1) := by decide +kernel
theorem dX3_placeRow_2 : decode cX3_placeRow 2 = .ok (.iload_n 3, 1) := by decide +kernel
theorem dX3_placeRow_3 : decode cX3_placeRow 3 = .ok (.bipush 12, 2) := by decide +kernel
theorem dX3_placeRow_5 : decode cX3_placeRow 5 = .ok (.if_icmp .gt 25, 3) := by decide +kernel
theorem dX3_placeRow_8 : decode cX3_placeRow 8 = .ok (.aload_n 0, 1) := by decide +kernel
theorem dX3_placeRow_9 : decode cX3_placeRow 9 = .ok (.getfield 25, 3) := by decide +kernel
theorem dX3_placeRow_12 : decode cX3_placeRow 12 = .ok (.iload_n 3, 1) := by decide +kernel
theorem dX3_placeRow_13 : decode cX3_placeRow 13 = .ok (.ldc2_w 50, 3) := by decide +kernel
theorem dX3_placeRow_16 : decode cX3_placeRow 16 = .ok (.lastore, 1) := by decide +kernel
theorem dX3_placeRow_17 : decode cX3_placeRow 17 = .ok (.aload_n 0, 1) := by decide +kernel
theorem dX3_placeRow_18 : decode cX3_placeRow 18 = .ok (.getfield 31, 3) := by decide +kernel
theorem dX3_placeRow_21 : decode cX3_placeRow 21 = .ok (.iload_n 3, 1) := by decide +kernel
theorem dX3_placeRow_22 : decode cX3_placeRow 22 = .ok (.iconst 0, 1) := by decide +kernel
theorem dX3_placeRow_23 : decode cX3_placeRow 23 = .ok (.bastore, 1) := by decide +kernel
theorem dX3_placeRow_24 : decode cX3_placeRow 24 = .ok (.iinc 3 1, 3) := by decide +kernel
theorem dX3_placeRow_27 : decode cX3_placeRow 27 = .ok (.goto (-25), 3) := by decide +kernel
theorem dX3_placeRow_30 : decode cX3_placeRow 30 = .ok (.aload_n 0, 1) := by decide +kernel
theorem dX3_placeRow_31 : decode cX3_placeRow 31 = .ok (.getfield 15, 3) := by decide +kernel
theorem dX3_placeRow_34 : decode cX3_placeRow 34 = .ok (.iload_n 2, 1) := by decide +kernel
theorem dX3_placeRow_35 : decode cX3_placeRow 35 = .ok (.iload_n 1, 1) := by decide +kernel
theorem dX3_placeRow_36 : decode cX3_placeRow 36 = .ok (.iastore, 1) := by decide +kernel
theorem dX3_placeRow_37 : decode cX3_placeRow 37 = .ok (.iload_n 2, 1) := by decide +kernel
theorem dX3_placeRow_38 : decode cX3_placeRow 38 = .ok (.istore_n 3, 1) := by decide +kernel
theorem dX3_placeRow_39 : decode cX3_placeRow 39 = .ok (.iconst 0, 1) := by decide +kernel
theorem dX3_placeRow_40 : decode cX3_placeRow 40 = .ok (.istore 4, 2) := by decide +kernel
theorem dX3_placeRow_42 : decode cX3_placeRow 42 = .ok (.iload 4, 2) := by decide +kernel
theorem dX3_placeRow_44 : decode cX3_placeRow 44 = .ok (.iload_n 2, 1) := by decide +kernel
theorem dX3_placeRow_45 : decode cX3_placeRow 45 = .ok (.if_icmp .gt 26, 3) := by decide +kernel
theorem dX3_placeRow_48 : decode cX3_placeRow 48 = .ok (.aload_n 0, 1) := by decide +kernel
theorem dX3_placeRow_49 : decode cX3_placeRow 49 = .ok (.getfield 15, 3) := by decide +kernel
theorem dX3_placeRow_52 : decode cX3_placeRow 52 = .ok (.iload_n 3, 1) := by decide +kernel
theorem dX3_placeRow_53 : decode cX3_placeRow 53 = .ok (.iaload, 1) := by decide +kernel
theorem dX3_placeRow_54 : decode cX3_placeRow 54 = .ok (.iconst (-1), 1) := by decide +kernel
theorem dX3_placeRow_55 : decode cX3_placeRow 55 = .ok (.if_icmp .eq 16, 3) := by decide +kernel
theorem dX3_placeRow_58 : decode cX3_placeRow 58 = .ok (.aload_n 0, 1) := by decide +kernel
theorem dX3_placeRow_59 : decode cX3_placeRow 59 = .ok (.iload_n 3, 1) := by decide +kernel
theorem dX3_placeRow_60 : decode cX3_placeRow 60 = .ok (.iload_n 2, 1) := by decide +kernel
theorem dX3_placeRow_61 : decode cX3_placeRow 61 = .ok (.invokevirtual 52, 3) := by decide +kernel
theorem dX3_placeRow_64 : decode cX3_placeRow 64 = .ok (.istore_n 3, 1) := by decide +kernel
theorem dX3_placeRow_65 : decode cX3_placeRow 65 = .ok (.iinc 4 1, 3) := by decide +kernel
theorem dX3_placeRow_68 : decode cX3_placeRow 68 = .ok (.goto (-26), 3) := by decide +kernel
theorem dX3_placeRow_71 : decode cX3_placeRow 71 = .ok (.iconst 0, 1) := by decide +kernel
theorem dX3_placeRow_72 : decode cX3_placeRow 72 = .ok (.istore 4, 2) := by decide +kernel
theorem dX3_placeRow_74 : decode cX3_placeRow 74 = .ok (.iload 4, 2) := by decide +kernel
theorem dX3_placeRow_76 : decode cX3_placeRow 76 = .ok (.iload_n 2, 1) := by decide +kernel
theorem dX3_placeRow_77 : decode cX3_placeRow 77 = .ok (.if_icmp .gt 38, 3) := by decide +kernel
theorem dX3_placeRow_80 : decode cX3_placeRow 80 = .ok (.iload_n 3, 1) := by decide +kernel
theorem dX3_placeRow_81 : decode cX3_placeRow 81 = .ok (.iload_n 2, 1) := by decide +kernel
theorem dX3_placeRow_82 : decode cX3_placeRow 82 = .ok (.if_icmp .eq 33, 3) := by decide +kernel
theorem dX3_placeRow_85 : decode cX3_placeRow 85 = .ok (.aload_n 0, 1) := by decide +kernel
theorem dX3_placeRow_86 : decode cX3_placeRow 86 = .ok (.getfield 28, 3) := by decide +kernel
theorem dX3_placeRow_89 : decode cX3_placeRow 89 = .ok (.iload_n 3, 1) := by decide +kernel
theorem dX3_placeRow_90 : decode cX3_placeRow 90 = .ok (.iaload, 1) := by decide +kernel
theorem dX3_placeRow_91 : decode cX3_placeRow 91 = .ok (.istore 5, 2) := by decide +kernel
theorem dX3_placeRow_93 : decode cX3_placeRow 93 = .ok (.aload_n 0, 1) := by decide +kernel
theorem dX3_placeRow_94 : decode cX3_placeRow 94 = .ok (.getfield 15, 3) := by decide +kernel
theorem dX3_placeRow_97 : decode cX3_placeRow 97 = .ok (.iload_n 3, 1) := by decide +kernel
theorem dX3_placeRow_98 : decode cX3_placeRow 98 = .ok (.aload_n 0, 1) := by decide +kernel
theorem dX3_placeRow_99 : decode cX3_placeRow 99 = .ok (.getfield 15, 3) := by decide +kernel
theorem dX3_placeRow_102 : decode cX3_placeRow 102 = .ok (.iload 5, 2) := by decide +kernel
theorem dX3_placeRow_104 : decode cX3_placeRow 104 = .ok (.iaload, 1) := by decide +kernel
theorem dX3_placeRow_105 : decode cX3_placeRow 105 = .ok (.iastore, 1) := by decide +kernel
theorem dX3_placeRow_106 : decode cX3_placeRow 106 = .ok (.iload 5, 2) := by decide +kernel
theorem dX3_placeRow_108 : decode cX3_placeRow 108 = .ok (.istore_n 3, 1) := by decide +kernel
theorem dX3_placeRow_109 : decode cX3_placeRow 109 = .ok (.iinc 4 1, 3) := by decide +kernel
theorem dX3_placeRow_112 : decode cX3_placeRow 112 = .ok (.goto (-38), 3) := by decide +kernel
theorem dX3_placeRow_115 : decode cX3_placeRow 115 = .ok (.return_, 1) := by decide +kernel
theorem dX3_nextColumn_0 : decode cX3_nextColumn 0 = .ok (.aload_n 0, 1) := by decide +kernel
theorem dX3_nextColumn_1 : decode cX3_nextColumn 1 = .ok (.getfield 15, 3) := by decide +kernel
theorem dX3_nextColumn_4 : decode cX3_nextColumn 4 = .ok (.iload_n 1, 1) := by decide +kernel
theorem dX3_nextColumn_5 : decode cX3_nextColumn 5 = .ok (.iaload, 1) := by decide +kernel
theorem dX3_nextColumn_6 : decode cX3_nextColumn 6 = .ok (.istore_n 3, 1) := by decide +kernel
theorem dX3_nextColumn_7 : decode cX3_nextColumn 7 = .ok (.iload_n 1, 1) := by decide +kernel
theorem dX3_nextColumn_8 : decode cX3_nextColumn 8 = .ok (.istore 4, 2) := by decide +kernel
theorem dX3_nextColumn_10 : decode cX3_nextColumn 10 = .ok (.ldc2_w 50, 3) := by decide +kernel
theorem dX3_nextColumn_13 : decode cX3_nextColumn 13 = .ok (.lstore 5, 2) := by decide +kernel
theorem dX3_nextColumn_15 : decode cX3_nextColumn 15 = .ok (.iload_n 3, 1) := by decide +kernel
theorem dX3_nextColumn_16 : decode cX3_nextColumn 16 = .ok (.ifCond .lt 9, 3) := by decide +kernel
theorem dX3_nextColumn_19 : decode cX3_nextColumn 19 = .ok (.iload_n 3, 1) := by decide +kernel
theorem dX3_nextColumn_20 : decode cX3_nextColumn 20 = .ok (.bipush 12, 2) := by decide +kernel
theorem dX3_nextColumn_22 : decode cX3_nextColumn 22 = .ok (.if_icmp .lt 6, 3) := by decide +kernel
theorem dX3_nextColumn_25 : decode cX3_nextColumn 25 = .ok (.iload 4, 2) := by decide +kernel
theorem dX3_nextColumn_27 : decode cX3_nextColumn 27 = .ok (.ireturn, 1) := by decide +kernel
theorem dX3_nextColumn_28 : decode cX3_nextColumn 28 = .ok (.aload_n 0, 1) := by decide +kernel
theorem dX3_nextColumn_29 : decode cX3_nextColumn 29 = .ok (.getfield 31, 3) := by decide +kernel
theorem dX3_nextColumn_32 : decode cX3_nextColumn 32 = .ok (.iload_n 1, 1) := by decide +kernel
theorem dX3_nextColumn_33 : decode cX3_nextColumn 33 = .ok (.iconst 1, 1) := by decide +kernel
theorem dX3_nextColumn_34 : decode cX3_nextColumn 34 = .ok (.bastore, 1) := by decide +kernel
theorem dX3_nextColumn_35 : decode cX3_nextColumn 35 = .ok (.iconst 0, 1) := by decide +kernel
theorem dX3_nextColumn_36 : decode cX3_nextColumn 36 = .ok (.istore 7, 2) := by decide +kernel
theorem dX3_nextColumn_38 : decode cX3_nextColumn 38 = .ok (.iload 7, 2) := by decide +kernel
theorem dX3_nextColumn_40 : decode cX3_nextColumn 40 = .ok (.iload_n 2, 1) := by decide +kernel
theorem dX3_nextColumn_41 : decode cX3_nextColumn 41 = .ok (.if_icmp .ge 107, 3) := by decide +kernel
theorem dX3_nextColumn_44 : decode cX3_nextColumn 44 = .ok (.aload_n 0, 1) := by decide +kernel
theorem dX3_nextColumn_45 : decode cX3_nextColumn 45 = .ok (.getfield 31, 3) := by decide +kernel
theorem dX3_nextColumn_48 : decode cX3_nextColumn 48 = .ok (.iload 7, 2) := by decide +kernel
theorem dX3_nextColumn_50 : decode cX3_nextColumn 50 = .ok (.baload, 1) := by decide +kernel
theorem dX3_nextColumn_51 : decode cX3_nextColumn 51 = .ok (.ifCond .eq 6, 3) := by decide +kernel
theorem dX3_nextColumn_54 : decode cX3_nextColumn 54 = .ok (.goto 88, 3) := by decide +kernel
theorem dX3_nextColumn_57 : decode cX3_nextColumn 57 = .ok (.aload_n 0, 1) := by decide +kernel
theorem dX3_nextColumn_58 : decode cX3_nextColumn 58 = .ok (.getfield 9, 3) := by decide +kernel
theorem dX3_nextColumn_61 : decode cX3_nextColumn 61 = .ok (.iload_n 3, 1) := by decide +kernel
theorem dX3_nextColumn_62 : decode cX3_nextColumn 62 = .ok (.bipush 12, 2) := by decide +kernel
theorem dX3_nextColumn_64 : decode cX3_nextColumn 64 = .ok (.imul, 1) := by decide +kernel
theorem dX3_nextColumn_65 : decode cX3_nextColumn 65 = .ok (.iload 7, 2) := by decide +kernel
theorem dX3_nextColumn_67 : decode cX3_nextColumn 67 = .ok (.iadd, 1) := by decide +kernel
theorem dX3_nextColumn_68 : decode cX3_nextColumn 68 = .ok (.laload, 1) := by decide +kernel
theorem dX3_nextColumn_69 : decode cX3_nextColumn 69 = .ok (.aload_n 0, 1) := by decide +kernel
theorem dX3_nextColumn_70 : decode cX3_nextColumn 70 = .ok (.getfield 19, 3) := by decide +kernel
theorem dX3_nextColumn_73 : decode cX3_nextColumn 73 = .ok (.iload_n 3, 1) := by decide +kernel
theorem dX3_nextColumn_74 : decode cX3_nextColumn 74 = .ok (.laload, 1) := by decide +kernel
theorem dX3_nextColumn_75 : decode cX3_nextColumn 75 = .ok (.lsub, 1) := by decide +kernel
theorem dX3_nextColumn_76 : decode cX3_nextColumn 76 = .ok (.aload_n 0, 1) := by decide +kernel
theorem dX3_nextColumn_77 : decode cX3_nextColumn 77 = .ok (.getfield 22, 3) := by decide +kernel
theorem dX3_nextColumn_80 : decode cX3_nextColumn 80 = .ok (.iload 7, 2) := by decide +kernel
theorem dX3_nextColumn_82 : decode cX3_nextColumn 82 = .ok (.laload, 1) := by decide +kernel
theorem dX3_nextColumn_83 : decode cX3_nextColumn 83 = .ok (.lsub, 1) := by decide +kernel
theorem dX3_nextColumn_84 : decode cX3_nextColumn 84 = .ok (.lstore 8, 2) := by decide +kernel
theorem dX3_nextColumn_86 : decode cX3_nextColumn 86 = .ok (.lload 8, 2) := by decide +kernel
theorem dX3_nextColumn_88 : decode cX3_nextColumn 88 = .ok (.aload_n 0, 1) := by decide +kernel
theorem dX3_nextColumn_89 : decode cX3_nextColumn 89 = .ok (.getfield 25, 3) := by decide +kernel
theorem dX3_nextColumn_92 : decode cX3_nextColumn 92 = .ok (.iload 7, 2) := by decide +kernel
theorem dX3_nextColumn_94 : decode cX3_nextColumn 94 = .ok (.laload, 1) := by decide +kernel
theorem dX3_nextColumn_95 : decode cX3_nextColumn 95 = .ok (.lcmp, 1) := by decide +kernel
theorem dX3_nextColumn_96 : decode cX3_nextColumn 96 = .ok (.ifCond .ge 20, 3) := by decide +kernel
theorem dX3_nextColumn_99 : decode cX3_nextColumn 99 = .ok (.aload_n 0, 1) := by decide +kernel
theorem dX3_nextColumn_100 : decode cX3_nextColumn 100 = .ok (.getfield 25, 3) := by decide +kernel
theorem dX3_nextColumn_103 : decode cX3_nextColumn 103 = .ok (.iload 7, 2) := by decide +kernel
theorem dX3_nextColumn_105 : decode cX3_nextColumn 105 = .ok (.lload 8, 2) := by decide +kernel
theorem dX3_nextColumn_107 : decode cX3_nextColumn 107 = .ok (.lastore, 1) := by decide +kernel
theorem dX3_nextColumn_108 : decode cX3_nextColumn 108 = .ok (.aload_n 0, 1) := by decide +kernel
theorem dX3_nextColumn_109 : decode cX3_nextColumn 109 = .ok (.getfield 28, 3) := by decide +kernel
theorem dX3_nextColumn_112 : decode cX3_nextColumn 112 = .ok (.iload 7, 2) := by decide +kernel
theorem dX3_nextColumn_114 : decode cX3_nextColumn 114 = .ok (.iload_n 1, 1) := by decide +kernel
theorem dX3_nextColumn_115 : decode cX3_nextColumn 115 = .ok (.iastore, 1) := by decide +kernel
theorem dX3_nextColumn_116 : decode cX3_nextColumn 116 = .ok (.aload_n 0, 1) := by decide +kernel
theorem dX3_nextColumn_117 : decode cX3_nextColumn 117 = .ok (.getfield 25, 3) := by decide +kernel
theorem dX3_nextColumn_120 : decode cX3_nextColumn 120 = .ok (.iload 7, 2) := by decide +kernel
theorem dX3_nextColumn_122 : decode cX3_nextColumn 122 = .ok (.laload, 1) := by decide +kernel
theorem dX3_nextColumn_123 : decode cX3_nextColumn 123 = .ok (.lload 5, 2) := by decide +kernel
theorem dX3_nextColumn_125 : decode cX3_nextColumn 125 = .ok (.lcmp, 1) := by decide +kernel
theorem dX3_nextColumn_126 : decode cX3_nextColumn 126 = .ok (.ifCond .ge 16, 3) := by decide +kernel
theorem dX3_nextColumn_129 : decode cX3_nextColumn 129 = .ok (.aload_n 0, 1) := by decide +kernel
theorem dX3_nextColumn_130 : decode cX3_nextColumn 130 = .ok (.getfield 25, 3) := by decide +kernel
theorem dX3_nextColumn_133 : decode cX3_nextColumn 133 = .ok (.iload 7, 2) := by decide +kernel
theorem dX3_nextColumn_135 : decode cX3_nextColumn 135 = .ok (.laload, 1) := by decide +kernel
theorem dX3_nextColumn_136 : decode cX3_nextColumn 136 = .ok (.lstore 5, 2) := by decide +kernel
theorem dX3_nextColumn_138 : decode cX3_nextColumn 138 = .ok (.iload 7, 2) := by decide +kernel
theorem dX3_nextColumn_140 : decode cX3_nextColumn 140 = .ok (.istore 4, 2) := by decide +kernel
theorem dX3_nextColumn_142 : decode cX3_nextColumn 142 = .ok (.iinc 7 1, 3) := by decide +kernel
theorem dX3_nextColumn_145 : decode cX3_nextColumn 145 = .ok (.goto (-107), 3) := by decide +kernel
theorem dX3_nextColumn_148 : decode cX3_nextColumn 148 = .ok (.aload_n 0, 1) := by decide +kernel
theorem dX3_nextColumn_149 : decode cX3_nextColumn 149 = .ok (.lload 5, 2) := by decide +kernel
theorem dX3_nextColumn_151 : decode cX3_nextColumn 151 = .ok (.iload_n 2, 1) := by decide +kernel
theorem dX3_nextColumn_152 : decode cX3_nextColumn 152 = .ok (.invokevirtual 55, 3) := by decide +kernel
theorem dX3_nextColumn_155 : decode cX3_nextColumn 155 = .ok (.iload 4, 2) := by decide +kernel
theorem dX3_nextColumn_157 : decode cX3_nextColumn 157 = .ok (.ireturn, 1) := by decide +kernel
theorem dX3_shiftPrices_0 : decode cX3_shiftPrices 0 = .ok (.iconst 0, 1) := by decide +kernel
theorem dX3_shiftPrices_1 : decode cX3_shiftPrices 1 = .ok (.istore 4, 2) := by decide +kernel
theorem dX3_shiftPrices_3 : decode cX3_shiftPrices 3 = .ok (.iload 4, 2) := by decide +kernel
theorem dX3_shiftPrices_5 : decode cX3_shiftPrices 5 = .ok (.iload_n 3, 1) := by decide +kernel
theorem dX3_shiftPrices_6 : decode cX3_shiftPrices 6 = .ok (.if_icmp .gt 82, 3) := by decide +kernel
theorem dX3_shiftPrices_9 : decode cX3_shiftPrices 9 = .ok (.aload_n 0, 1) := by decide +kernel
theorem dX3_shiftPrices_10 : decode cX3_shiftPrices 10 = .ok (.getfield 31, 3) := by decide +kernel
theorem dX3_shiftPrices_13 : decode cX3_shiftPrices 13 = .ok (.iload 4, 2) := by decide +kernel
theorem dX3_shiftPrices_15 : decode cX3_shiftPrices 15 = .ok (.baload, 1) := by decide +kernel
theorem dX3_shiftPrices_16 : decode cX3_shiftPrices 16 = .ok (.ifCond .ne 17, 3) := by decide +kernel
theorem dX3_shiftPrices_19 : decode cX3_shiftPrices 19 = .ok (.aload_n 0, 1) := by decide +kernel
theorem dX3_shiftPrices_20 : decode cX3_shiftPrices 20 = .ok (.getfield 25, 3) := by decide +kernel
theorem dX3_shiftPrices_23 : decode cX3_shiftPrices 23 = .ok (.iload 4, 2) := by decide +kernel
theorem dX3_shiftPrices_25 : decode cX3_shiftPrices 25 = .ok (.dup2, 1) := by decide +kernel
theorem dX3_shiftPrices_26 : decode cX3_shiftPrices 26 = .ok (.laload, 1) := by decide +kernel
theorem dX3_shiftPrices_27 : decode cX3_shiftPrices 27 = .ok (.lload_n 1, 1) := by decide +kernel
theorem dX3_shiftPrices_28 : decode cX3_shiftPrices 28 = .ok (.lsub, 1) := by decide +kernel
theorem dX3_shiftPrices_29 : decode cX3_shiftPrices 29 = .ok (.lastore, 1) := by decide +kernel
theorem dX3_shiftPrices_30 : decode cX3_shiftPrices 30 = .ok (.goto 52, 3) := by decide +kernel
theorem dX3_shiftPrices_33 : decode cX3_shiftPrices 33 = .ok (.aload_n 0, 1) := by decide +kernel
theorem dX3_shiftPrices_34 : decode cX3_shiftPrices 34 = .ok (.getfield 15, 3) := by decide +kernel
theorem dX3_shiftPrices_37 : decode cX3_shiftPrices 37 = .ok (.iload 4, 2) := by decide +kernel
theorem dX3_shiftPrices_39 : decode cX3_shiftPrices 39 = .ok (.iaload, 1) := by decide +kernel
theorem dX3_shiftPrices_40 : decode cX3_shiftPrices 40 = .ok (.ifCond .lt 42, 3) := by decide +kernel
theorem dX3_shiftPrices_43 : decode cX3_shiftPrices 43 = .ok (.aload_n 0, 1) := by decide +kernel
theorem dX3_shiftPrices_44 : decode cX3_shiftPrices 44 = .ok (.getfield 15, 3) := by decide +kernel
theorem dX3_shiftPrices_47 : decode cX3_shiftPrices 47 = .ok (.iload 4, 2) := by decide +kernel
theorem dX3_shiftPrices_49 : decode cX3_shiftPrices 49 = .ok (.iaload, 1) := by decide +kernel
theorem dX3_shiftPrices_50 : decode cX3_shiftPrices 50 = .ok (.bipush 12, 2) := by decide +kernel
theorem dX3_shiftPrices_52 : decode cX3_shiftPrices 52 = .ok (.if_icmp .ge 30, 3) := by decide +kernel
theorem dX3_shiftPrices_55 : decode cX3_shiftPrices 55 = .ok (.aload_n 0, 1) := by decide +kernel
theorem dX3_shiftPrices_56 : decode cX3_shiftPrices 56 = .ok (.getfield 19, 3) := by decide +kernel
theorem dX3_shiftPrices_59 : decode cX3_shiftPrices 59 = .ok (.aload_n 0, 1) := by decide +kernel
theorem dX3_shiftPrices_60 : decode cX3_shiftPrices 60 = .ok (.getfield 15, 3) := by decide +kernel
theorem dX3_shiftPrices_63 : decode cX3_shiftPrices 63 = .ok (.iload 4, 2) := by decide +kernel
theorem dX3_shiftPrices_65 : decode cX3_shiftPrices 65 = .ok (.iaload, 1) := by decide +kernel
theorem dX3_shiftPrices_66 : decode cX3_shiftPrices 66 = .ok (.dup2, 1) := by decide +kernel
theorem dX3_shiftPrices_67 : decode cX3_shiftPrices 67 = .ok (.laload, 1) := by decide +kernel
theorem dX3_shiftPrices_68 : decode cX3_shiftPrices 68 = .ok (.lload_n 1, 1) := by decide +kernel
theorem dX3_shiftPrices_69 : decode cX3_shiftPrices 69 = .ok (.ladd, 1) := by decide +kernel
theorem dX3_shiftPrices_70 : decode cX3_shiftPrices 70 = .ok (.lastore, 1) := by decide +kernel
theorem dX3_shiftPrices_71 : decode cX3_shiftPrices 71 = .ok (.aload_n 0, 1) := by decide +kernel
theorem dX3_shiftPrices_72 : decode cX3_shiftPrices 72 = .ok (.getfield 22, 3) := by decide +kernel
theorem dX3_shiftPrices_75 : decode cX3_shiftPrices 75 = .ok (.iload 4, 2) := by decide +kernel
theorem dX3_shiftPrices_77 : decode cX3_shiftPrices 77 = .ok (.dup2, 1) := by decide +kernel
theorem dX3_shiftPrices_78 : decode cX3_shiftPrices 78 = .ok (.laload, 1) := by decide +kernel
theorem dX3_shiftPrices_79 : decode cX3_shiftPrices 79 = .ok (.lload_n 1, 1) := by decide +kernel
theorem dX3_shiftPrices_80 : decode cX3_shiftPrices 80 = .ok (.lsub, 1) := by decide +kernel
theorem dX3_shiftPrices_81 : decode cX3_shiftPrices 81 = .ok (.lastore, 1) := by decide +kernel
theorem dX3_shiftPrices_82 : decode cX3_shiftPrices 82 = .ok (.iinc 4 1, 3) := by decide +kernel
theorem dX3_shiftPrices_85 : decode cX3_shiftPrices 85 = .ok (.goto (-82), 3) := by decide +kernel
theorem dX3_shiftPrices_88 : decode cX3_shiftPrices 88 = .ok (.return_, 1) := by decide +kernel
theorem dX4_init_0 : decode cX4_init 0 = .ok (.aload_n 0, 1) := by decide +kernel
theorem dX4_init_1 : decode cX4_init 1 = .ok (.invokespecial 3, 3) := by decide +kernel
theorem dX4_init_4 : decode cX4_init 4 = .ok (.aload_n 0, 1) := by decide +kernel
theorem dX4_init_5 : decode cX4_init 5 = .ok (.new 9, 3) := by decide +kernel
theorem dX4_init_8 : decode cX4_init 8 = .ok (.dup, 1) := by decide +kernel
theorem dX4_init_9 : decode cX4_init 9 = .ok (.invokespecial 11, 3) := by decide +kernel
theorem dX4_init_12 : decode cX4_init 12 = .ok (.putfield 12, 3) := by decide +kernel
theorem dX4_init_15 : decode cX4_init 15 = .ok (.aload_n 0, 1) := by decide +kernel
theorem dX4_init_16 : decode cX4_init 16 = .ok (.new 18, 3) := by decide +kernel
theorem dX4_init_19 : decode cX4_init 19 = .ok (.dup, 1) := by decide +kernel
theorem dX4_init_20 : decode cX4_init 20 = .ok (.invokespecial 20, 3) := by decide +kernel
theorem dX4_init_23 : decode cX4_init 23 = .ok (.putfield 21, 3) := by decide +kernel
theorem dX4_init_26 : decode cX4_init 26 = .ok (.aload_n 0, 1) := by decide +kernel
theorem dX4_init_27 : decode cX4_init 27 = .ok (.iconst 0, 1) := by decide +kernel
theorem dX4_init_28 : decode cX4_init 28 = .ok (.putfield 25, 3) := by decide +kernel
theorem dX4_init_31 : decode cX4_init 31 = .ok (.aload_n 0, 1) := by decide +kernel
theorem dX4_init_32 : decode cX4_init 32 = .ok (.iconst 0, 1) := by decide +kernel
theorem dX4_init_33 : decode cX4_init 33 = .ok (.putfield 29, 3) := by decide +kernel
theorem dX4_init_36 : decode cX4_init 36 = .ok (.aload_n 0, 1) := by decide +kernel
theorem dX4_init_37 : decode cX4_init 37 = .ok (.iconst 0, 1) := by decide +kernel
theorem dX4_init_38 : decode cX4_init 38 = .ok (.putfield 32, 3) := by decide +kernel
theorem dX4_init_41 : decode cX4_init 41 = .ok (.aload_n 0, 1) := by decide +kernel
theorem dX4_init_42 : decode cX4_init 42 = .ok (.iconst 0, 1) := by decide +kernel
theorem dX4_init_43 : decode cX4_init 43 = .ok (.putfield 35, 3) := by decide +kernel
theorem dX4_init_46 : decode cX4_init 46 = .ok (.aload_n 0, 1) := by decide +kernel
theorem dX4_init_47 : decode cX4_init 47 = .ok (.iconst (-1), 1) := by decide +kernel
theorem dX4_init_48 : decode cX4_init 48 = .ok (.putfield 38, 3) := by decide +kernel
theorem dX4_init_51 : decode cX4_init 51 = .ok (.aload_n 0, 1) := by decide +kernel
theorem dX4_init_52 : decode cX4_init 52 = .ok (.iconst (-1), 1) := by decide +kernel
theorem dX4_init_53 : decode cX4_init 53 = .ok (.putfield 41, 3) := by decide +kernel
theorem dX4_init_56 : decode cX4_init 56 = .ok (.return_, 1) := by decide +kernel
theorem dX4_exchange_0 : decode cX4_exchange 0 = .ok (.aload_n 0, 1) := by decide +kernel
theorem dX4_exchange_1 : decode cX4_exchange 1 = .ok (.getfield 21, 3) := by decide +kernel
theorem dX4_exchange_4 : decode cX4_exchange 4 = .ok (.astore_n 2, 1) := by decide +kernel
theorem dX4_exchange_5 : decode cX4_exchange 5 = .ok (.aload_n 0, 1) := by decide +kernel
theorem dX4_exchange_6 : decode cX4_exchange 6 = .ok (.aload_n 1, 1) := by decide +kernel
theorem dX4_exchange_7 : decode cX4_exchange 7 = .ok (.putfield 21, 3) := by decide +kernel
theorem dX4_exchange_10 : decode cX4_exchange 10 = .ok (.aload_n 2, 1) := by decide +kernel
theorem dX4_exchange_11 : decode cX4_exchange 11 = .ok (.areturn, 1) := by decide +kernel
theorem dX4_parse_0 : decode cX4_parse 0 = .ok (.aload_n 0, 1) := by decide +kernel
theorem dX4_parse_1 : decode cX4_parse 1 = .ok (.getfield 12, 3) := by decide +kernel
theorem dX4_parse_4 : decode cX4_parse 4 = .ok (.aload_n 1, 1) := by decide +kernel
theorem dX4_parse_5 : decode cX4_parse 5 = .ok (.invokevirtual 44, 3) := by decide +kernel
theorem dX4_parse_8 : decode cX4_parse 8 = .ok (.aload_n 0, 1) := by decide +kernel
theorem dX4_parse_9 : decode cX4_parse 9 = .ok (.getfield 21, 3) := by decide +kernel
theorem dX4_parse_12 : decode cX4_parse 12 = .ok (.invokevirtual 48, 3) := by decide +kernel
theorem dX4_parse_15 : decode cX4_parse 15 = .ok (.aload_n 0, 1) := by decide +kernel
theorem dX4_parse_16 : decode cX4_parse 16 = .ok (.iconst 0, 1) := by decide +kernel
theorem dX4_parse_17 : decode cX4_parse 17 = .ok (.putfield 25, 3) := by decide +kernel
theorem dX4_parse_20 : decode cX4_parse 20 = .ok (.aload_n 0, 1) := by decide +kernel
theorem dX4_parse_21 : decode cX4_parse 21 = .ok (.iconst 0, 1) := by decide +kernel
theorem dX4_parse_22 : decode cX4_parse 22 = .ok (.putfield 29, 3) := by decide +kernel
theorem dX4_parse_25 : decode cX4_parse 25 = .ok (.aload_n 0, 1) := by decide +kernel
theorem dX4_parse_26 : decode cX4_parse 26 = .ok (.iconst 0, 1) := by decide +kernel
theorem dX4_parse_27 : decode cX4_parse 27 = .ok (.putfield 32, 3) := by decide +kernel
theorem dX4_parse_30 : decode cX4_parse 30 = .ok (.aload_n 0, 1) := by decide +kernel
theorem dX4_parse_31 : decode cX4_parse 31 = .ok (.iconst 0, 1) := by decide +kernel
theorem dX4_parse_32 : decode cX4_parse 32 = .ok (.putfield 35, 3) := by decide +kernel
theorem dX4_parse_35 : decode cX4_parse 35 = .ok (.aload_n 0, 1) := by decide +kernel
theorem dX4_parse_36 : decode cX4_parse 36 = .ok (.iconst (-1), 1) := by decide +kernel
theorem dX4_parse_37 : decode cX4_parse 37 = .ok (.putfield 38, 3) := by decide +kernel
theorem dX4_parse_40 : decode cX4_parse 40 = .ok (.iconst 0, 1) := by decide +kernel
theorem dX4_parse_41 : decode cX4_parse 41 = .ok (.istore_n 2, 1) := by decide +kernel
theorem dX4_parse_42 : decode cX4_parse 42 = .ok (.iload_n 2, 1) := by decide +kernel
theorem dX4_parse_43 : decode cX4_parse 43 = .ok (.bipush 8, 2) := by decide +kernel
theorem dX4_parse_45 : decode cX4_parse 45 = .ok (.if_icmp .gt 22, 3) := by decide +kernel
theorem dX4_parse_48 : decode cX4_parse 48 = .ok (.aload_n 0, 1) := by decide +kernel
theorem dX4_parse_49 : decode cX4_parse 49 = .ok (.bipush 10, 2) := by decide +kernel
theorem dX4_parse_51 : decode cX4_parse 51 = .ok (.invokevirtual 51, 3) := by decide +kernel
theorem dX4_parse_54 : decode cX4_parse 54 = .ok (.ifCond .eq 13, 3) := by decide +kernel
theorem dX4_parse_57 : decode cX4_parse 57 = .ok (.aload_n 0, 1) := by decide +kernel
theorem dX4_parse_58 : decode cX4_parse 58 = .ok (.invokevirtual 55, 3) := by decide +kernel
theorem dX4_parse_61 : decode cX4_parse 61 = .ok (.iinc 2 1, 3) := by decide +kernel
theorem dX4_parse_64 : decode cX4_parse 64 = .ok (.goto (-22), 3) := by decide +kernel
theorem dX4_parse_67 : decode cX4_parse 67 = .ok (.iconst 0, 1) := by decide +kernel
theorem dX4_parse_68 : decode cX4_parse 68 = .ok (.istore_n 2, 1) := by decide +kernel
theorem dX4_parse_69 : decode cX4_parse 69 = .ok (.iload_n 2, 1) := by decide +kernel
theorem dX4_parse_70 : decode cX4_parse 70 = .ok (.bipush 20, 2) := by decide +kernel
theorem dX4_parse_72 : decode cX4_parse 72 = .ok (.if_icmp .gt 31, 3) := by decide +kernel
theorem dX4_parse_75 : decode cX4_parse 75 = .ok (.aload_n 0, 1) := by decide +kernel
theorem dX4_parse_76 : decode cX4_parse 76 = .ok (.bipush 11, 2) := by decide +kernel
theorem dX4_parse_78 : decode cX4_parse 78 = .ok (.invokevirtual 51, 3) := by decide +kernel
theorem dX4_parse_81 : decode cX4_parse 81 = .ok (.ifCond .ne 12, 3) := by decide +kernel
theorem dX4_parse_84 : decode cX4_parse 84 = .ok (.aload_n 0, 1) := by decide +kernel
theorem dX4_parse_85 : decode cX4_parse 85 = .ok (.bipush 12, 2) := by decide +kernel
theorem dX4_parse_87 : decode cX4_parse 87 = .ok (.invokevirtual 51, 3) := by decide +kernel
theorem dX4_parse_90 : decode cX4_parse 90 = .ok (.ifCond .eq 13, 3) := by decide +kernel
theorem dX4_parse_93 : decode cX4_parse 93 = .ok (.aload_n 0, 1) := by decide +kernel
theorem dX4_parse_94 : decode cX4_parse 94 = .ok (.invokevirtual 58, 3) := by decide +kernel
theorem dX4_parse_97 : decode cX4_parse 97 = .ok (.iinc 2 1, 3) := by decide +kernel
theorem dX4_parse_100 : decode cX4_parse 100 = .ok (.goto (-31), 3) := by decide +kernel
theorem dX4_parse_103 : decode cX4_parse 103 = .ok (.aload_n 0, 1) := by decide +kernel
theorem dX4_parse_104 : decode cX4_parse 104 = .ok (.iconst 0, 1) := by decide +kernel
theorem dX4_parse_105 : decode cX4_parse 105 = .ok (.invokevirtual 51, 3) := by decide +kernel
theorem dX4_parse_108 : decode cX4_parse 108 = .ok (.ifCond .ne 8, 3) := by decide +kernel
theorem dX4_parse_111 : decode cX4_parse 111 = .ok (.aload_n 0, 1) := by decide +kernel
theorem dX4_parse_112 : decode cX4_parse 112 = .ok (.iconst 1, 1) := by decide +kernel
theorem dX4_parse_113 : decode cX4_parse 113 = .ok (.invokevirtual 61, 3) := by decide +kernel
theorem dX4_parse_116 : decode cX4_parse 116 = .ok (.aload_n 0, 1) := by decide +kernel
theorem dX4_parse_117 : decode cX4_parse 117 = .ok (.getfield 32, 3) := by decide +kernel
theorem dX4_parse_120 : decode cX4_parse 120 = .ok (.ifCond .ne 19, 3) := by decide +kernel
theorem dX4_parse_123 : decode cX4_parse 123 = .ok (.aload_n 0, 1) := by decide +kernel
theorem dX4_parse_124 : decode cX4_parse 124 = .ok (.aload_n 0, 1) := by decide +kernel
theorem dX4_parse_125 : decode cX4_parse 125 = .ok (.getfield 35, 3) := by decide +kernel
theorem dX4_parse_128 : decode cX4_parse 128 = .ok (.putfield 32, 3) := by decide +kernel
theorem dX4_parse_131 : decode cX4_parse 131 = .ok (.aload_n 0, 1) := by decide +kernel
theorem dX4_parse_132 : decode cX4_parse 132 = .ok (.aload_n 0, 1) := by decide +kernel
theorem dX4_parse_133 : decode cX4_parse 133 = .ok (.getfield 38, 3) := by decide +kernel
theorem dX4_parse_136 : decode cX4_parse 136 = .ok (.putfield 41, 3) := by decide +kernel
theorem dX4_parse_139 : decode cX4_parse 139 = .ok (.aload_n 0, 1) := by decide +kernel
theorem dX4_parse_140 : decode cX4_parse 140 = .ok (.getfield 32, 3) := by decide +kernel
theorem dX4_parse_143 : decode cX4_parse 143 = .ok (.ireturn, 1) := by decide +kernel
theorem dX4_readTrait_0 : decode cX4_readTrait 0 = .ok (.aload_n 0, 1) := by decide +kernel
theorem dX4_readTrait_1 : decode cX4_readTrait 1 = .ok (.getfield 21, 3) := by decide +kernel
theorem dX4_readTrait_4 : decode cX4_readTrait 4 = .ok (.getfield 65, 3) := by decide +kernel
theorem dX4_readTrait_7 : decode cX4_readTrait 7 = .ok (.bipush 8, 2) := by decide +kernel
theorem dX4_readTrait_9 : decode cX4_readTrait 9 = .ok (.if_icmp .ne 8, 3) := by decide +kernel
theorem dX4_readTrait_12 : decode cX4_readTrait 12 = .ok (.aload_n 0, 1) := by decide +kernel
theorem dX4_readTrait_13 : decode cX4_readTrait 13 = .ok (.iconst 2, 1) := by decide +kernel
theorem dX4_readTrait_14 : decode cX4_readTrait 14 = .ok (.invokevirtual 61, 3) := by decide +kernel
theorem dX4_readTrait_17 : decode cX4_readTrait 17 = .ok (.aload_n 0, 1) := by decide +kernel
theorem dX4_readTrait_18 : decode cX4_readTrait 18 = .ok (.bipush 10, 2) := by decide +kernel
theorem dX4_readTrait_20 : decode cX4_readTrait 20 = .ok (.invokevirtual 68, 3) := by decide +kernel
theorem dX4_readTrait_23 : decode cX4_readTrait 23 = .ok (.aload_n 0, 1) := by decide +kernel
theorem dX4_readTrait_24 : decode cX4_readTrait 24 = .ok (.iconst 2, 1) := by decide +kernel
theorem dX4_readTrait_25 : decode cX4_readTrait 25 = .ok (.invokevirtual 51, 3) := by decide +kernel
theorem dX4_readTrait_28 : decode cX4_readTrait 28 = .ok (.ifCond .eq 41, 3) := by decide +kernel
theorem dX4_readTrait_31 : decode cX4_readTrait 31 = .ok (.aload_n 0, 1) := by decide +kernel
theorem dX4_readTrait_32 : decode cX4_readTrait 32 = .ok (.getfield 12, 3) := by decide +kernel
theorem dX4_readTrait_35 : decode cX4_readTrait 35 = .ok (.getfield 71, 3) := by decide +kernel
theorem dX4_readTrait_38 : decode cX4_readTrait 38 = .ok (.aload_n 0, 1) := by decide +kernel
theorem dX4_readTrait_39 : decode cX4_readTrait 39 = .ok (.getfield 25, 3) := by decide +kernel
theorem dX4_readTrait_42 : decode cX4_readTrait 42 = .ok (.laload, 1) := by decide +kernel
theorem dX4_readTrait_43 : decode cX4_readTrait 43 = .ok (.lstore_n 1, 1) := by decide +kernel
theorem dX4_readTrait_44 : decode cX4_readTrait 44 = .ok (.aload_n 0, 1) := by decide +kernel
theorem dX4_readTrait_45 : decode cX4_readTrait 45 = .ok (.getfield 21, 3) := by decide +kernel
theorem dX4_readTrait_48 : decode cX4_readTrait 48 = .ok (.lload_n 1, 1) := by decide +kernel
theorem dX4_readTrait_49 : decode cX4_readTrait 49 = .ok (.invokevirtual 75, 3) := by decide +kernel
theorem dX4_readTrait_52 : decode cX4_readTrait 52 = .ok (.iconst (-1), 1) := by decide +kernel
theorem dX4_readTrait_53 : decode cX4_readTrait 53 = .ok (.if_icmp .eq 8, 3) := by decide +kernel
theorem dX4_readTrait_56 : decode cX4_readTrait 56 = .ok (.aload_n 0, 1) := by decide +kernel
theorem dX4_readTrait_57 : decode cX4_readTrait 57 = .ok (.iconst 3, 1) := by decide +kernel
theorem dX4_readTrait_58 : decode cX4_readTrait 58 = .ok (.invokevirtual 79, 3) := by decide +kernel
theorem dX4_readTrait_61 : decode cX4_readTrait 61 = .ok (.aload_n 0, 1) := by decide +kernel
theorem dX4_readTrait_62 : decode cX4_readTrait 62 = .ok (.getfield 21, 3) := by decide +kernel
theorem dX4_readTrait_65 : decode cX4_readTrait 65 = .ok (.lload_n 1, 1) := by decide +kernel
theorem dX4_readTrait_66 : decode cX4_readTrait 66 = .ok (.invokevirtual 82, 3) := by decide +kernel
theorem dX4_readTrait_69 : decode cX4_readTrait 69 = .ok (.aload_n 0, 1) := by decide +kernel
theorem dX4_readTrait_70 : decode cX4_readTrait 70 = .ok (.iconst 2, 1) := by decide +kernel
theorem dX4_readTrait_71 : decode cX4_readTrait 71 = .ok (.invokevirtual 68, 3) := by decide +kernel
theorem dX4_readTrait_74 : decode cX4_readTrait 74 = .ok (.aload_n 0, 1) := by decide +kernel
theorem dX4_readTrait_75 : decode cX4_readTrait 75 = .ok (.bipush 59, 2) := by decide +kernel
theorem dX4_readTrait_77 : decode cX4_readTrait 77 = .ok (.invokevirtual 68, 3) := by decide +kernel
theorem dX4_readTrait_80 : decode cX4_readTrait 80 = .ok (.return_, 1) := by decide +kernel
theorem dX4_readRule_0 : decode cX4_readRule 0 = .ok (.aload_n 0, 1) := by decide +kernel
theorem dX4_readRule_1 : decode cX4_readRule 1 = .ok (.getfield 21, 3) := by decide +kernel
theorem dX4_readRule_4 : decode cX4_readRule 4 = .ok (.getfield 86, 3) := by decide +kernel
theorem dX4_readRule_7 : decode cX4_readRule 7 = .ok (.bipush 20, 2) := by decide +kernel
theorem dX4_readRule_9 : decode cX4_readRule 9 = .ok (.if_icmp .ne 8, 3) := by decide +kernel
theorem dX4_readRule_12 : decode cX4_readRule 12 = .ok (.aload_n 0, 1) := by decide +kernel
theorem dX4_readRule_13 : decode cX4_readRule 13 = .ok (.iconst 2, 1) := by decide +kernel
theorem dX4_readRule_14 : decode cX4_readRule 14 = .ok (.invokevirtual 61, 3) := by decide +kernel
theorem dX4_readRule_17 : decode cX4_readRule 17 = .ok (.aload_n 0, 1) := by decide +kernel
theorem dX4_readRule_18 : decode cX4_readRule 18 = .ok (.getfield 21, 3) := by decide +kernel
theorem dX4_readRule_21 : decode cX4_readRule 21 = .ok (.getfield 89, 3) := by decide +kernel
theorem dX4_readRule_24 : decode cX4_readRule 24 = .ok (.istore_n 1, 1) := by decide +kernel
theorem dX4_readRule_25 : decode cX4_readRule 25 = .ok (.iload_n 1, 1) := by decide +kernel
theorem dX4_readRule_26 : decode cX4_readRule 26 = .ok (.istore_n 2, 1) := by decide +kernel
theorem dX4_readRule_27 : decode cX4_readRule 27 = .ok (.aload_n 0, 1) := by decide +kernel
theorem dX4_readRule_28 : decode cX4_readRule 28 = .ok (.bipush 11, 2) := by decide +kernel
theorem dX4_readRule_30 : decode cX4_readRule 30 = .ok (.invokevirtual 51, 3) := by decide +kernel
theorem dX4_readRule_33 : decode cX4_readRule 33 = .ok (.istore_n 3, 1) := by decide +kernel
theorem dX4_readRule_34 : decode cX4_readRule 34 = .ok (.aload_n 0, 1) := by decide +kernel
theorem dX4_readRule_35 : decode cX4_readRule 35 = .ok (.iload_n 3, 1) := by decide +kernel
theorem dX4_readRule_36 : decode cX4_readRule 36 = .ok (.ifCond .eq 8, 3) := by decide +kernel
theorem dX4_readRule_39 : decode cX4_readRule 39 = .ok (.bipush 11, 2) := by decide +kernel
theorem dX4_readRule_41 : decode cX4_readRule 41 = .ok (.goto 5, 3) := by decide +kernel
theorem dX4_readRule_44 : decode cX4_readRule 44 = .ok (.bipush 12, 2) := by decide +kernel
theorem dX4_readRule_46 : decode cX4_readRule 46 = .ok (.invokevirtual 68, 3) := by decide +kernel
theorem dX4_readRule_49 : decode cX4_readRule 49 = .ok (.iload_n 3, 1) := by decide +kernel
theorem dX4_readRule_50 : decode cX4_readRule 50 = .ok (.ifCond .eq 10, 3) := by decide +kernel
theorem dX4_readRule_53 : decode cX4_readRule 53 = .ok (.aload_n 0, 1) := by decide +kernel
theorem dX4_readRule_54 : decode cX4_readRule 54 = .ok (.invokevirtual 92, 3) := by decide +kernel
theorem dX4_readRule_57 : decode cX4_readRule 57 = .ok (.goto 28, 3) := by decide +kernel
theorem dX4_readRule_60 : decode cX4_readRule 60 = .ok (.aload_n 0, 1) := by decide +kernel
theorem dX4_readRule_61 : decode cX4_readRule 61 = .ok (.invokevirtual 95, 3) := by decide +kernel
theorem dX4_readRule_64 : decode cX4_readRule 64 = .ok (.aload_n 0, 1) := by decide +kernel
theorem dX4_readRule_65 : decode cX4_readRule 65 = .ok (.getfield 21, 3) := by decide +kernel
theorem dX4_readRule_68 : decode cX4_readRule 68 = .ok (.getfield 89, 3) := by decide +kernel
theorem dX4_readRule_71 : decode cX4_readRule 71 = .ok (.istore_n 2, 1) := by decide +kernel
theorem dX4_readRule_72 : decode cX4_readRule 72 = .ok (.aload_n 0, 1) := by decide +kernel
theorem dX4_readRule_73 : decode cX4_readRule 73 = .ok (.bipush 13, 2) := by decide +kernel
theorem dX4_readRule_75 : decode cX4_readRule 75 = .ok (.invokevirtual 98, 3) := by decide +kernel
theorem dX4_readRule_78 : decode cX4_readRule 78 = .ok (.ifCond .eq 7, 3) := by decide +kernel
theorem dX4_readRule_81 : decode cX4_readRule 81 = .ok (.aload_n 0, 1) := by decide +kernel
theorem dX4_readRule_82 : decode cX4_readRule 82 = .ok (.invokevirtual 92, 3) := by decide +kernel
theorem dX4_readRule_85 : decode cX4_readRule 85 = .ok (.aload_n 0, 1) := by decide +kernel
theorem dX4_readRule_86 : decode cX4_readRule 86 = .ok (.bipush 59, 2) := by decide +kernel
theorem dX4_readRule_88 : decode cX4_readRule 88 = .ok (.invokevirtual 68, 3) := by decide +kernel
theorem dX4_readRule_91 : decode cX4_readRule 91 = .ok (.aload_n 0, 1) := by decide +kernel
theorem dX4_readRule_92 : decode cX4_readRule 92 = .ok (.getfield 21, 3) := by decide +kernel
theorem dX4_readRule_95 : decode cX4_readRule 95 = .ok (.iload_n 3, 1) := by decide +kernel
theorem dX4_readRule_96 : decode cX4_readRule 96 = .ok (.iload_n 1, 1) := by decide +kernel
theorem dX4_readRule_97 : decode cX4_readRule 97 = .ok (.iload_n 2, 1) := by decide +kernel
theorem dX4_readRule_98 : decode cX4_readRule 98 = .ok (.invokevirtual 101, 3) := by decide +kernel
theorem dX4_readRule_101 : decode cX4_readRule 101 = .ok (.return_, 1) := by decide +kernel
theorem dX4_readCond_0 : decode cX4_readCond 0 = .ok (.aload_n 0, 1) := by decide +kernel
theorem dX4_readCond_1 : decode cX4_readCond 1 = .ok (.invokevirtual 105, 3) := by decide +kernel
theorem dX4_readCond_4 : decode cX4_readCond 4 = .ok (.iconst 0, 1) := by decide +kernel
theorem dX4_readCond_5 : decode cX4_readCond 5 = .ok (.istore_n 1, 1) := by decide +kernel
theorem dX4_readCond_6 : decode cX4_readCond 6 = .ok (.iload_n 1, 1) := by decide +kernel
theorem dX4_readCond_7 : decode cX4_readCond 7 = .ok (.sipush 600, 3) := by decide +kernel
theorem dX4_readCond_10 : decode cX4_readCond 10 = .ok (.if_icmp .ge 32, 3) := by decide +kernel
theorem dX4_readCond_13 : decode cX4_readCond 13 = .ok (.aload_n 0, 1) := by decide +kernel
theorem dX4_readCond_14 : decode cX4_readCond 14 = .ok (.bipush 14, 2) := by decide +kernel
theorem dX4_readCond_16 : decode cX4_readCond 16 = .ok (.invokevirtual 98, 3) := by decide +kernel
theorem dX4_readCond_19 : decode cX4_readCond 19 = .ok (.ifCond .eq 23, 3) := by decide +kernel
theorem dX4_readCond_22 : decode cX4_readCond 22 = .ok (.aload_n 0, 1) := by decide +kernel
theorem dX4_readCond_23 : decode cX4_readCond 23 = .ok (.invokevirtual 105, 3) := by decide +kernel
theorem dX4_readCond_26 : decode cX4_readCond 26 = .ok (.aload_n 0, 1) := by decide +kernel
theorem dX4_readCond_27 : decode cX4_readCond 27 = .ok (.getfield 21, 3) := by decide +kernel
theorem dX4_readCond_30 : decode cX4_readCond 30 = .ok (.bipush 13, 2) := by decide +kernel
theorem dX4_readCond_32 : decode cX4_readCond 32 = .ok (.iconst 0, 1) := by decide +kernel
theorem dX4_readCond_33 : decode cX4_readCond 33 = .ok (.invokevirtual 108, 3) := by decide +kernel
theorem dX4_readCond_36 : decode cX4_readCond 36 = .ok (.iinc 1 1, 3) := by decide +kernel
theorem dX4_readCond_39 : decode cX4_readCond 39 = .ok (.goto (-33), 3) := by decide +kernel
theorem dX4_readCond_42 : decode cX4_readCond 42 = .ok (.return_, 1) := by decide +kernel
theorem dX4_readAll_0 : decode cX4_readAll 0 = .ok (.aload_n 0, 1) := by decide +kernel
theorem dX4_readAll_1 : decode cX4_readAll 1 = .ok (.invokevirtual 112, 3) := by decide +kernel
theorem dX4_readAll_4 : decode cX4_readAll 4 = .ok (.iconst 0, 1) := by decide +kernel
theorem dX4_readAll_5 : decode cX4_readAll 5 = .ok (.istore_n 1, 1) := by decide +kernel
theorem dX4_readAll_6 : decode cX4_readAll 6 = .ok (.iload_n 1, 1) := by decide +kernel
theorem dX4_readAll_7 : decode cX4_readAll 7 = .ok (.sipush 600, 3) := by decide +kernel
theorem dX4_readAll_10 : decode cX4_readAll 10 = .ok (.if_icmp .ge 32, 3) := by decide +kernel
theorem dX4_readAll_13 : decode cX4_readAll 13 = .ok (.aload_n 0, 1) := by decide +kernel
theorem dX4_readAll_14 : decode cX4_readAll 14 = .ok (.bipush 15, 2) := by decide +kernel
theorem dX4_readAll_16 : decode cX4_readAll 16 = .ok (.invokevirtual 98, 3) := by decide +kernel
theorem dX4_readAll_19 : decode cX4_readAll 19 = .ok (.ifCond .eq 23, 3) := by decide +kernel
theorem dX4_readAll_22 : decode cX4_readAll 22 = .ok (.aload_n 0, 1) := by decide +kernel
theorem dX4_readAll_23 : decode cX4_readAll 23 = .ok (.invokevirtual 112, 3) := by decide +kernel
theorem dX4_readAll_26 : decode cX4_readAll 26 = .ok (.aload_n 0, 1) := by decide +kernel
theorem dX4_readAll_27 : decode cX4_readAll 27 = .ok (.getfield 21, 3) := by decide +kernel
theorem dX4_readAll_30 : decode cX4_readAll 30 = .ok (.bipush 12, 2) := by decide +kernel
theorem dX4_readAll_32 : decode cX4_readAll 32 = .ok (.iconst 0, 1) := by decide +kernel
theorem dX4_readAll_33 : decode cX4_readAll 33 = .ok (.invokevirtual 108, 3) := by decide +kernel
theorem dX4_readAll_36 : decode cX4_readAll 36 = .ok (.iinc 1 1, 3) := by decide +kernel
theorem dX4_readAll_39 : decode cX4_readAll 39 = .ok (.goto (-33), 3) := by decide +kernel
theorem dX4_readAll_42 : decode cX4_readAll 42 = .ok (.return_, 1) := by decide +kernel
theorem dX4_readLit_0 : decode cX4_readLit 0 = .ok (.aload_n 0, 1) := by decide +kernel
theorem dX4_readLit_1 : decode cX4_readLit 1 = .ok (.bipush 16, 2) := by decide +kernel
theorem dX4_readLit_3 : decode cX4_readLit 3 = .ok (.invokevirtual 115, 3) := by decide +kernel
theorem dX4_readLit_6 : decode cX4_readLit 6 = .ok (.ifCond .eq 29, 3) := by decide +kernel
theorem dX4_readLit_9 : decode cX4_readLit 9 = .ok (.aload_n 0, 1) := by decide +kernel
theorem dX4_readLit_10 : decode cX4_readLit 10 = .ok (.invokevirtual 112, 3) := by decide +kernel
theorem dX4_readLit_13 : decode cX4_readLit 13 = .ok (.aload_n 0, 1) := by decide +kernel
theorem dX4_readLit_14 : decode cX4_readLit 14 = .ok (.getfield 21, 3) := by decide +kernel
theorem dX4_readLit_17 : decode cX4_readLit 17 = .ok (.iconst 4, 1) := by decide +kernel
theorem dX4_readLit_18 : decode cX4_readLit 18 = .ok (.iconst 0, 1) := by decide +kernel
theorem dX4_readLit_19 : decode cX4_readLit 19 = .ok (.invokevirtual 108, 3) := by decide +kernel
theorem dX4_readLit_22 : decode cX4_readLit 22 = .ok (.aload_n 0, 1) := by decide +kernel
theorem dX4_readLit_23 : decode cX4_readLit 23 = .ok (.dup, 1) := by decide +kernel
theorem dX4_readLit_24 : decode cX4_readLit 24 = .ok (.getfield 29, 3) := by decide +kernel
theorem dX4_readLit_27 : decode cX4_readLit 27 = .ok (.iconst 1, 1) := by decide +kernel
theorem dX4_readLit_28 : decode cX4_readLit 28 = .ok (.isub, 1) := by decide +kernel
theorem dX4_readLit_29 : decode cX4_readLit 29 = .ok (.putfield 29, 3) := by decide +kernel
theorem dX4_readLit_32 : decode cX4_readLit 32 = .ok (.goto 83, 3) := by decide +kernel
theorem dX4_readLit_35 : decode cX4_readLit 35 = .ok (.aload_n 0, 1) := by decide +kernel
theorem dX4_readLit_36 : decode cX4_readLit 36 = .ok (.bipush 91, 2) := by decide +kernel
theorem dX4_readLit_38 : decode cX4_readLit 38 = .ok (.invokevirtual 115, 3) := by decide +kernel
theorem dX4_readLit_41 : decode cX4_readLit 41 = .ok (.ifCond .eq 26, 3) := by decide +kernel
theorem dX4_readLit_44 : decode cX4_readLit 44 = .ok (.aload_n 0, 1) := by decide +kernel
theorem dX4_readLit_45 : decode cX4_readLit 45 = .ok (.invokevirtual 92, 3) := by decide +kernel
theorem dX4_readLit_48 : decode cX4_readLit 48 = .ok (.aload_n 0, 1) := by decide +kernel
theorem dX4_readLit_49 : decode cX4_readLit 49 = .ok (.bipush 93, 2) := by decide +kernel
theorem dX4_readLit_51 : decode cX4_readLit 51 = .ok (.invokevirtual 68, 3) := by decide +kernel
theorem dX4_readLit_54 : decode cX4_readLit 54 = .ok (.aload_n 0, 1) := by decide +kernel
theorem dX4_readLit_55 : decode cX4_readLit 55 = .ok (.dup, 1) := by decide +kernel
theorem dX4_readLit_56 : decode cX4_readLit 56 = .ok (.getfield 29, 3) := by decide +kernel
theorem dX4_readLit_59 : decode cX4_readLit 59 = .ok (.iconst 1, 1) := by decide +kernel
theorem dX4_readLit_60 : decode cX4_readLit 60 = .ok (.isub, 1) := by decide +kernel
theorem dX4_readLit_61 : decode cX4_readLit 61 = .ok (.putfield 29, 3) := by decide +kernel
theorem dX4_readLit_64 : decode cX4_readLit 64 = .ok (.goto 51, 3) := by decide +kernel
theorem dX4_readLit_67 : decode cX4_readLit 67 = .ok (.aload_n 0, 1) := by decide +kernel
theorem dX4_readLit_68 : decode cX4_readLit 68 = .ok (.invokevirtual 95, 3) := by decide +kernel
theorem dX4_readLit_71 : decode cX4_readLit 71 = .ok (.aload_n 0, 1) := by decide +kernel
theorem dX4_readLit_72 : decode cX4_readLit 72 = .ok (.invokevirtual 118, 3) := by decide +kernel
theorem dX4_readLit_75 : decode cX4_readLit 75 = .ok (.istore_n 1, 1) := by decide +kernel
theorem dX4_readLit_76 : decode cX4_readLit 76 = .ok (.iload_n 1, 1) := by decide +kernel
theorem dX4_readLit_77 : decode cX4_readLit 77 = .ok (.iconst (-1), 1) := by decide +kernel
theorem dX4_readLit_78 : decode cX4_readLit 78 = .ok (.if_icmp .ne 8, 3) := by decide +kernel
theorem dX4_readLit_81 : decode cX4_readLit 81 = .ok (.aload_n 0, 1) := by decide +kernel
theorem dX4_readLit_82 : decode cX4_readLit 82 = .ok (.iconst 1, 1) := by decide +kernel
theorem dX4_readLit_83 : decode cX4_readLit 83 = .ok (.invokevirtual 61, 3) := by decide +kernel
theorem dX4_readLit_86 : decode cX4_readLit 86 = .ok (.aload_n 0, 1) := by decide +kernel
theorem dX4_readLit_87 : decode cX4_readLit 87 = .ok (.aload_n 0, 1) := by decide +kernel
theorem dX4_readLit_88 : decode cX4_readLit 88 = .ok (.getfield 12, 3) := by decide +kernel
theorem dX4_readLit_91 : decode cX4_readLit 91 = .ok (.getfield 122, 3) := by decide +kernel
theorem dX4_readLit_94 : decode cX4_readLit 94 = .ok (.aload_n 0, 1) := by decide +kernel
theorem dX4_readLit_95 : decode cX4_readLit 95 = .ok (.getfield 25, 3) := by decide +kernel
theorem dX4_readLit_98 : decode cX4_readLit 98 = .ok (.iaload, 1) := by decide +kernel
theorem dX4_readLit_99 : decode cX4_readLit 99 = .ok (.invokevirtual 68, 3) := by decide +kernel
theorem dX4_readLit_102 : decode cX4_readLit 102 = .ok (.aload_n 0, 1) := by decide +kernel
theorem dX4_readLit_103 : decode cX4_readLit 103 = .ok (.invokevirtual 95, 3) := by decide +kernel
theorem dX4_readLit_106 : decode cX4_readLit 106 = .ok (.aload_n 0, 1) := by decide +kernel
theorem dX4_readLit_107 : decode cX4_readLit 107 = .ok (.getfield 21, 3) := by decide +kernel
theorem dX4_readLit_110 : decode cX4_readLit 110 = .ok (.iload_n 1, 1) := by decide +kernel
theorem dX4_readLit_111 : decode cX4_readLit 111 = .ok (.iconst 0, 1) := by decide +kernel
theorem dX4_readLit_112 : decode cX4_readLit 112 = .ok (.invokevirtual 108, 3) := by decide +kernel
theorem dX4_readLit_115 : decode cX4_readLit 115 = .ok (.return_, 1) := by decide +kernel
theorem dX4_relationStep_0 : decode cX4_relationStep 0 = .ok (.aload_n 0, 1) := by decide +kernel
theorem dX4_relationStep_1 : decode cX4_relationStep 1 = .ok (.getfield 12, 3) := by decide +kernel
theorem dX4_relationStep_4 : decode cX4_relationStep 4 = .ok (.getfield 122, 3) := by decide +kernel
theorem dX4_relationStep_7 : decode cX4_relationStep 7 = .ok (.aload_n 0, 1) := by decide +kernel
theorem dX4_relationStep_8 : decode cX4_relationStep 8 = .ok (.getfield 25, 3) := by decide +kernel
theorem dX4_relationStep_11 : decode cX4_relationStep 11 = .ok (.iaload, 1) := by decide +kernel
theorem dX4_relationStep_12 : decode cX4_relationStep 12 = .ok (.lookupswitch 56 #[(4, 44), (5, 47), (6, 53), (60, 50)], 44) := by decide +kernel
theorem dX4_relationStep_56 : decode cX4_relationStep 56 = .ok (.bipush 8, 2) := by decide +kernel
theorem dX4_relationStep_58 : decode cX4_relationStep 58 = .ok (.ireturn, 1) := by decide +kernel
theorem dX4_relationStep_59 : decode cX4_relationStep 59 = .ok (.bipush 9, 2) := by decide +kernel
theorem dX4_relationStep_61 : decode cX4_relationStep 61 = .ok (.ireturn, 1) := by decide +kernel
theorem dX4_relationStep_62 : decode cX4_relationStep 62 = .ok (.bipush 10, 2) := by decide +kernel
theorem dX4_relationStep_64 : decode cX4_relationStep 64 = .ok (.ireturn, 1) := by decide +kernel
theorem dX4_relationStep_65 : decode cX4_relationStep 65 = .ok (.bipush 11, 2) := by decide +kernel
theorem dX4_relationStep_67 : decode cX4_relationStep 67 = .ok (.ireturn, 1) := by decide +kernel
theorem dX4_relationStep_68 : decode cX4_relationStep 68 = .ok (.iconst (-1), 1) := by decide +kernel
theorem dX4_relationStep_69 : decode cX4_relationStep 69 = .ok (.ireturn, 1) := by decide +kernel
theorem dX4_readSum_0 : decode cX4_readSum 0 = .ok (.aload_n 0, 1) := by decide +kernel
theorem dX4_readSum_1 : decode cX4_readSum 1 = .ok (.bipush 45, 2) := by decide +kernel
theorem dX4_readSum_3 : decode cX4_readSum 3 = .ok (.invokevirtual 98, 3) := by decide +kernel
theorem dX4_readSum_6 : decode cX4_readSum 6 = .ok (.istore_n 1, 1) := by decide +kernel
theorem dX4_readSum_7 : decode cX4_readSum 7 = .ok (.aload_n 0, 1) := by decide +kernel
theorem dX4_readSum_8 : decode cX4_readSum 8 = .ok (.invokevirtual 126, 3) := by decide +kernel
theorem dX4_readSum_11 : decode cX4_readSum 11 = .ok (.iload_n 1, 1) := by decide +kernel
theorem dX4_readSum_12 : decode cX4_readSum 12 = .ok (.ifCond .eq 12, 3) := by decide +kernel
theorem dX4_readSum_15 : decode cX4_readSum 15 = .ok (.aload_n 0, 1) := by decide +kernel
theorem dX4_readSum_16 : decode cX4_readSum 16 = .ok (.getfield 21, 3) := by decide +kernel
theorem dX4_readSum_19 : decode cX4_readSum 19 = .ok (.iconst 3, 1) := by decide +kernel
theorem dX4_readSum_20 : decode cX4_readSum 20 = .ok (.iconst 0, 1) := by decide +kernel
theorem dX4_readSum_21 : decode cX4_readSum 21 = .ok (.invokevirtual 108, 3) := by decide +kernel
theorem dX4_readSum_24 : decode cX4_readSum 24 = .ok (.iconst 0, 1) := by decide +kernel
theorem dX4_readSum_25 : decode cX4_readSum 25 = .ok (.istore_n 2, 1) := by decide +kernel
theorem dX4_readSum_26 : decode cX4_readSum 26 = .ok (.iload_n 2, 1) := by decide +kernel
theorem dX4_readSum_27 : decode cX4_readSum 27 = .ok (.sipush 600, 3) := by decide +kernel
theorem dX4_readSum_30 : decode cX4_readSum 30 = .ok (.if_icmp .ge 72, 3) := by decide +kernel
theorem dX4_readSum_33 : decode cX4_readSum 33 = .ok (.aload_n 0, 1) := by decide +kernel
theorem dX4_readSum_34 : decode cX4_readSum 34 = .ok (.bipush 43, 2) := by decide +kernel
theorem dX4_readSum_36 : decode cX4_readSum 36 = .ok (.invokevirtual 51, 3) := by decide +kernel
theorem dX4_readSum_39 : decode cX4_readSum 39 = .ok (.ifCond .ne 12, 3) := by decide +kernel
theorem dX4_readSum_42 : decode cX4_readSum 42 = .ok (.aload_n 0, 1) := by decide +kernel
theorem dX4_readSum_43 : decode cX4_readSum 43 = .ok (.bipush 45, 2) := by decide +kernel
theorem dX4_readSum_45 : decode cX4_readSum 45 = .ok (.invokevirtual 51, 3) := by decide +kernel
theorem dX4_readSum_48 : decode cX4_readSum 48 = .ok (.ifCond .eq 54, 3) := by decide +kernel
theorem dX4_readSum_51 : decode cX4_readSum 51 = .ok (.aload_n 0, 1) := by decide +kernel
theorem dX4_readSum_52 : decode cX4_readSum 52 = .ok (.bipush 43, 2) := by decide +kernel
theorem dX4_readSum_54 : decode cX4_readSum 54 = .ok (.invokevirtual 51, 3) := by decide +kernel
theorem dX4_readSum_57 : decode cX4_readSum 57 = .ok (.ifCond .eq 7, 3) := by decide +kernel
theorem dX4_readSum_60 : decode cX4_readSum 60 = .ok (.iconst 5, 1) := by decide +kernel
theorem dX4_readSum_61 : decode cX4_readSum 61 = .ok (.goto 5, 3) := by decide +kernel
theorem dX4_readSum_64 : decode cX4_readSum 64 = .ok (.bipush 6, 2) := by decide +kernel
theorem dX4_readSum_66 : decode cX4_readSum 66 = .ok (.istore_n 3, 1) := by decide +kernel
theorem dX4_readSum_67 : decode cX4_readSum 67 = .ok (.aload_n 0, 1) := by decide +kernel
theorem dX4_readSum_68 : decode cX4_readSum 68 = .ok (.aload_n 0, 1) := by decide +kernel
theorem dX4_readSum_69 : decode cX4_readSum 69 = .ok (.getfield 12, 3) := by decide +kernel
theorem dX4_readSum_72 : decode cX4_readSum 72 = .ok (.getfield 122, 3) := by decide +kernel
theorem dX4_readSum_75 : decode cX4_readSum 75 = .ok (.aload_n 0, 1) := by decide +kernel
theorem dX4_readSum_76 : decode cX4_readSum 76 = .ok (.getfield 25, 3) := by decide +kernel
theorem dX4_readSum_79 : decode cX4_readSum 79 = .ok (.iaload, 1) := by decide +kernel
theorem dX4_readSum_80 : decode cX4_readSum 80 = .ok (.invokevirtual 68, 3) := by decide +kernel
theorem dX4_readSum_83 : decode cX4_readSum 83 = .ok (.aload_n 0, 1) := by decide +kernel
theorem dX4_readSum_84 : decode cX4_readSum 84 = .ok (.invokevirtual 126, 3) := by decide +kernel
theorem dX4_readSum_87 : decode cX4_readSum 87 = .ok (.aload_n 0, 1) := by decide +kernel
theorem dX4_readSum_88 : decode cX4_readSum 88 = .ok (.getfield 21, 3) := by decide +kernel
theorem dX4_readSum_91 : decode cX4_readSum 91 = .ok (.iload_n 3, 1) := by decide +kernel
theorem dX4_readSum_92 : decode cX4_readSum 92 = .ok (.iconst 0, 1) := by decide +kernel
theorem dX4_readSum_93 : decode cX4_readSum 93 = .ok (.invokevirtual 108, 3) := by decide +kernel
theorem dX4_readSum_96 : decode cX4_readSum 96 = .ok (.iinc 2 1, 3) := by decide +kernel
theorem dX4_readSum_99 : decode cX4_readSum 99 = .ok (.goto (-73), 3) := by decide +kernel
theorem dX4_readSum_102 : decode cX4_readSum 102 = .ok (.return_, 1) := by decide +kernel
theorem dX4_readPart_0 : decode cX4_readPart 0 = .ok (.aload_n 0, 1) := by decide +kernel
theorem dX4_readPart_1 : decode cX4_readPart 1 = .ok (.invokevirtual 129, 3) := by decide +kernel
theorem dX4_readPart_4 : decode cX4_readPart 4 = .ok (.iconst 0, 1) := by decide +kernel
theorem dX4_readPart_5 : decode cX4_readPart 5 = .ok (.istore_n 1, 1) := by decide +kernel
theorem dX4_readPart_6 : decode cX4_readPart 6 = .ok (.iload_n 1, 1) := by decide +kernel
theorem dX4_readPart_7 : decode cX4_readPart 7 = .ok (.sipush 600, 3) := by decide +kernel
theorem dX4_readPart_10 : decode cX4_readPart 10 = .ok (.if_icmp .ge 32, 3) := by decide +kernel
theorem dX4_readPart_13 : decode cX4_readPart 13 = .ok (.aload_n 0, 1) := by decide +kernel
theorem dX4_readPart_14 : decode cX4_readPart 14 = .ok (.bipush 42, 2) := by decide +kernel
theorem dX4_readPart_16 : decode cX4_readPart 16 = .ok (.invokevirtual 98, 3) := by decide +kernel
theorem dX4_readPart_19 : decode cX4_readPart 19 = .ok (.ifCond .eq 23, 3) := by decide +kernel
theorem dX4_readPart_22 : decode cX4_readPart 22 = .ok (.aload_n 0, 1) := by decide +kernel
theorem dX4_readPart_23 : decode cX4_readPart 23 = .ok (.invokevirtual 129, 3) := by decide +kernel
theorem dX4_readPart_26 : decode cX4_readPart 26 = .ok (.aload_n 0, 1) := by decide +kernel
theorem dX4_readPart_27 : decode cX4_readPart 27 = .ok (.getfield 21, 3) := by decide +kernel
theorem dX4_readPart_30 : decode cX4_readPart 30 = .ok (.bipush 7, 2) := by decide +kernel
theorem dX4_readPart_32 : decode cX4_readPart 32 = .ok (.iconst 0, 1) := by decide +kernel
theorem dX4_readPart_33 : decode cX4_readPart 33 = .ok (.invokevirtual 108, 3) := by decide +kernel
theorem dX4_readPart_36 : decode cX4_readPart 36 = .ok (.iinc 1 1, 3) := by decide +kernel
theorem dX4_readPart_39 : decode cX4_readPart 39 = .ok (.goto (-33), 3) := by decide +kernel
theorem dX4_readPart_42 : decode cX4_readPart 42 = .ok (.return_, 1) := by decide +kernel
theorem dX4_readUnit_0 : decode cX4_readUnit 0 = .ok (.aload_n 0, 1) := by decide +kernel
theorem dX4_readUnit_1 : decode cX4_readUnit 1 = .ok (.iconst 3, 1) := by decide +kernel
theorem dX4_readUnit_2 : decode cX4_readUnit 2 = .ok (.invokevirtual 51, 3) := by decide +kernel
theorem dX4_readUnit_5 : decode cX4_readUnit 5 = .ok (.ifCond .eq 32, 3) := by decide +kernel
theorem dX4_readUnit_8 : decode cX4_readUnit 8 = .ok (.aload_n 0, 1) := by decide +kernel
theorem dX4_readUnit_9 : decode cX4_readUnit 9 = .ok (.getfield 21, 3) := by decide +kernel
theorem dX4_readUnit_12 : decode cX4_readUnit 12 = .ok (.iconst 0, 1) := by decide +kernel
theorem dX4_readUnit_13 : decode cX4_readUnit 13 = .ok (.aload_n 0, 1) := by decide +kernel
theorem dX4_readUnit_14 : decode cX4_readUnit 14 = .ok (.getfield 12, 3) := by decide +kernel
theorem dX4_readUnit_17 : decode cX4_readUnit 17 = .ok (.getfield 71, 3) := by decide +kernel
theorem dX4_readUnit_20 : decode cX4_readUnit 20 = .ok (.aload_n 0, 1) := by decide +kernel
theorem dX4_readUnit_21 : decode cX4_readUnit 21 = .ok (.getfield 25, 3) := by decide +kernel
theorem dX4_readUnit_24 : decode cX4_readUnit 24 = .ok (.laload, 1) := by decide +kernel
theorem dX4_readUnit_25 : decode cX4_readUnit 25 = .ok (.l2i, 1) := by decide +kernel
theorem dX4_readUnit_26 : decode cX4_readUnit 26 = .ok (.invokevirtual 108, 3) := by decide +kernel
theorem dX4_readUnit_29 : decode cX4_readUnit 29 = .ok (.aload_n 0, 1) := by decide +kernel
theorem dX4_readUnit_30 : decode cX4_readUnit 30 = .ok (.iconst 3, 1) := by decide +kernel
theorem dX4_readUnit_31 : decode cX4_readUnit 31 = .ok (.invokevirtual 68, 3) := by decide +kernel
theorem dX4_readUnit_34 : decode cX4_readUnit 34 = .ok (.goto 79, 3) := by decide +kernel
theorem dX4_readUnit_37 : decode cX4_readUnit 37 = .ok (.aload_n 0, 1) := by decide +kernel
theorem dX4_readUnit_38 : decode cX4_readUnit 38 = .ok (.bipush 17, 2) := by decide +kernel
theorem dX4_readUnit_40 : decode cX4_readUnit 40 = .ok (.invokevirtual 51, 3) := by decide +kernel
theorem dX4_readUnit_43 : decode cX4_readUnit 43 = .ok (.ifCond .ne 12, 3) := by decide +kernel
theorem dX4_readUnit_46 : decode cX4_readUnit 46 = .ok (.aload_n 0, 1) := by decide +kernel
theorem dX4_readUnit_47 : decode cX4_readUnit 47 = .ok (.bipush 18, 2) := by decide +kernel
theorem dX4_readUnit_49 : decode cX4_readUnit 49 = .ok (.invokevirtual 51, 3) := by decide +kernel
theorem dX4_readUnit_52 : decode cX4_readUnit 52 = .ok (.ifCond .eq 24, 3) := by decide +kernel
theorem dX4_readUnit_55 : decode cX4_readUnit 55 = .ok (.aload_n 0, 1) := by decide +kernel
theorem dX4_readUnit_56 : decode cX4_readUnit 56 = .ok (.aload_n 0, 1) := by decide +kernel
theorem dX4_readUnit_57 : decode cX4_readUnit 57 = .ok (.bipush 17, 2) := by decide +kernel
theorem dX4_readUnit_59 : decode cX4_readUnit 59 = .ok (.invokevirtual 51, 3) := by decide +kernel
theorem dX4_readUnit_62 : decode cX4_readUnit 62 = .ok (.ifCond .eq 7, 3) := by decide +kernel
theorem dX4_readUnit_65 : decode cX4_readUnit 65 = .ok (.iconst 1, 1) := by decide +kernel
theorem dX4_readUnit_66 : decode cX4_readUnit 66 = .ok (.goto 4, 3) := by decide +kernel
theorem dX4_readUnit_69 : decode cX4_readUnit 69 = .ok (.iconst 2, 1) := by decide +kernel
theorem dX4_readUnit_70 : decode cX4_readUnit 70 = .ok (.invokevirtual 132, 3) := by decide +kernel
theorem dX4_readUnit_73 : decode cX4_readUnit 73 = .ok (.goto 40, 3) := by decide +kernel
theorem dX4_readUnit_76 : decode cX4_readUnit 76 = .ok (.aload_n 0, 1) := by decide +kernel
theorem dX4_readUnit_77 : decode cX4_readUnit 77 = .ok (.bipush 40, 2) := by decide +kernel
theorem dX4_readUnit_79 : decode cX4_readUnit 79 = .ok (.invokevirtual 115, 3) := by decide +kernel
theorem dX4_readUnit_82 : decode cX4_readUnit 82 = .ok (.ifCond .eq 26, 3) := by decide +kernel
theorem dX4_readUnit_85 : decode cX4_readUnit 85 = .ok (.aload_n 0, 1) := by decide +kernel
theorem dX4_readUnit_86 : decode cX4_readUnit 86 = .ok (.invokevirtual 95, 3) := by decide +kernel
theorem dX4_readUnit_89 : decode cX4_readUnit 89 = .ok (.aload_n 0, 1) := by decide +kernel
theorem dX4_readUnit_90 : decode cX4_readUnit 90 = .ok (.bipush 41, 2) := by decide +kernel
theorem dX4_readUnit_92 : decode cX4_readUnit 92 = .ok (.invokevirtual 68, 3) := by decide +kernel
theorem dX4_readUnit_95 : decode cX4_readUnit 95 = .ok (.aload_n 0, 1) := by decide +kernel
theorem dX4_readUnit_96 : decode cX4_readUnit 96 = .ok (.dup, 1) := by decide +kernel
theorem dX4_readUnit_97 : decode cX4_readUnit 97 = .ok (.getfield 29, 3) := by decide +kernel
theorem dX4_readUnit_100 : decode cX4_readUnit 100 = .ok (.iconst 1, 1) := by decide +kernel
theorem dX4_readUnit_101 : decode cX4_readUnit 101 = .ok (.isub, 1) := by decide +kernel
theorem dX4_readUnit_102 : decode cX4_readUnit 102 = .ok (.putfield 29, 3) := by decide +kernel
theorem dX4_readUnit_105 : decode cX4_readUnit 105 = .ok (.goto 8, 3) := by decide +kernel
theorem dX4_readUnit_108 : decode cX4_readUnit 108 = .ok (.aload_n 0, 1) := by decide +kernel
theorem dX4_readUnit_109 : decode cX4_readUnit 109 = .ok (.iconst 1, 1) := by decide +kernel
theorem dX4_readUnit_110 : decode cX4_readUnit 110 = .ok (.invokevirtual 61, 3) := by decide +kernel
theorem dX4_readUnit_113 : decode cX4_readUnit 113 = .ok (.return_, 1) := by decide +kernel
theorem dX4_readTraitOf_0 : decode cX4_readTraitOf 0 = .ok (.aload_n 0, 1) := by decide +kernel
theorem dX4_readTraitOf_1 : decode cX4_readTraitOf 1 = .ok (.aload_n 0, 1) := by decide +kernel
theorem dX4_readTraitOf_2 : decode cX4_readTraitOf 2 = .ok (.getfield 12, 3) := by decide +kernel
theorem dX4_readTraitOf_5 : decode cX4_readTraitOf 5 = .ok (.getfield 122, 3) := by decide +kernel
theorem dX4_readTraitOf_8 : decode cX4_readTraitOf 8 = .ok (.aload_n 0, 1) := by decide +kernel
theorem dX4_readTraitOf_9 : decode cX4_readTraitOf 9 = .ok (.getfield 25, 3) := by decide +kernel
theorem dX4_readTraitOf_12 : decode cX4_readTraitOf 12 = .ok (.iaload, 1) := by decide +kernel
theorem dX4_readTraitOf_13 : decode cX4_readTraitOf 13 = .ok (.invokevirtual 68, 3) := by decide +kernel
theorem dX4_readTraitOf_16 : decode cX4_readTraitOf 16 = .ok (.aload_n 0, 1) := by decide +kernel
theorem dX4_readTraitOf_17 : decode cX4_readTraitOf 17 = .ok (.bipush 46, 2) := by decide +kernel
theorem dX4_readTraitOf_19 : decode cX4_readTraitOf 19 = .ok (.invokevirtual 68, 3) := by decide +kernel
theorem dX4_readTraitOf_22 : decode cX4_readTraitOf 22 = .ok (.aload_n 0, 1) := by decide +kernel
theorem dX4_readTraitOf_23 : decode cX4_readTraitOf 23 = .ok (.iconst 2, 1) := by decide +kernel
theorem dX4_readTraitOf_24 : decode cX4_readTraitOf 24 = .ok (.invokevirtual 51, 3) := by decide +kernel
theorem dX4_readTraitOf_27 : decode cX4_readTraitOf 27 = .ok (.ifCond .eq 42, 3) := by decide +kernel
theorem dX4_readTraitOf_30 : decode cX4_readTraitOf 30 = .ok (.aload_n 0, 1) := by decide +kernel
theorem dX4_readTraitOf_31 : decode cX4_readTraitOf 31 = .ok (.getfield 21, 3) := by decide +kernel
theorem dX4_readTraitOf_34 : decode cX4_readTraitOf 34 = .ok (.aload_n 0, 1) := by decide +kernel
theorem dX4_readTraitOf_35 : decode cX4_readTraitOf 35 = .ok (.getfield 12, 3) := by decide +kernel
theorem dX4_readTraitOf_38 : decode cX4_readTraitOf 38 = .ok (.getfield 71, 3) := by decide +kernel
theorem dX4_readTraitOf_41 : decode cX4_readTraitOf 41 = .ok (.aload_n 0, 1) := by decide +kernel
theorem dX4_readTraitOf_42 : decode cX4_readTraitOf 42 = .ok (.getfield 25, 3) := by decide +kernel
theorem dX4_readTraitOf_45 : decode cX4_readTraitOf 45 = .ok (.laload, 1) := by decide +kernel
theorem dX4_readTraitOf_46 : decode cX4_readTraitOf 46 = .ok (.invokevirtual 75, 3) := by decide +kernel
theorem dX4_readTraitOf_49 : decode cX4_readTraitOf 49 = .ok (.istore_n 2, 1) := by decide +kernel
theorem dX4_readTraitOf_50 : decode cX4_readTraitOf 50 = .ok (.iload_n 2, 1) := by decide +kernel
theorem dX4_readTraitOf_51 : decode cX4_readTraitOf 51 = .ok (.iconst (-1), 1) := by decide +kernel
theorem dX4_readTraitOf_52 : decode cX4_readTraitOf 52 = .ok (.if_icmp .ne 8, 3) := by decide +kernel
theorem dX4_readTraitOf_55 : decode cX4_readTraitOf 55 = .ok (.aload_n 0, 1) := by decide +kernel
theorem dX4_readTraitOf_56 : decode cX4_readTraitOf 56 = .ok (.iconst 4, 1) := by decide +kernel
theorem dX4_readTraitOf_57 : decode cX4_readTraitOf 57 = .ok (.invokevirtual 79, 3) := by decide +kernel
theorem dX4_readTraitOf_60 : decode cX4_readTraitOf 60 = .ok (.aload_n 0, 1) := by decide +kernel
theorem dX4_readTraitOf_61 : decode cX4_readTraitOf 61 = .ok (.getfield 21, 3) := by decide +kernel
theorem dX4_readTraitOf_64 : decode cX4_readTraitOf 64 = .ok (.iload_n 1, 1) := by decide +kernel
theorem dX4_readTraitOf_65 : decode cX4_readTraitOf 65 = .ok (.iload_n 2, 1) := by decide +kernel
theorem dX4_readTraitOf_66 : decode cX4_readTraitOf 66 = .ok (.invokevirtual 108, 3) := by decide +kernel
theorem dX4_readTraitOf_69 : decode cX4_readTraitOf 69 = .ok (.aload_n 0, 1) := by decide +kernel
theorem dX4_readTraitOf_70 : decode cX4_readTraitOf 70 = .ok (.iconst 2, 1) := by decide +kernel
theorem dX4_readTraitOf_71 : decode cX4_readTraitOf 71 = .ok (.invokevirtual 68, 3) := by decide +kernel
theorem dX4_readTraitOf_74 : decode cX4_readTraitOf 74 = .ok (.return_, 1) := by decide +kernel
theorem dX4_sees_0 : decode cX4_sees 0 = .ok (.aload_n 0, 1) := by decide +kernel
theorem dX4_sees_1 : decode cX4_sees 1 = .ok (.getfield 32, 3) := by decide +kernel
theorem dX4_sees_4 : decode cX4_sees 4 = .ok (.ifCond .ne 23, 3) := by decide +kernel
theorem dX4_sees_7 : decode cX4_sees 7 = .ok (.aload_n 0, 1) := by decide +kernel
theorem dX4_sees_8 : decode cX4_sees 8 = .ok (.getfield 12, 3) := by decide +kernel
theorem dX4_sees_11 : decode cX4_sees 11 = .ok (.getfield 122, 3) := by decide +kernel
theorem dX4_sees_14 : decode cX4_sees 14 = .ok (.aload_n 0, 1) := by decide +kernel
theorem dX4_sees_15 : decode cX4_sees 15 = .ok (.getfield 25, 3) := by decide +kernel
theorem dX4_sees_18 : decode cX4_sees 18 = .ok (.iaload, 1) := by decide +kernel
theorem dX4_sees_19 : decode cX4_sees 19 = .ok (.iload_n 1, 1) := by decide +kernel
theorem dX4_sees_20 : decode cX4_sees 20 = .ok (.if_icmp .ne 7, 3) := by decide +kernel
theorem dX4_sees_23 : decode cX4_sees 23 = .ok (.iconst 1, 1) := by decide +kernel
theorem dX4_sees_24 : decode cX4_sees 24 = .ok (.goto 4, 3) := by decide +kernel
theorem dX4_sees_27 : decode cX4_sees 27 = .ok (.iconst 0, 1) := by decide +kernel
theorem dX4_sees_28 : decode cX4_sees 28 = .ok (.ireturn, 1) := by decide +kernel
theorem dX4_accepts_0 : decode cX4_accepts 0 = .ok (.aload_n 0, 1) := by decide +kernel
theorem dX4_accepts_1 : decode cX4_accepts 1 = .ok (.iload_n 1, 1) := by decide +kernel
theorem dX4_accepts_2 : decode cX4_accepts 2 = .ok (.invokevirtual 51, 3) := by decide +kernel
theorem dX4_accepts_5 : decode cX4_accepts 5 = .ok (.ifCond .ne 5, 3) := by decide +kernel
theorem dX4_accepts_8 : decode cX4_accepts 8 = .ok (.iconst 0, 1) := by decide +kernel
theorem dX4_accepts_9 : decode cX4_accepts 9 = .ok (.ireturn, 1) := by decide +kernel
theorem dX4_accepts_10 : decode cX4_accepts 10 = .ok (.aload_n 0, 1) := by decide +kernel
theorem dX4_accepts_11 : decode cX4_accepts 11 = .ok (.iload_n 1, 1) := by decide +kernel
theorem dX4_accepts_12 : decode cX4_accepts 12 = .ok (.invokevirtual 68, 3) := by decide +kernel
theorem dX4_accepts_15 : decode cX4_accepts 15 = .ok (.aload_n 0, 1) := by decide +kernel
theorem dX4_accepts_16 : decode cX4_accepts 16 = .ok (.getfield 32, 3) := by decide +kernel
theorem dX4_accepts_19 : decode cX4_accepts 19 = .ok (.ifCond .ne 7, 3) := by decide +kernel
theorem dX4_accepts_22 : decode cX4_accepts 22 = .ok (.iconst 1, 1) := by decide +kernel
theorem dX4_accepts_23 : decode cX4_accepts 23 = .ok (.goto 4, 3) := by decide +kernel
theorem dX4_accepts_26 : decode cX4_accepts 26 = .ok (.iconst 0, 1) := by decide +kernel
theorem dX4_accepts_27 : decode cX4_accepts 27 = .ok (.ireturn, 1) := by decide +kernel
theorem dX4_opens_0 : decode cX4_opens 0 = .ok (.aload_n 0, 1) := by decide +kernel
theorem dX4_opens_1 : decode cX4_opens 1 = .ok (.iload_n 1, 1) := by decide +kernel
theorem dX4_opens_2 : decode cX4_opens 2 = .ok (.invokevirtual 51, 3) := by decide +kernel
theorem dX4_opens_5 : decode cX4_opens 5 = .ok (.ifCond .ne 5, 3) := by decide +kernel
theorem dX4_opens_8 : decode cX4_opens 8 = .ok (.iconst 0, 1) := by decide +kernel
theorem dX4_opens_9 : decode cX4_opens 9 = .ok (.ireturn, 1) := by decide +kernel
theorem dX4_opens_10 : decode cX4_opens 10 = .ok (.aload_n 0, 1) := by decide +kernel
theorem dX4_opens_11 : decode cX4_opens 11 = .ok (.getfield 29, 3) := by decide +kernel
theorem dX4_opens_14 : decode cX4_opens 14 = .ok (.bipush 8, 2) := by decide +kernel
theorem dX4_opens_16 : decode cX4_opens 16 = .ok (.if_icmp .lt 10, 3) := by decide +kernel
theorem dX4_opens_19 : decode cX4_opens 19 = .ok (.aload_n 0, 1) := by decide +kernel
theorem dX4_opens_20 : decode cX4_opens 20 = .ok (.iconst 2, 1) := by decide +kernel
theorem dX4_opens_21 : decode cX4_opens 21 = .ok (.invokevirtual 61, 3) := by decide +kernel
theorem dX4_opens_24 : decode cX4_opens 24 = .ok (.iconst 0, 1) := by decide +kernel
theorem dX4_opens_25 : decode cX4_opens 25 = .ok (.ireturn, 1) := by decide +kernel
theorem dX4_opens_26 : decode cX4_opens 26 = .ok (.aload_n 0, 1) := by decide +kernel
theorem dX4_opens_27 : decode cX4_opens 27 = .ok (.dup, 1) := by decide +kernel
theorem dX4_opens_28 : decode cX4_opens 28 = .ok (.getfield 29, 3) := by decide +kernel
theorem dX4_opens_31 : decode cX4_opens 31 = .ok (.iconst 1, 1) := by decide +kernel
theorem dX4_opens_32 : decode cX4_opens 32 = .ok (.iadd, 1) := by decide +kernel
theorem dX4_opens_33 : decode cX4_opens 33 = .ok (.putfield 29, 3) := by decide +kernel
theorem dX4_opens_36 : decode cX4_opens 36 = .ok (.aload_n 0, 1) := by decide +kernel
theorem dX4_opens_37 : decode cX4_opens 37 = .ok (.iload_n 1, 1) := by decide +kernel
theorem dX4_opens_38 : decode cX4_opens 38 = .ok (.invokevirtual 68, 3) := by decide +kernel
theorem dX4_opens_41 : decode cX4_opens 41 = .ok (.aload_n 0, 1) := by decide +kernel
theorem dX4_opens_42 : decode cX4_opens 42 = .ok (.getfield 32, 3) := by decide +kernel
theorem dX4_opens_45 : decode cX4_opens 45 = .ok (.ifCond .ne 7, 3) := by decide +kernel
theorem dX4_opens_48 : decode cX4_opens 48 = .ok (.iconst 1, 1) := by decide +kernel
theorem dX4_opens_49 : decode cX4_opens 49 = .ok (.goto 4, 3) := by decide +kernel
theorem dX4_opens_52 : decode cX4_opens 52 = .ok (.iconst 0, 1) := by decide +kernel
theorem dX4_opens_53 : decode cX4_opens 53 = .ok (.ireturn, 1) := by decide +kernel
theorem dX4_expect_0 : decode cX4_expect 0 = .ok (.aload_n 0, 1) := by decide +kernel
theorem dX4_expect_1 : decode cX4_expect 1 = .ok (.iload_n 1, 1) := by decide +kernel
theorem dX4_expect_2 : decode cX4_expect 2 = .ok (.invokevirtual 51, 3) := by decide +kernel
theorem dX4_expect_5 : decode cX4_expect 5 = .ok (.ifCond .ne 11, 3) := by decide +kernel
theorem dX4_expect_8 : decode cX4_expect 8 = .ok (.aload_n 0, 1) := by decide +kernel
theorem dX4_expect_9 : decode cX4_expect 9 = .ok (.iconst 1, 1) := by decide +kernel
theorem dX4_expect_10 : decode cX4_expect 10 = .ok (.invokevirtual 61, 3) := by decide +kernel
theorem dX4_expect_13 : decode cX4_expect 13 = .ok (.goto 31, 3) := by decide +kernel
theorem dX4_expect_16 : decode cX4_expect 16 = .ok (.aload_n 0, 1) := by decide +kernel
theorem dX4_expect_17 : decode cX4_expect 17 = .ok (.getfield 25, 3) := by decide +kernel
theorem dX4_expect_20 : decode cX4_expect 20 = .ok (.sipush 600, 3) := by decide +kernel
theorem dX4_expect_23 : decode cX4_expect 23 = .ok (.if_icmp .lt 11, 3) := by decide +kernel
theorem dX4_expect_26 : decode cX4_expect 26 = .ok (.aload_n 0, 1) := by decide +kernel
theorem dX4_expect_27 : decode cX4_expect 27 = .ok (.iconst 2, 1) := by decide +kernel
theorem dX4_expect_28 : decode cX4_expect 28 = .ok (.invokevirtual 61, 3) := by decide +kernel
theorem dX4_expect_31 : decode cX4_expect 31 = .ok (.goto 13, 3) := by decide +kernel
theorem dX4_expect_34 : decode cX4_expect 34 = .ok (.aload_n 0, 1) := by decide +kernel
theorem dX4_expect_35 : decode cX4_expect 35 = .ok (.dup, 1) := by decide +kernel
theorem dX4_expect_36 : decode cX4_expect 36 = .ok (.getfield 25, 3) := by decide +kernel
theorem dX4_expect_39 : decode cX4_expect 39 = .ok (.iconst 1, 1) := by decide +kernel
theorem dX4_expect_40 : decode cX4_expect 40 = .ok (.iadd, 1) := by decide +kernel
theorem dX4_expect_41 : decode cX4_expect 41 = .ok (.putfield 25, 3) := by decide +kernel
theorem dX4_expect_44 : decode cX4_expect 44 = .ok (.return_, 1) := by decide +kernel
theorem dX4_fail_0 : decode cX4_fail 0 = .ok (.aload_n 0, 1) := by decide +kernel
theorem dX4_fail_1 : decode cX4_fail 1 = .ok (.getfield 32, 3) := by decide +kernel
theorem dX4_fail_4 : decode cX4_fail 4 = .ok (.ifCond .ne 24, 3) := by decide +kernel
theorem dX4_fail_7 : decode cX4_fail 7 = .ok (.aload_n 0, 1) := by decide +kernel
theorem dX4_fail_8 : decode cX4_fail 8 = .ok (.iload_n 1, 1) := by decide +kernel
theorem dX4_fail_9 : decode cX4_fail 9 = .ok (.putfield 32, 3) := by decide +kernel
theorem dX4_fail_12 : decode cX4_fail 12 = .ok (.aload_n 0, 1) := by decide +kernel
theorem dX4_fail_13 : decode cX4_fail 13 = .ok (.aload_n 0, 1) := by decide +kernel
theorem dX4_fail_14 : decode cX4_fail 14 = .ok (.getfield 12, 3) := by decide +kernel
theorem dX4_fail_17 : decode cX4_fail 17 = .ok (.getfield 135, 3) := by decide +kernel
theorem dX4_fail_20 : decode cX4_fail 20 = .ok (.aload_n 0, 1) := by decide +kernel
theorem dX4_fail_21 : decode cX4_fail 21 = .ok (.getfield 25, 3) := by decide +kernel
theorem dX4_fail_24 : decode cX4_fail 24 = .ok (.iaload, 1) := by decide +kernel
theorem dX4_fail_25 : decode cX4_fail 25 = .ok (.putfield 41, 3) := by decide +kernel
theorem dX4_fail_28 : decode cX4_fail 28 = .ok (.return_, 1) := by decide +kernel
theorem dX4_failLate_0 : decode cX4_failLate 0 = .ok (.aload_n 0, 1) := by decide +kernel
theorem dX4_failLate_1 : decode cX4_failLate 1 = .ok (.getfield 35, 3) := by decide +kernel
theorem dX4_failLate_4 : decode cX4_failLate 4 = .ok (.ifCond .ne 24, 3) := by decide +kernel
theorem dX4_failLate_7 : decode cX4_failLate 7 = .ok (.aload_n 0, 1) := by decide +kernel
theorem dX4_failLate_8 : decode cX4_failLate 8 = .ok (.iload_n 1, 1) := by decide +kernel
theorem dX4_failLate_9 : decode cX4_failLate 9 = .ok (.putfield 35, 3) := by decide +kernel
theorem dX4_failLate_12 : decode cX4_failLate 12 = .ok (.aload_n 0, 1) := by decide +kernel
theorem dX4_failLate_13 : decode cX4_failLate 13 = .ok (.aload_n 0, 1) := by decide +kernel
theorem dX4_failLate_14 : decode cX4_failLate 14 = .ok (.getfield 12, 3) := by decide +kernel
theorem dX4_failLate_17 : decode cX4_failLate 17 = .ok (.getfield 135, 3) := by decide +kernel
theorem dX4_failLate_20 : decode cX4_failLate 20 = .ok (.aload_n 0, 1) := by decide +kernel
theorem dX4_failLate_21 : decode cX4_failLate 21 = .ok (.getfield 25, 3) := by decide +kernel
theorem dX4_failLate_24 : decode cX4_failLate 24 = .ok (.iaload, 1) := by decide +kernel
theorem dX4_failLate_25 : decode cX4_failLate 25 = .ok (.putfield 38, 3) := by decide +kernel
theorem dX4_failLate_28 : decode cX4_failLate 28 = .ok (.return_, 1) := by decide +kernel
theorem dX5_init_0 : decode cX5_init 0 = .ok (.aload_n 0, 1) := by decide +kernel
theorem dX5_init_1 : decode cX5_init 1 = .ok (.invokespecial 3, 3) := by decide +kernel
theorem dX5_init_4 : decode cX5_init 4 = .ok (.aload_n 0, 1) := by decide +kernel
theorem dX5_init_5 : decode cX5_init 5 = .ok (.sipush 144, 3) := by decide +kernel
theorem dX5_init_8 : decode cX5_init 8 = .ok (.newarray .int, 2) := by decide +kernel
theorem dX5_init_10 : decode cX5_init 10 = .ok (.putfield 9, 3) := by decide +kernel
theorem dX5_init_13 : decode cX5_init 13 = .ok (.aload_n 0, 1) := by decide +kernel
theorem dX5_init_14 : decode cX5_init 14 = .ok (.bipush 12, 2) := by decide +kernel
theorem dX5_init_16 : decode cX5_init 16 = .ok (.newarray .boolean, 2) := by decide +kernel
theorem dX5_init_18 : decode cX5_init 18 = .ok (.putfield 15, 3) := by decide +kernel
theorem dX5_init_21 : decode cX5_init 21 = .ok (.aload_n 0, 1) := by decide +kernel
theorem dX5_init_22 : decode cX5_init 22 = .ok (.bipush 12, 2) := by decide +kernel
theorem dX5_init_24 : decode cX5_init 24 = .ok (.newarray .boolean, 2) := by decide +kernel
theorem dX5_init_26 : decode cX5_init 26 = .ok (.putfield 19, 3) := by decide +kernel
theorem dX5_init_29 : decode cX5_init 29 = .ok (.aload_n 0, 1) := by decide +kernel
theorem dX5_init_30 : decode cX5_init 30 = .ok (.bipush 12, 2) := by decide +kernel
theorem dX5_init_32 : decode cX5_init 32 = .ok (.newarray .int, 2) := by decide +kernel
theorem dX5_init_34 : decode cX5_init 34 = .ok (.putfield 22, 3) := by decide +kernel
theorem dX5_init_37 : decode cX5_init 37 = .ok (.aload_n 0, 1) := by decide +kernel
theorem dX5_init_38 : decode cX5_init 38 = .ok (.iconst 0, 1) := by decide +kernel
theorem dX5_init_39 : decode cX5_init 39 = .ok (.putfield 25, 3) := by decide +kernel
theorem dX5_init_42 : decode cX5_init 42 = .ok (.aload_n 0, 1) := by decide +kernel
theorem dX5_init_43 : decode cX5_init 43 = .ok (.bipush 12, 2) := by decide +kernel
theorem dX5_init_45 : decode cX5_init 45 = .ok (.newarray .boolean, 2) := by decide +kernel
theorem dX5_init_47 : decode cX5_init 47 = .ok (.putfield 29, 3) := by decide +kernel
theorem dX5_init_50 : decode cX5_init 50 = .ok (.aload_n 0, 1) := by decide +kernel
theorem dX5_init_51 : decode cX5_init 51 = .ok (.bipush 12, 2) := by decide +kernel
theorem dX5_init_53 : decode cX5_init 53 = .ok (.newarray .int, 2) := by decide +kernel
theorem dX5_init_55 : decode cX5_init 55 = .ok (.putfield 32, 3) := by decide +kernel
theorem dX5_init_58 : decode cX5_init 58 = .ok (.aload_n 0, 1) := by decide +kernel
theorem dX5_init_59 : decode cX5_init 59 = .ok (.new 35, 3) := by decide +kernel
theorem dX5_init_62 : decode cX5_init 62 = .ok (.dup, 1) := by decide +kernel
theorem dX5_init_63 : decode cX5_init 63 = .ok (.invokespecial 37, 3) := by decide +kernel
theorem dX5_init_66 : decode cX5_init 66 = .ok (.putfield 38, 3) := by decide +kernel
theorem dX5_init_69 : decode cX5_init 69 = .ok (.return_, 1) := by decide +kernel
theorem dX5_forget_0 : decode cX5_forget 0 = .ok (.iconst 0, 1) := by decide +kernel
theorem dX5_forget_1 : decode cX5_forget 1 = .ok (.istore_n 1, 1) := by decide +kernel
theorem dX5_forget_2 : decode cX5_forget 2 = .ok (.iload_n 1, 1) := by decide +kernel
theorem dX5_forget_3 : decode cX5_forget 3 = .ok (.bipush 12, 2) := by decide +kernel
theorem dX5_forget_5 : decode cX5_forget 5 = .ok (.if_icmp .ge 23, 3) := by decide +kernel
theorem dX5_forget_8 : decode cX5_forget 8 = .ok (.aload_n 0, 1) := by decide +kernel
theorem dX5_forget_9 : decode cX5_forget 9 = .ok (.getfield 29, 3) := by decide +kernel
theorem dX5_forget_12 : decode cX5_forget 12 = .ok (.iload_n 1, 1) := by decide +kernel
theorem dX5_forget_13 : decode cX5_forget 13 = .ok (.iconst 0, 1) := by decide +kernel
theorem dX5_forget_14 : decode cX5_forget 14 = .ok (.bastore, 1) := by decide +kernel
theorem dX5_forget_15 : decode cX5_forget 15 = .ok (.aload_n 0, 1) := by decide +kernel
theorem dX5_forget_16 : decode cX5_forget 16 = .ok (.getfield 32, 3) := by decide +kernel
theorem dX5_forget_19 : decode cX5_forget 19 = .ok (.iload_n 1, 1) := by decide +kernel
theorem dX5_forget_20 : decode cX5_forget 20 = .ok (.iconst (-1), 1) := by decide +kernel
theorem dX5_forget_21 : decode cX5_forget 21 = .ok (.iastore, 1) := by decide +kernel
theorem dX5_forget_22 : decode cX5_forget 22 = .ok (.iinc 1 1, 3) := by decide +kernel
theorem dX5_forget_25 : decode cX5_forget 25 = .ok (.goto (-23), 3) := by decide +kernel
theorem dX5_forget_28 : decode cX5_forget 28 = .ok (.return_, 1) := by decide +kernel
theorem dX5_remember_0 : decode cX5_remember 0 = .ok (.iconst 0, 1) := by decide +kernel
theorem dX5_remember_1 : decode cX5_remember 1 = .ok (.istore_n 2, 1) := by decide +kernel
theorem dX5_remember_2 : decode cX5_remember 2 = .ok (.iload_n 2, 1) := by decide +kernel
theorem dX5_remember_3 : decode cX5_remember 3 = .ok (.bipush 12, 2) := by decide +kernel
theorem dX5_remember_5 : decode cX5_remember 5 = .ok (.if_icmp .ge 33, 3) := by decide +kernel
theorem dX5_remember_8 : decode cX5_remember 8 = .ok (.aload_n 0, 1) := by decide +kernel
theorem dX5_remember_9 : decode cX5_remember 9 = .ok (.getfield 29, 3) := by decide +kernel
theorem dX5_remember_12 : decode cX5_remember 12 = .ok (.iload_n 2, 1) := by decide +kernel
theorem dX5_remember_13 : decode cX5_remember 13 = .ok (.aload_n 1, 1) := by decide +kernel
theorem dX5_remember_14 : decode cX5_remember 14 = .ok (.getfield 42, 3) := by decide +kernel
theorem dX5_remember_17 : decode cX5_remember 17 = .ok (.iload_n 2, 1) := by decide +kernel
theorem dX5_remember_18 : decode cX5_remember 18 = .ok (.baload, 1) := by decide +kernel
theorem dX5_remember_19 : decode cX5_remember 19 = .ok (.bastore, 1) := by decide +kernel
theorem dX5_remember_20 : decode cX5_remember 20 = .ok (.aload_n 0, 1) := by decide +kernel
theorem dX5_remember_21 : decode cX5_remember 21 = .ok (.getfield 32, 3) := by decide +kernel
theorem dX5_remember_24 : decode cX5_remember 24 = .ok (.iload_n 2, 1) := by decide +kernel
theorem dX5_remember_25 : decode cX5_remember 25 = .ok (.aload_n 1, 1) := by decide +kernel
theorem dX5_remember_26 : decode cX5_remember 26 = .ok (.getfield 45, 3) := by decide +kernel
theorem dX5_remember_29 : decode cX5_remember 29 = .ok (.iload_n 2, 1) := by decide +kernel
theorem dX5_remember_30 : decode cX5_remember 30 = .ok (.iaload, 1) := by decide +kernel
theorem dX5_remember_31 : decode cX5_remember 31 = .ok (.iastore, 1) := by decide +kernel
theorem dX5_remember_32 : decode cX5_remember 32 = .ok (.iinc 2 1, 3) := by decide +kernel
theorem dX5_remember_35 : decode cX5_remember 35 = .ok (.goto (-33), 3) := by decide +kernel
theorem dX5_remember_38 : decode cX5_remember 38 = .ok (.return_, 1) := by decide +kernel
theorem dX5_decide_0 : decode cX5_decide 0 = .ok (.aload_n 0, 1) := by decide +kernel
theorem dX5_decide_1 : decode cX5_decide 1 = .ok (.invokevirtual 46, 3) := by decide +kernel
theorem dX5_decide_4 : decode cX5_decide 4 = .ok (.aload_n 0, 1) := by decide +kernel
theorem dX5_decide_5 : decode cX5_decide 5 = .ok (.getfield 38, 3) := by decide +kernel
theorem dX5_decide_8 : decode cX5_decide 8 = .ok (.aload_n 0, 1) := by decide +kernel
theorem dX5_decide_9 : decode cX5_decide 9 = .ok (.getfield 25, 3) := by decide +kernel
theorem dX5_decide_12 : decode cX5_decide 12 = .ok (.invokevirtual 49, 3) := by decide +kernel
theorem dX5_decide_15 : decode cX5_decide 15 = .ok (.aload_n 0, 1) := by decide +kernel
theorem dX5_decide_16 : decode cX5_decide 16 = .ok (.invokevirtual 53, 3) := by decide +kernel
theorem dX5_decide_19 : decode cX5_decide 19 = .ok (.aload_n 0, 1) := by decide +kernel
theorem dX5_decide_20 : decode cX5_decide 20 = .ok (.getfield 38, 3) := by decide +kernel
theorem dX5_decide_23 : decode cX5_decide 23 = .ok (.aload_n 0, 1) := by decide +kernel
theorem dX5_decide_24 : decode cX5_decide 24 = .ok (.getfield 25, 3) := by decide +kernel
theorem dX5_decide_27 : decode cX5_decide 27 = .ok (.invokevirtual 49, 3) := by decide +kernel
theorem dX5_decide_30 : decode cX5_decide 30 = .ok (.iconst 0, 1) := by decide +kernel
theorem dX5_decide_31 : decode cX5_decide 31 = .ok (.istore_n 1, 1) := by decide +kernel
theorem dX5_decide_32 : decode cX5_decide 32 = .ok (.iload_n 1, 1) := by decide +kernel
theorem dX5_decide_33 : decode cX5_decide 33 = .ok (.bipush 12, 2) := by decide +kernel
theorem dX5_decide_35 : decode cX5_decide 35 = .ok (.if_icmp .ge 16, 3) := by decide +kernel
theorem dX5_decide_38 : decode cX5_decide 38 = .ok (.aload_n 0, 1) := by decide +kernel
theorem dX5_decide_39 : decode cX5_decide 39 = .ok (.getfield 22, 3) := by decide +kernel
theorem dX5_decide_42 : decode cX5_decide 42 = .ok (.iload_n 1, 1) := by decide +kernel
theorem dX5_decide_43 : decode cX5_decide 43 = .ok (.iconst (-1), 1) := by decide +kernel
theorem dX5_decide_44 : decode cX5_decide 44 = .ok (.iastore, 1) := by decide +kernel
theorem dX5_decide_45 : decode cX5_decide 45 = .ok (.iinc 1 1, 3) := by decide +kernel
theorem dX5_decide_48 : decode cX5_decide 48 = .ok (.goto (-16), 3) := by decide +kernel
theorem dX5_decide_51 : decode cX5_decide 51 = .ok (.iconst 0, 1) := by decide +kernel
theorem dX5_decide_52 : decode cX5_decide 52 = .ok (.istore_n 1, 1) := by decide +kernel
theorem dX5_decide_53 : decode cX5_decide 53 = .ok (.iload_n 1, 1) := by decide +kernel
theorem dX5_decide_54 : decode cX5_decide 54 = .ok (.aload_n 0, 1) := by decide +kernel
theorem dX5_decide_55 : decode cX5_decide 55 = .ok (.getfield 25, 3) := by decide +kernel
theorem dX5_decide_58 : decode cX5_decide 58 = .ok (.if_icmp .ge 51, 3) := by decide +kernel
theorem dX5_decide_61 : decode cX5_decide 61 = .ok (.iload_n 1, 1) := by decide +kernel
theorem dX5_decide_62 : decode cX5_decide 62 = .ok (.bipush 12, 2) := by decide +kernel
theorem dX5_decide_64 : decode cX5_decide 64 = .ok (.if_icmp .ge 45, 3) := by decide +kernel
theorem dX5_decide_67 : decode cX5_decide 67 = .ok (.aload_n 0, 1) := by decide +kernel
theorem dX5_decide_68 : decode cX5_decide 68 = .ok (.getfield 38, 3) := by decide +kernel
theorem dX5_decide_71 : decode cX5_decide 71 = .ok (.getfield 56, 3) := by decide +kernel
theorem dX5_decide_74 : decode cX5_decide 74 = .ok (.iload_n 1, 1) := by decide +kernel
theorem dX5_decide_75 : decode cX5_decide 75 = .ok (.iaload, 1) := by decide +kernel
theorem dX5_decide_76 : decode cX5_decide 76 = .ok (.istore_n 2, 1) := by decide +kernel
theorem dX5_decide_77 : decode cX5_decide 77 = .ok (.iload_n 2, 1) := by decide +kernel
theorem dX5_decide_78 : decode cX5_decide 78 = .ok (.ifCond .lt 25, 3) := by decide +kernel
theorem dX5_decide_81 : decode cX5_decide 81 = .ok (.iload_n 2, 1) := by decide +kernel
theorem dX5_decide_82 : decode cX5_decide 82 = .ok (.bipush 12, 2) := by decide +kernel
theorem dX5_decide_84 : decode cX5_decide 84 = .ok (.if_icmp .ge 19, 3) := by decide +kernel
theorem dX5_decide_87 : decode cX5_decide 87 = .ok (.aload_n 0, 1) := by decide +kernel
theorem dX5_decide_88 : decode cX5_decide 88 = .ok (.iload_n 2, 1) := by decide +kernel
theorem dX5_decide_89 : decode cX5_decide 89 = .ok (.iload_n 1, 1) := by decide +kernel
theorem dX5_decide_90 : decode cX5_decide 90 = .ok (.invokevirtual 59, 3) := by decide +kernel
theorem dX5_decide_93 : decode cX5_decide 93 = .ok (.ifCond .eq 10, 3) := by decide +kernel
theorem dX5_decide_96 : decode cX5_decide 96 = .ok (.aload_n 0, 1) := by decide +kernel
theorem dX5_decide_97 : decode cX5_decide 97 = .ok (.getfield 22, 3) := by decide +kernel
theorem dX5_decide_100 : decode cX5_decide 100 = .ok (.iload_n 2, 1) := by decide +kernel
theorem dX5_decide_101 : decode cX5_decide 101 = .ok (.iload_n 1, 1) := by decide +kernel
theorem dX5_decide_102 : decode cX5_decide 102 = .ok (.iastore, 1) := by decide +kernel
theorem dX5_decide_103 : decode cX5_decide 103 = .ok (.iinc 1 1, 3) := by decide +kernel
theorem dX5_decide_106 : decode cX5_decide 106 = .ok (.goto (-53), 3) := by decide +kernel
theorem dX5_decide_109 : decode cX5_decide 109 = .ok (.return_, 1) := by decide +kernel
theorem dX5_costTogether_0 : decode cX5_costTogether 0 = .ok (.iconst 0, 1) := by decide +kernel
theorem dX5_costTogether_1 : decode cX5_costTogether 1 = .ok (.istore_n 1, 1) := by decide +kernel
theorem dX5_costTogether_2 : decode cX5_costTogether 2 = .ok (.iconst 0, 1) := by decide +kernel
theorem dX5_costTogether_3 : decode cX5_costTogether 3 = .ok (.istore_n 2, 1) := by decide +kernel
theorem dX5_costTogether_4 : decode cX5_costTogether 4 = .ok (.iload_n 2, 1) := by decide +kernel
theorem dX5_costTogether_5 : decode cX5_costTogether 5 = .ok (.bipush 12, 2) := by decide +kernel
theorem dX5_costTogether_7 : decode cX5_costTogether 7 = .ok (.if_icmp .ge 59, 3) := by decide +kernel
theorem dX5_costTogether_10 : decode cX5_costTogether 10 = .ok (.iload_n 2, 1) := by decide +kernel
theorem dX5_costTogether_11 : decode cX5_costTogether 11 = .ok (.bipush 12, 2) := by decide +kernel
theorem dX5_costTogether_13 : decode cX5_costTogether 13 = .ok (.imul, 1) := by decide +kernel
theorem dX5_costTogether_14 : decode cX5_costTogether 14 = .ok (.aload_n 0, 1) := by decide +kernel
theorem dX5_costTogether_15 : decode cX5_costTogether 15 = .ok (.getfield 22, 3) := by decide +kernel
theorem dX5_costTogether_18 : decode cX5_costTogether 18 = .ok (.iload_n 2, 1) := by decide +kernel
theorem dX5_costTogether_19 : decode cX5_costTogether 19 = .ok (.iaload, 1) := by decide +kernel
theorem dX5_costTogether_20 : decode cX5_costTogether 20 = .ok (.iadd, 1) := by decide +kernel
theorem dX5_costTogether_21 : decode cX5_costTogether 21 = .ok (.istore_n 3, 1) := by decide +kernel
theorem dX5_costTogether_22 : decode cX5_costTogether 22 = .ok (.aload_n 0, 1) := by decide +kernel
theorem dX5_costTogether_23 : decode cX5_costTogether 23 = .ok (.getfield 22, 3) := by decide +kernel
theorem dX5_costTogether_26 : decode cX5_costTogether 26 = .ok (.iload_n 2, 1) := by decide +kernel
theorem dX5_costTogether_27 : decode cX5_costTogether 27 = .ok (.iaload, 1) := by decide +kernel
theorem dX5_costTogether_28 : decode cX5_costTogether 28 = .ok (.ifCond .lt 32, 3) := by decide +kernel
theorem dX5_costTogether_31 : decode cX5_costTogether 31 = .ok (.aload_n 0, 1) := by decide +kernel
theorem dX5_costTogether_32 : decode cX5_costTogether 32 = .ok (.getfield 22, 3) := by decide +kernel
theorem dX5_costTogether_35 : decode cX5_costTogether 35 = .ok (.iload_n 2, 1) := by decide +kernel
theorem dX5_costTogether_36 : decode cX5_costTogether 36 = .ok (.iaload, 1) := by decide +kernel
theorem dX5_costTogether_37 : decode cX5_costTogether 37 = .ok (.bipush 12, 2) := by decide +kernel
theorem dX5_costTogether_39 : decode cX5_costTogether 39 = .ok (.if_icmp .ge 21, 3) := by decide +kernel
theorem dX5_costTogether_42 : decode cX5_costTogether 42 = .ok (.iload_n 3, 1) := by decide +kernel
theorem dX5_costTogether_43 : decode cX5_costTogether 43 = .ok (.aload_n 0, 1) := by decide +kernel
theorem dX5_costTogether_44 : decode cX5_costTogether 44 = .ok (.getfield 9, 3) := by decide +kernel
theorem dX5_costTogether_47 : decode cX5_costTogether 47 = .ok (.arraylength, 1) := by decide +kernel
theorem dX5_costTogether_48 : decode cX5_costTogether 48 = .ok (.if_icmp .ge 12, 3) := by decide +kernel
theorem dX5_costTogether_51 : decode cX5_costTogether 51 = .ok (.iload_n 1, 1) := by decide +kernel
theorem dX5_costTogether_52 : decode cX5_costTogether 52 = .ok (.aload_n 0, 1) := by decide +kernel
theorem dX5_costTogether_53 : decode cX5_costTogether 53 = .ok (.getfield 9, 3) := by decide +kernel
theorem dX5_costTogether_56 : decode cX5_costTogether 56 = .ok (.iload_n 3, 1) := by decide +kernel
theorem dX5_costTogether_57 : decode cX5_costTogether 57 = .ok (.iaload, 1) := by decide +kernel
theorem dX5_costTogether_58 : decode cX5_costTogether 58 = .ok (.iadd, 1) := by decide +kernel
theorem dX5_costTogether_59 : decode cX5_costTogether 59 = .ok (.istore_n 1, 1) := by decide +kernel
theorem dX5_costTogether_60 : decode cX5_costTogether 60 = .ok (.iinc 2 1, 3) := by decide +kernel
theorem dX5_costTogether_63 : decode cX5_costTogether 63 = .ok (.goto (-59), 3) := by decide +kernel
theorem dX5_costTogether_66 : decode cX5_costTogether 66 = .ok (.iload_n 1, 1) := by decide +kernel
theorem dX5_costTogether_67 : decode cX5_costTogether 67 = .ok (.ireturn, 1) := by decide +kernel
theorem dX5_allows_0 : decode cX5_allows 0 = .ok (.iconst 0, 1) := by decide +kernel
theorem dX5_allows_1 : decode cX5_allows 1 = .ok (.istore_n 2, 1) := by decide +kernel
theorem dX5_allows_2 : decode cX5_allows 2 = .ok (.iload_n 2, 1) := by decide +kernel
theorem dX5_allows_3 : decode cX5_allows 3 = .ok (.aload_n 0, 1) := by decide +kernel
theorem dX5_allows_4 : decode cX5_allows 4 = .ok (.getfield 25, 3) := by decide +kernel
theorem dX5_allows_7 : decode cX5_allows 7 = .ok (.if_icmp .ge 105, 3) := by decide +kernel
theorem dX5_allows_10 : decode cX5_allows 10 = .ok (.iload_n 2, 1) := by decide +kernel
theorem dX5_allows_11 : decode cX5_allows 11 = .ok (.bipush 12, 2) := by decide +kernel
theorem dX5_allows_13 : decode cX5_allows 13 = .ok (.if_icmp .ge 99, 3) := by decide +kernel
theorem dX5_allows_16 : decode cX5_allows 16 = .ok (.iload_n 2, 1) := by decide +kernel
theorem dX5_allows_17 : decode cX5_allows 17 = .ok (.aload_n 1, 1) := by decide +kernel
theorem dX5_allows_18 : decode cX5_allows 18 = .ok (.arraylength, 1) := by decide +kernel
theorem dX5_allows_19 : decode cX5_allows 19 = .ok (.if_icmp .ge 93, 3) := by decide +kernel
theorem dX5_allows_22 : decode cX5_allows 22 = .ok (.aload_n 1, 1) := by decide +kernel
theorem dX5_allows_23 : decode cX5_allows 23 = .ok (.iload_n 2, 1) := by decide +kernel
theorem dX5_allows_24 : decode cX5_allows 24 = .ok (.iaload, 1) := by decide +kernel
theorem dX5_allows_25 : decode cX5_allows 25 = .ok (.iconst (-1), 1) := by decide +kernel
theorem dX5_allows_26 : decode cX5_allows 26 = .ok (.if_icmp .eq 7, 3) := by decide +kernel
theorem dX5_allows_29 : decode cX5_allows 29 = .ok (.iconst 1, 1) := by decide +kernel
theorem dX5_allows_30 : decode cX5_allows 30 = .ok (.goto 4, 3) := by decide +kernel
theorem dX5_allows_33 : decode cX5_allows 33 = .ok (.iconst 0, 1) := by decide +kernel
theorem dX5_allows_34 : decode cX5_allows 34 = .ok (.istore_n 3, 1) := by decide +kernel
theorem dX5_allows_35 : decode cX5_allows 35 = .ok (.aload_n 1, 1) := by decide +kernel
theorem dX5_allows_36 : decode cX5_allows 36 = .ok (.iload_n 2, 1) := by decide +kernel
theorem dX5_allows_37 : decode cX5_allows 37 = .ok (.invokestatic 63, 3) := by decide +kernel
theorem dX5_allows_40 : decode cX5_allows 40 = .ok (.iconst (-1), 1) := by decide +kernel
theorem dX5_allows_41 : decode cX5_allows 41 = .ok (.if_icmp .eq 7, 3) := by decide +kernel
theorem dX5_allows_44 : decode cX5_allows 44 = .ok (.iconst 1, 1) := by decide +kernel
theorem dX5_allows_45 : decode cX5_allows 45 = .ok (.goto 4, 3) := by decide +kernel
theorem dX5_allows_48 : decode cX5_allows 48 = .ok (.iconst 0, 1) := by decide +kernel
theorem dX5_allows_49 : decode cX5_allows 49 = .ok (.istore 4, 2) := by decide +kernel
theorem dX5_allows_51 : decode cX5_allows 51 = .ok (.iload_n 3, 1) := by decide +kernel
theorem dX5_allows_52 : decode cX5_allows 52 = .ok (.ifCond .eq 16, 3) := by decide +kernel
theorem dX5_allows_55 : decode cX5_allows 55 = .ok (.aload_n 0, 1) := by decide +kernel
theorem dX5_allows_56 : decode cX5_allows 56 = .ok (.iload_n 2, 1) := by decide +kernel
theorem dX5_allows_57 : decode cX5_allows 57 = .ok (.aload_n 1, 1) := by decide +kernel
theorem dX5_allows_58 : decode cX5_allows 58 = .ok (.iload_n 2, 1) := by decide +kernel
theorem dX5_allows_59 : decode cX5_allows 59 = .ok (.iaload, 1) := by decide +kernel
theorem dX5_allows_60 : decode cX5_allows 60 = .ok (.invokevirtual 67, 3) := by decide +kernel
theorem dX5_allows_63 : decode cX5_allows 63 = .ok (.ifCond .ne 5, 3) := by decide +kernel
theorem dX5_allows_66 : decode cX5_allows 66 = .ok (.iconst 0, 1) := by decide +kernel
theorem dX5_allows_67 : decode cX5_allows 67 = .ok (.ireturn, 1) := by decide +kernel
theorem dX5_allows_68 : decode cX5_allows 68 = .ok (.iload_n 3, 1) := by decide +kernel
theorem dX5_allows_69 : decode cX5_allows 69 = .ok (.ifCond .eq 17, 3) := by decide +kernel
theorem dX5_allows_72 : decode cX5_allows 72 = .ok (.iload 4, 2) := by decide +kernel
theorem dX5_allows_74 : decode cX5_allows 74 = .ok (.ifCond .ne 12, 3) := by decide +kernel
theorem dX5_allows_77 : decode cX5_allows 77 = .ok (.aload_n 0, 1) := by decide +kernel
theorem dX5_allows_78 : decode cX5_allows 78 = .ok (.getfield 15, 3) := by decide +kernel
theorem dX5_allows_81 : decode cX5_allows 81 = .ok (.iload_n 2, 1) := by decide +kernel
theorem dX5_allows_82 : decode cX5_allows 82 = .ok (.baload, 1) := by decide +kernel
theorem dX5_allows_83 : decode cX5_allows 83 = .ok (.ifCond .eq 21, 3) := by decide +kernel
theorem dX5_allows_86 : decode cX5_allows 86 = .ok (.iload 4, 2) := by decide +kernel
theorem dX5_allows_88 : decode cX5_allows 88 = .ok (.ifCond .eq 18, 3) := by decide +kernel
theorem dX5_allows_91 : decode cX5_allows 91 = .ok (.iload_n 3, 1) := by decide +kernel
theorem dX5_allows_92 : decode cX5_allows 92 = .ok (.ifCond .ne 14, 3) := by decide +kernel
theorem dX5_allows_95 : decode cX5_allows 95 = .ok (.aload_n 0, 1) := by decide +kernel
theorem dX5_allows_96 : decode cX5_allows 96 = .ok (.getfield 19, 3) := by decide +kernel
theorem dX5_allows_99 : decode cX5_allows 99 = .ok (.iload_n 2, 1) := by decide +kernel
theorem dX5_allows_100 : decode cX5_allows 100 = .ok (.baload, 1) := by decide +kernel
theorem dX5_allows_101 : decode cX5_allows 101 = .ok (.ifCond .ne 5, 3) := by decide +kernel
theorem dX5_allows_104 : decode cX5_allows 104 = .ok (.iconst 0, 1) := by decide +kernel
theorem dX5_allows_105 : decode cX5_allows 105 = .ok (.ireturn, 1) := by decide +kernel
theorem dX5_allows_106 : decode cX5_allows 106 = .ok (.iinc 2 1, 3) := by decide +kernel
theorem dX5_allows_109 : decode cX5_allows 109 = .ok (.goto (-107), 3) := by decide +kernel
theorem dX5_allows_112 : decode cX5_allows 112 = .ok (.iconst 1, 1) := by decide +kernel
theorem dX5_allows_113 : decode cX5_allows 113 = .ok (.ireturn, 1) := by decide +kernel
theorem dX5_mayBe_0 : decode cX5_mayBe 0 = .ok (.iload_n 1, 1) := by decide +kernel
theorem dX5_mayBe_1 : decode cX5_mayBe 1 = .ok (.bipush 12, 2) := by decide +kernel
theorem dX5_mayBe_3 : decode cX5_mayBe 3 = .ok (.imul, 1) := by decide +kernel
theorem dX5_mayBe_4 : decode cX5_mayBe 4 = .ok (.iload_n 2, 1) := by decide +kernel
theorem dX5_mayBe_5 : decode cX5_mayBe 5 = .ok (.iadd, 1) := by decide +kernel
theorem dX5_mayBe_6 : decode cX5_mayBe 6 = .ok (.istore_n 3, 1) := by decide +kernel
theorem dX5_mayBe_7 : decode cX5_mayBe 7 = .ok (.iload_n 2, 1) := by decide +kernel
theorem dX5_mayBe_8 : decode cX5_mayBe 8 = .ok (.ifCond .lt 38, 3) := by decide +kernel
theorem dX5_mayBe_11 : decode cX5_mayBe 11 = .ok (.iload_n 2, 1) := by decide +kernel
theorem dX5_mayBe_12 : decode cX5_mayBe 12 = .ok (.aload_n 0, 1) := by decide +kernel
theorem dX5_mayBe_13 : decode cX5_mayBe 13 = .ok (.getfield 25, 3) := by decide +kernel
theorem dX5_mayBe_16 : decode cX5_mayBe 16 = .ok (.if_icmp .ge 30, 3) := by decide +kernel
theorem dX5_mayBe_19 : decode cX5_mayBe 19 = .ok (.iload_n 3, 1) := by decide +kernel
theorem dX5_mayBe_20 : decode cX5_mayBe 20 = .ok (.ifCond .lt 26, 3) := by decide +kernel
theorem dX5_mayBe_23 : decode cX5_mayBe 23 = .ok (.iload_n 3, 1) := by decide +kernel
theorem dX5_mayBe_24 : decode cX5_mayBe 24 = .ok (.aload_n 0, 1) := by decide +kernel
theorem dX5_mayBe_25 : decode cX5_mayBe 25 = .ok (.getfield 9, 3) := by decide +kernel
theorem dX5_mayBe_28 : decode cX5_mayBe 28 = .ok (.arraylength, 1) := by decide +kernel
theorem dX5_mayBe_29 : decode cX5_mayBe 29 = .ok (.if_icmp .ge 17, 3) := by decide +kernel
theorem dX5_mayBe_32 : decode cX5_mayBe 32 = .ok (.aload_n 0, 1) := by decide +kernel
theorem dX5_mayBe_33 : decode cX5_mayBe 33 = .ok (.getfield 9, 3) := by decide +kernel
theorem dX5_mayBe_36 : decode cX5_mayBe 36 = .ok (.iload_n 3, 1) := by decide +kernel
theorem dX5_mayBe_37 : decode cX5_mayBe 37 = .ok (.iaload, 1) := by decide +kernel
theorem dX5_mayBe_38 : decode cX5_mayBe 38 = .ok (.iconst (-1), 1) := by decide +kernel
theorem dX5_mayBe_39 : decode cX5_mayBe 39 = .ok (.if_icmp .eq 7, 3) := by decide +kernel
theorem dX5_mayBe_42 : decode cX5_mayBe 42 = .ok (.iconst 1, 1) := by decide +kernel
theorem dX5_mayBe_43 : decode cX5_mayBe 43 = .ok (.goto 4, 3) := by decide +kernel
theorem dX5_mayBe_46 : decode cX5_mayBe 46 = .ok (.iconst 0, 1) := by decide +kernel
theorem dX5_mayBe_47 : decode cX5_mayBe 47 = .ok (.ireturn, 1) := by decide +kernel
theorem dX5_mayGo_0 : decode cX5_mayGo 0 = .ok (.iload_n 1, 1) := by decide +kernel
theorem dX5_mayGo_1 : decode cX5_mayGo 1 = .ok (.ifCond .lt 31, 3) := by decide +kernel
theorem dX5_mayGo_4 : decode cX5_mayGo 4 = .ok (.iload_n 1, 1) := by decide +kernel
theorem dX5_mayGo_5 : decode cX5_mayGo 5 = .ok (.bipush 12, 2) := by decide +kernel
theorem dX5_mayGo_7 : decode cX5_mayGo 7 = .ok (.if_icmp .ge 25, 3) := by decide +kernel
theorem dX5_mayGo_10 : decode cX5_mayGo 10 = .ok (.aload_n 0, 1) := by decide +kernel
theorem dX5_mayGo_11 : decode cX5_mayGo 11 = .ok (.getfield 29, 3) := by decide +kernel
theorem dX5_mayGo_14 : decode cX5_mayGo 14 = .ok (.iload_n 1, 1) := by decide +kernel
theorem dX5_mayGo_15 : decode cX5_mayGo 15 = .ok (.baload, 1) := by decide +kernel
theorem dX5_mayGo_16 : decode cX5_mayGo 16 = .ok (.ifCond .ne 16, 3) := by decide +kernel
theorem dX5_mayGo_19 : decode cX5_mayGo 19 = .ok (.aload_n 0, 1) := by decide +kernel
theorem dX5_mayGo_20 : decode cX5_mayGo 20 = .ok (.iload_n 1, 1) := by decide +kernel
theorem dX5_mayGo_21 : decode cX5_mayGo 21 = .ok (.iload_n 2, 1) := by decide +kernel
theorem dX5_mayGo_22 : decode cX5_mayGo 22 = .ok (.invokevirtual 67, 3) := by decide +kernel
theorem dX5_mayGo_25 : decode cX5_mayGo 25 = .ok (.ifCond .eq 7, 3) := by decide +kernel
theorem dX5_mayGo_28 : decode cX5_mayGo 28 = .ok (.iconst 1, 1) := by decide +kernel
theorem dX5_mayGo_29 : decode cX5_mayGo 29 = .ok (.goto 4, 3) := by decide +kernel
theorem dX5_mayGo_32 : decode cX5_mayGo 32 = .ok (.iconst 0, 1) := by decide +kernel
theorem dX5_mayGo_33 : decode cX5_mayGo 33 = .ok (.ireturn, 1) := by decide +kernel
theorem dX5_weighPlaces_0 : decode cX5_weighPlaces 0 = .ok (.iconst 0, 1) := by decide +kernel
theorem dX5_weighPlaces_1 : decode cX5_weighPlaces 1 = .ok (.istore_n 1, 1) := by decide +kernel
theorem dX5_weighPlaces_2 : decode cX5_weighPlaces 2 = .ok (.iload_n 1, 1) := by decide +kernel
theorem dX5_weighPlaces_3 : decode cX5_weighPlaces 3 = .ok (.aload_n 0, 1) := by decide +kernel
theorem dX5_weighPlaces_4 : decode cX5_weighPlaces 4 = .ok (.getfield 25, 3) := by decide +kernel
theorem dX5_weighPlaces_7 : decode cX5_weighPlaces 7 = .ok (.if_icmp .ge 57, 3) := by decide +kernel
theorem dX5_weighPlaces_10 : decode cX5_weighPlaces 10 = .ok (.iload_n 1, 1) := by decide +kernel
theorem dX5_weighPlaces_11 : decode cX5_weighPlaces 11 = .ok (.bipush 12, 2) := by decide +kernel
theorem dX5_weighPlaces_13 : decode cX5_weighPlaces 13 = .ok (.if_icmp .ge 51, 3) := by decide +kernel
theorem dX5_weighPlaces_16 : decode cX5_weighPlaces 16 = .ok (.iconst 0, 1) := by decide +kernel
theorem dX5_weighPlaces_17 : decode cX5_weighPlaces 17 = .ok (.istore_n 2, 1) := by decide +kernel
theorem dX5_weighPlaces_18 : decode cX5_weighPlaces 18 = .ok (.iload_n 2, 1) := by decide +kernel
theorem dX5_weighPlaces_19 : decode cX5_weighPlaces 19 = .ok (.aload_n 0, 1) := by decide +kernel
theorem dX5_weighPlaces_20 : decode cX5_weighPlaces 20 = .ok (.getfield 25, 3) := by decide +kernel
theorem dX5_weighPlaces_23 : decode cX5_weighPlaces 23 = .ok (.if_icmp .ge 35, 3) := by decide +kernel
theorem dX5_weighPlaces_26 : decode cX5_weighPlaces 26 = .ok (.iload_n 2, 1) := by decide +kernel
theorem dX5_weighPlaces_27 : decode cX5_weighPlaces 27 = .ok (.bipush 12, 2) := by decide +kernel
theorem dX5_weighPlaces_29 : decode cX5_weighPlaces 29 = .ok (.if_icmp .ge 29, 3) := by decide +kernel
theorem dX5_weighPlaces_32 : decode cX5_weighPlaces 32 = .ok (.aload_n 0, 1) := by decide +kernel
theorem dX5_weighPlaces_33 : decode cX5_weighPlaces 33 = .ok (.getfield 38, 3) := by decide +kernel
theorem dX5_weighPlaces_36 : decode cX5_weighPlaces 36 = .ok (.getfield 70, 3) := by decide +kernel
theorem dX5_weighPlaces_39 : decode cX5_weighPlaces 39 = .ok (.iload_n 1, 1) := by decide +kernel
theorem dX5_weighPlaces_40 : decode cX5_weighPlaces 40 = .ok (.bipush 12, 2) := by decide +kernel
theorem dX5_weighPlaces_42 : decode cX5_weighPlaces 42 = .ok (.imul, 1) := by decide +kernel
theorem dX5_weighPlaces_43 : decode cX5_weighPlaces 43 = .ok (.iload_n 2, 1) := by decide +kernel
theorem dX5_weighPlaces_44 : decode cX5_weighPlaces 44 = .ok (.iadd, 1) := by decide +kernel
theorem dX5_weighPlaces_45 : decode cX5_weighPlaces 45 = .ok (.aload_n 0, 1) := by decide +kernel
theorem dX5_weighPlaces_46 : decode cX5_weighPlaces 46 = .ok (.iload_n 1, 1) := by decide +kernel
theorem dX5_weighPlaces_47 : decode cX5_weighPlaces 47 = .ok (.iload_n 2, 1) := by decide +kernel
theorem dX5_weighPlaces_48 : decode cX5_weighPlaces 48 = .ok (.invokevirtual 74, 3) := by decide +kernel
theorem dX5_weighPlaces_51 : decode cX5_weighPlaces 51 = .ok (.lastore, 1) := by decide +kernel
theorem dX5_weighPlaces_52 : decode cX5_weighPlaces 52 = .ok (.iinc 2 1, 3) := by decide +kernel
theorem dX5_weighPlaces_55 : decode cX5_weighPlaces 55 = .ok (.goto (-37), 3) := by decide +kernel
theorem dX5_weighPlaces_58 : decode cX5_weighPlaces 58 = .ok (.iinc 1 1, 3) := by decide +kernel
theorem dX5_weighPlaces_61 : decode cX5_weighPlaces 61 = .ok (.goto (-59), 3) := by decide +kernel
theorem dX5_weighPlaces_64 : decode cX5_weighPlaces 64 = .ok (.return_, 1) := by decide +kernel
theorem dX5_placeWeight_0 : decode cX5_placeWeight 0 = .ok (.aload_n 0, 1) := by decide +kernel
theorem dX5_placeWeight_1 : decode cX5_placeWeight 1 = .ok (.iload_n 1, 1) := by decide +kernel
theorem dX5_placeWeight_2 : decode cX5_placeWeight 2 = .ok (.iload_n 2, 1) := by decide +kernel
theorem dX5_placeWeight_3 : decode cX5_placeWeight 3 = .ok (.invokevirtual 59, 3) := by decide +kernel
theorem dX5_placeWeight_6 : decode cX5_placeWeight 6 = .ok (.ifCond .eq 58, 3) := by decide +kernel
theorem dX5_placeWeight_9 : decode cX5_placeWeight 9 = .ok (.aload_n 0, 1) := by decide +kernel
theorem dX5_placeWeight_10 : decode cX5_placeWeight 10 = .ok (.getfield 32, 3) := by decide +kernel
theorem dX5_placeWeight_13 : decode cX5_placeWeight 13 = .ok (.iload_n 1, 1) := by decide +kernel
theorem dX5_placeWeight_14 : decode cX5_placeWeight 14 = .ok (.iaload, 1) := by decide +kernel
theorem dX5_placeWeight_15 : decode cX5_placeWeight 15 = .ok (.iconst (-1), 1) := by decide +kernel
theorem dX5_placeWeight_16 : decode cX5_placeWeight 16 = .ok (.if_icmp .eq 17, 3) := by decide +kernel
theorem dX5_placeWeight_19 : decode cX5_placeWeight 19 = .ok (.aload_n 0, 1) := by decide +kernel
theorem dX5_placeWeight_20 : decode cX5_placeWeight 20 = .ok (.getfield 32, 3) := by decide +kernel
theorem dX5_placeWeight_23 : decode cX5_placeWeight 23 = .ok (.iload_n 1, 1) := by decide +kernel
theorem dX5_placeWeight_24 : decode cX5_placeWeight 24 = .ok (.iaload, 1) := by decide +kernel
theorem dX5_placeWeight_25 : decode cX5_placeWeight 25 = .ok (.iload_n 2, 1) := by decide +kernel
theorem dX5_placeWeight_26 : decode cX5_placeWeight 26 = .ok (.if_icmp .eq 7, 3) := by decide +kernel
theorem dX5_placeWeight_29 : decode cX5_placeWeight 29 = .ok (.iconst 1, 1) := by decide +kernel
theorem dX5_placeWeight_30 : decode cX5_placeWeight 30 = .ok (.goto 4, 3) := by decide +kernel
theorem dX5_placeWeight_33 : decode cX5_placeWeight 33 = .ok (.iconst 0, 1) := by decide +kernel
theorem dX5_placeWeight_34 : decode cX5_placeWeight 34 = .ok (.istore_n 3, 1) := by decide +kernel
theorem dX5_placeWeight_35 : decode cX5_placeWeight 35 = .ok (.aload_n 0, 1) := by decide +kernel
theorem dX5_placeWeight_36 : decode cX5_placeWeight 36 = .ok (.getfield 9, 3) := by decide +kernel
theorem dX5_placeWeight_39 : decode cX5_placeWeight 39 = .ok (.iload_n 1, 1) := by decide +kernel
theorem dX5_placeWeight_40 : decode cX5_placeWeight 40 = .ok (.bipush 12, 2) := by decide +kernel
theorem dX5_placeWeight_42 : decode cX5_placeWeight 42 = .ok (.imul, 1) := by decide +kernel
theorem dX5_placeWeight_43 : decode cX5_placeWeight 43 = .ok (.iload_n 2, 1) := by decide +kernel
theorem dX5_placeWeight_44 : decode cX5_placeWeight 44 = .ok (.iadd, 1) := by decide +kernel
theorem dX5_placeWeight_45 : decode cX5_placeWeight 45 = .ok (.iaload, 1) := by decide +kernel
theorem dX5_placeWeight_46 : decode cX5_placeWeight 46 = .ok (.i2l, 1) := by decide +kernel
theorem dX5_placeWeight_47 : decode cX5_placeWeight 47 = .ok (.ldc2_w 78, 3) := by decide +kernel
theorem dX5_placeWeight_50 : decode cX5_placeWeight 50 = .ok (.lsub, 1) := by decide +kernel
theorem dX5_placeWeight_51 : decode cX5_placeWeight 51 = .ok (.iload_n 3, 1) := by decide +kernel
theorem dX5_placeWeight_52 : decode cX5_placeWeight 52 = .ok (.ifCond .eq 9, 3) := by decide +kernel
theorem dX5_placeWeight_55 : decode cX5_placeWeight 55 = .ok (.ldc2_w 80, 3) := by decide +kernel
theorem dX5_placeWeight_58 : decode cX5_placeWeight 58 = .ok (.goto 4, 3) := by decide +kernel
theorem dX5_placeWeight_61 : decode cX5_placeWeight 61 = .ok (.lconst 0, 1) := by decide +kernel
theorem dX5_placeWeight_62 : decode cX5_placeWeight 62 = .ok (.ladd, 1) := by decide +kernel
theorem dX5_placeWeight_63 : decode cX5_placeWeight 63 = .ok (.lreturn, 1) := by decide +kernel
theorem dX5_placeWeight_64 : decode cX5_placeWeight 64 = .ok (.iload_n 1, 1) := by decide +kernel
theorem dX5_placeWeight_65 : decode cX5_placeWeight 65 = .ok (.iload_n 2, 1) := by decide +kernel
theorem dX5_placeWeight_66 : decode cX5_placeWeight 66 = .ok (.if_icmp .eq 21, 3) := by decide +kernel
theorem dX5_placeWeight_69 : decode cX5_placeWeight 69 = .ok (.aload_n 0, 1) := by decide +kernel
theorem dX5_placeWeight_70 : decode cX5_placeWeight 70 = .ok (.getfield 19, 3) := by decide +kernel
theorem dX5_placeWeight_73 : decode cX5_placeWeight 73 = .ok (.iload_n 1, 1) := by decide +kernel
theorem dX5_placeWeight_74 : decode cX5_placeWeight 74 = .ok (.baload, 1) := by decide +kernel
theorem dX5_placeWeight_75 : decode cX5_placeWeight 75 = .ok (.ifCond .eq 30, 3) := by decide +kernel
theorem dX5_placeWeight_78 : decode cX5_placeWeight 78 = .ok (.aload_n 0, 1) := by decide +kernel
theorem dX5_placeWeight_79 : decode cX5_placeWeight 79 = .ok (.getfield 15, 3) := by decide +kernel
theorem dX5_placeWeight_82 : decode cX5_placeWeight 82 = .ok (.iload_n 2, 1) := by decide +kernel
theorem dX5_placeWeight_83 : decode cX5_placeWeight 83 = .ok (.baload, 1) := by decide +kernel
theorem dX5_placeWeight_84 : decode cX5_placeWeight 84 = .ok (.ifCond .eq 21, 3) := by decide +kernel
theorem dX5_placeWeight_87 : decode cX5_placeWeight 87 = .ok (.aload_n 0, 1) := by decide +kernel
theorem dX5_placeWeight_88 : decode cX5_placeWeight 88 = .ok (.getfield 32, 3) := by decide +kernel
theorem dX5_placeWeight_91 : decode cX5_placeWeight 91 = .ok (.iload_n 1, 1) := by decide +kernel
theorem dX5_placeWeight_92 : decode cX5_placeWeight 92 = .ok (.iaload, 1) := by decide +kernel
theorem dX5_placeWeight_93 : decode cX5_placeWeight 93 = .ok (.iconst (-1), 1) := by decide +kernel
theorem dX5_placeWeight_94 : decode cX5_placeWeight 94 = .ok (.if_icmp .eq 9, 3) := by decide +kernel
theorem dX5_placeWeight_97 : decode cX5_placeWeight 97 = .ok (.ldc2_w 80, 3) := by decide +kernel
theorem dX5_placeWeight_100 : decode cX5_placeWeight 100 = .ok (.goto 4, 3) := by decide +kernel
theorem dX5_placeWeight_103 : decode cX5_placeWeight 103 = .ok (.lconst 0, 1) := by decide +kernel
theorem dX5_placeWeight_104 : decode cX5_placeWeight 104 = .ok (.lreturn, 1) := by decide +kernel
theorem dX5_placeWeight_105 : decode cX5_placeWeight 105 = .ok (.ldc2_w 82, 3) := by decide +kernel
theorem dX5_placeWeight_108 : decode cX5_placeWeight 108 = .ok (.lreturn, 1) := by decide +kernel
theorem dX5_weighOrder_0 : decode cX5_weighOrder 0 = .ok (.lconst 1, 1) := by decide +kernel
theorem dX5_weighOrder_1 : decode cX5_weighOrder 1 = .ok (.lstore_n 1, 1) := by decide +kernel
theorem dX5_weighOrder_2 : decode cX5_weighOrder 2 = .ok (.aload_n 0, 1) := by decide +kernel
theorem dX5_weighOrder_3 : decode cX5_weighOrder 3 = .ok (.getfield 25, 3) := by decide +kernel
theorem dX5_weighOrder_6 : decode cX5_weighOrder 6 = .ok (.bipush 12, 2) := by decide +kernel
theorem dX5_weighOrder_8 : decode cX5_weighOrder 8 = .ok (.invokestatic 84, 3) := by decide +kernel
theorem dX5_weighOrder_11 : decode cX5_weighOrder 11 = .ok (.iconst 1, 1) := by decide +kernel
theorem dX5_weighOrder_12 : decode cX5_weighOrder 12 = .ok (.isub, 1) := by decide +kernel
theorem dX5_weighOrder_13 : decode cX5_weighOrder 13 = .ok (.istore_n 3, 1) := by decide +kernel
theorem dX5_weighOrder_14 : decode cX5_weighOrder 14 = .ok (.iload_n 3, 1) := by decide +kernel
theorem dX5_weighOrder_15 : decode cX5_weighOrder 15 = .ok (.ifCond .lt 98, 3) := by decide +kernel
theorem dX5_weighOrder_18 : decode cX5_weighOrder 18 = .ok (.iconst 0, 1) := by decide +kernel
theorem dX5_weighOrder_19 : decode cX5_weighOrder 19 = .ok (.istore 4, 2) := by decide +kernel
theorem dX5_weighOrder_21 : decode cX5_weighOrder 21 = .ok (.iload 4, 2) := by decide +kernel
theorem dX5_weighOrder_23 : decode cX5_weighOrder 23 = .ok (.aload_n 0, 1) := by decide +kernel
theorem dX5_weighOrder_24 : decode cX5_weighOrder 24 = .ok (.getfield 25, 3) := by decide +kernel
theorem dX5_weighOrder_27 : decode cX5_weighOrder 27 = .ok (.if_icmp .ge 74, 3) := by decide +kernel
theorem dX5_weighOrder_30 : decode cX5_weighOrder 30 = .ok (.iload 4, 2) := by decide +kernel
theorem dX5_weighOrder_32 : decode cX5_weighOrder 32 = .ok (.bipush 12, 2) := by decide +kernel
theorem dX5_weighOrder_34 : decode cX5_weighOrder 34 = .ok (.if_icmp .ge 67, 3) := by decide +kernel
theorem dX5_weighOrder_37 : decode cX5_weighOrder 37 = .ok (.aload_n 0, 1) := by decide +kernel
theorem dX5_weighOrder_38 : decode cX5_weighOrder 38 = .ok (.iload_n 3, 1) := by decide +kernel
theorem dX5_weighOrder_39 : decode cX5_weighOrder 39 = .ok (.iload 4, 2) := by decide +kernel
theorem dX5_weighOrder_41 : decode cX5_weighOrder 41 = .ok (.invokevirtual 59, 3) := by decide +kernel
theorem dX5_weighOrder_44 : decode cX5_weighOrder 44 = .ok (.ifCond .eq 8, 3) := by decide +kernel
theorem dX5_weighOrder_47 : decode cX5_weighOrder 47 = .ok (.iload 4, 2) := by decide +kernel
theorem dX5_weighOrder_49 : decode cX5_weighOrder 49 = .ok (.goto 5, 3) := by decide +kernel
theorem dX5_weighOrder_52 : decode cX5_weighOrder 52 = .ok (.bipush 12, 2) := by decide +kernel
theorem dX5_weighOrder_54 : decode cX5_weighOrder 54 = .ok (.istore 5, 2) := by decide +kernel
theorem dX5_weighOrder_56 : decode cX5_weighOrder 56 = .ok (.aload_n 0, 1) := by decide +kernel
theorem dX5_weighOrder_57 : decode cX5_weighOrder 57 = .ok (.getfield 38, 3) := by decide +kernel
theorem dX5_weighOrder_60 : decode cX5_weighOrder 60 = .ok (.getfield 70, 3) := by decide +kernel
theorem dX5_weighOrder_63 : decode cX5_weighOrder 63 = .ok (.iload_n 3, 1) := by decide +kernel
theorem dX5_weighOrder_64 : decode cX5_weighOrder 64 = .ok (.bipush 12, 2) := by decide +kernel
theorem dX5_weighOrder_66 : decode cX5_weighOrder 66 = .ok (.imul, 1) := by decide +kernel
theorem dX5_weighOrder_67 : decode cX5_weighOrder 67 = .ok (.iload 4, 2) := by decide +kernel
theorem dX5_weighOrder_69 : decode cX5_weighOrder 69 = .ok (.iadd, 1) := by decide +kernel
theorem dX5_weighOrder_70 : decode cX5_weighOrder 70 = .ok (.aload_n 0, 1) := by decide +kernel
theorem dX5_weighOrder_71 : decode cX5_weighOrder 71 = .ok (.getfield 38, 3) := by decide +kernel
theorem dX5_weighOrder_74 : decode cX5_weighOrder 74 = .ok (.iload_n 3, 1) := by decide +kernel
theorem dX5_weighOrder_75 : decode cX5_weighOrder 75 = .ok (.iload 4, 2) := by decide +kernel
theorem dX5_weighOrder_77 : decode cX5_weighOrder 77 = .ok (.invokevirtual 90, 3) := by decide +kernel
theorem dX5_weighOrder_80 : decode cX5_weighOrder 80 = .ok (.ifCond .eq 11, 3) := by decide +kernel
theorem dX5_weighOrder_83 : decode cX5_weighOrder 83 = .ok (.iload 5, 2) := by decide +kernel
theorem dX5_weighOrder_85 : decode cX5_weighOrder 85 = .ok (.i2l, 1) := by decide +kernel
theorem dX5_weighOrder_86 : decode cX5_weighOrder 86 = .ok (.lload_n 1, 1) := by decide +kernel
theorem dX5_weighOrder_87 : decode cX5_weighOrder 87 = .ok (.lmul, 1) := by decide +kernel
theorem dX5_weighOrder_88 : decode cX5_weighOrder 88 = .ok (.goto 6, 3) := by decide +kernel
theorem dX5_weighOrder_91 : decode cX5_weighOrder 91 = .ok (.ldc2_w 82, 3) := by decide +kernel
theorem dX5_weighOrder_94 : decode cX5_weighOrder 94 = .ok (.lastore, 1) := by decide +kernel
theorem dX5_weighOrder_95 : decode cX5_weighOrder 95 = .ok (.iinc 4 1, 3) := by decide +kernel
theorem dX5_weighOrder_98 : decode cX5_weighOrder 98 = .ok (.goto (-77), 3) := by decide +kernel
theorem dX5_weighOrder_101 : decode cX5_weighOrder 101 = .ok (.lload_n 1, 1) := by decide +kernel
theorem dX5_weighOrder_102 : decode cX5_weighOrder 102 = .ok (.ldc2_w 93, 3) := by decide +kernel
theorem dX5_weighOrder_105 : decode cX5_weighOrder 105 = .ok (.lmul, 1) := by decide +kernel
theorem dX5_weighOrder_106 : decode cX5_weighOrder 106 = .ok (.lstore_n 1, 1) := by decide +kernel
theorem dX5_weighOrder_107 : decode cX5_weighOrder 107 = .ok (.iinc 3 (-1), 3) := by decide +kernel
theorem dX5_weighOrder_110 : decode cX5_weighOrder 110 = .ok (.goto (-96), 3) := by decide +kernel
theorem dX5_weighOrder_113 : decode cX5_weighOrder 113 = .ok (.return_, 1) := by decide +kernel
theorem dX6_init_0 : decode cX6_init 0 = .ok (.aload_n 0, 1) := by decide +kernel
theorem dX6_init_1 : decode cX6_init 1 = .ok (.invokespecial 3, 3) := by decide +kernel
theorem dX6_init_4 : decode cX6_init 4 = .ok (.aload_n 0, 1) := by decide +kernel
theorem dX6_init_5 : decode cX6_init 5 = .ok (.sipush 3000, 3) := by decide +kernel
theorem dX6_init_8 : decode cX6_init 8 = .ok (.newarray .byte, 2) := by decide +kernel
theorem dX6_init_10 : decode cX6_init 10 = .ok (.putfield 9, 3) := by decide +kernel
theorem dX6_init_13 : decode cX6_init 13 = .ok (.aload_n 0, 1) := by decide +kernel
theorem dX6_init_14 : decode cX6_init 14 = .ok (.iconst 0, 1) := by decide +kernel
theorem dX6_init_15 : decode cX6_init 15 = .ok (.putfield 15, 3) := by decide +kernel
theorem dX6_init_18 : decode cX6_init 18 = .ok (.return_, 1) := by decide +kernel
theorem dX6_append_0 : decode cX6_append 0 = .ok (.bipush 24, 2) := by decide +kernel
theorem dX6_append_2 : decode cX6_append 2 = .ok (.istore_n 2, 1) := by decide +kernel
theorem dX6_append_3 : decode cX6_append 3 = .ok (.iload_n 2, 1) := by decide +kernel
theorem dX6_append_4 : decode cX6_append 4 = .ok (.ifCond .lt 42, 3) := by decide +kernel
theorem dX6_append_7 : decode cX6_append 7 = .ok (.aload_n 0, 1) := by decide +kernel
theorem dX6_append_8 : decode cX6_append 8 = .ok (.getfield 15, 3) := by decide +kernel
theorem dX6_append_11 : decode cX6_append 11 = .ok (.sipush 3000, 3) := by decide +kernel
theorem dX6_append_14 : decode cX6_append 14 = .ok (.if_icmp .ge 32, 3) := by decide +kernel
theorem dX6_append_17 : decode cX6_append 17 = .ok (.aload_n 0, 1) := by decide +kernel
theorem dX6_append_18 : decode cX6_append 18 = .ok (.getfield 9, 3) := by decide +kernel
theorem dX6_append_21 : decode cX6_append 21 = .ok (.aload_n 0, 1) := by decide +kernel
theorem dX6_append_22 : decode cX6_append 22 = .ok (.getfield 15, 3) := by decide +kernel
theorem dX6_append_25 : decode cX6_append 25 = .ok (.iload_n 1, 1) := by decide +kernel
theorem dX6_append_26 : decode cX6_append 26 = .ok (.iload_n 2, 1) := by decide +kernel
theorem dX6_append_27 : decode cX6_append 27 = .ok (.ishr, 1) := by decide +kernel
theorem dX6_append_28 : decode cX6_append 28 = .ok (.i2b, 1) := by decide +kernel
theorem dX6_append_29 : decode cX6_append 29 = .ok (.bastore, 1) := by decide +kernel
theorem dX6_append_30 : decode cX6_append 30 = .ok (.aload_n 0, 1) := by decide +kernel
theorem dX6_append_31 : decode cX6_append 31 = .ok (.dup, 1) := by decide +kernel
theorem dX6_append_32 : decode cX6_append 32 = .ok (.getfield 15, 3) := by decide +kernel
theorem dX6_append_35 : decode cX6_append 35 = .ok (.iconst 1, 1) := by decide +kernel
theorem dX6_append_36 : decode cX6_append 36 = .ok (.iadd, 1) := by decide +kernel
theorem dX6_append_37 : decode cX6_append 37 = .ok (.putfield 15, 3) := by decide +kernel
theorem dX6_append_40 : decode cX6_append 40 = .ok (.iinc 2 (-8), 3) := by decide +kernel
theorem dX6_append_43 : decode cX6_append 43 = .ok (.goto (-40), 3) := by decide +kernel
theorem dX6_append_46 : decode cX6_append 46 = .ok (.return_, 1) := by decide +kernel
theorem dX6_byteAt_0 : decode cX6_byteAt 0 = .ok (.iload_n 1, 1) := by decide +kernel
theorem dX6_byteAt_1 : decode cX6_byteAt 1 = .ok (.ifCond .lt 18, 3) := by decide +kernel
theorem dX6_byteAt_4 : decode cX6_byteAt 4 = .ok (.iload_n 1, 1) := by decide +kernel
theorem dX6_byteAt_5 : decode cX6_byteAt 5 = .ok (.aload_n 0, 1) := by decide +kernel
theorem dX6_byteAt_6 : decode cX6_byteAt 6 = .ok (.getfield 15, 3) := by decide +kernel
theorem dX6_byteAt_9 : decode cX6_byteAt 9 = .ok (.if_icmp .ge 10, 3) := by decide +kernel
theorem dX6_byteAt_12 : decode cX6_byteAt 12 = .ok (.iload_n 1, 1) := by decide +kernel
theorem dX6_byteAt_13 : decode cX6_byteAt 13 = .ok (.sipush 3000, 3) := by decide +kernel
theorem dX6_byteAt_16 : decode cX6_byteAt 16 = .ok (.if_icmp .lt 7, 3) := by decide +kernel
theorem dX6_byteAt_19 : decode cX6_byteAt 19 = .ok (.iconst (-1), 1) := by decide +kernel
theorem dX6_byteAt_20 : decode cX6_byteAt 20 = .ok (.goto 13, 3) := by decide +kernel
theorem dX6_byteAt_23 : decode cX6_byteAt 23 = .ok (.aload_n 0, 1) := by decide +kernel
theorem dX6_byteAt_24 : decode cX6_byteAt 24 = .ok (.getfield 9, 3) := by decide +kernel
theorem dX6_byteAt_27 : decode cX6_byteAt 27 = .ok (.iload_n 1, 1) := by decide +kernel
theorem dX6_byteAt_28 : decode cX6_byteAt 28 = .ok (.baload, 1) := by decide +kernel
theorem dX6_byteAt_29 : decode cX6_byteAt 29 = .ok (.sipush 255, 3) := by decide +kernel
theorem dX6_byteAt_32 : decode cX6_byteAt 32 = .ok (.iand, 1) := by decide +kernel
theorem dX6_byteAt_33 : decode cX6_byteAt 33 = .ok (.ireturn, 1) := by decide +kernel
theorem dX7_init_0 : decode cX7_init 0 = .ok (.aload_n 0, 1) := by decide +kernel
theorem dX7_init_1 : decode cX7_init 1 = .ok (.invokespecial 3, 3) := by decide +kernel
theorem dX7_init_4 : decode cX7_init 4 = .ok (.aload_n 0, 1) := by decide +kernel
theorem dX7_init_5 : decode cX7_init 5 = .ok (.sipush 600, 3) := by decide +kernel
theorem dX7_init_8 : decode cX7_init 8 = .ok (.newarray .int, 2) := by decide +kernel
theorem dX7_init_10 : decode cX7_init 10 = .ok (.putfield 9, 3) := by decide +kernel
theorem dX7_init_13 : decode cX7_init 13 = .ok (.aload_n 0, 1) := by decide +kernel
theorem dX7_init_14 : decode cX7_init 14 = .ok (.bipush 20, 2) := by decide +kernel
theorem dX7_init_16 : decode cX7_init 16 = .ok (.newarray .boolean, 2) := by decide +kernel
theorem dX7_init_18 : decode cX7_init 18 = .ok (.putfield 15, 3) := by decide +kernel
theorem dX7_init_21 : decode cX7_init 21 = .ok (.aload_n 0, 1) := by decide +kernel
theorem dX7_init_22 : decode cX7_init 22 = .ok (.bipush 20, 2) := by decide +kernel
theorem dX7_init_24 : decode cX7_init 24 = .ok (.newarray .int, 2) := by decide +kernel
theorem dX7_init_26 : decode cX7_init 26 = .ok (.putfield 19, 3) := by decide +kernel
theorem dX7_init_29 : decode cX7_init 29 = .ok (.aload_n 0, 1) := by decide +kernel
theorem dX7_init_30 : decode cX7_init 30 = .ok (.bipush 20, 2) := by decide +kernel
theorem dX7_init_32 : decode cX7_init 32 = .ok (.newarray .int, 2) := by decide +kernel
theorem dX7_init_34 : decode cX7_init 34 = .ok (.putfield 22, 3) := by decide +kernel
theorem dX7_init_37 : decode cX7_init 37 = .ok (.aload_n 0, 1) := by decide +kernel
theorem dX7_init_38 : decode cX7_init 38 = .ok (.bipush 20, 2) := by decide +kernel
theorem dX7_init_40 : decode cX7_init 40 = .ok (.newarray .int, 2) := by decide +kernel
theorem dX7_init_42 : decode cX7_init 42 = .ok (.putfield 25, 3) := by decide +kernel
theorem dX7_init_45 : decode cX7_init 45 = .ok (.aload_n 0, 1) := by decide +kernel
theorem dX7_init_46 : decode cX7_init 46 = .ok (.bipush 8, 2) := by decide +kernel
theorem dX7_init_48 : decode cX7_init 48 = .ok (.newarray .long, 2) := by decide +kernel
theorem dX7_init_50 : decode cX7_init 50 = .ok (.putfield 28, 3) := by decide +kernel
theorem dX7_init_53 : decode cX7_init 53 = .ok (.aload_n 0, 1) := by decide +kernel
theorem dX7_init_54 : decode cX7_init 54 = .ok (.iconst 0, 1) := by decide +kernel
theorem dX7_init_55 : decode cX7_init 55 = .ok (.putfield 32, 3) := by decide +kernel
theorem dX7_init_58 : decode cX7_init 58 = .ok (.aload_n 0, 1) := by decide +kernel
theorem dX7_init_59 : decode cX7_init 59 = .ok (.iconst 0, 1) := by decide +kernel
theorem dX7_init_60 : decode cX7_init 60 = .ok (.putfield 36, 3) := by decide +kernel
theorem dX7_init_63 : decode cX7_init 63 = .ok (.aload_n 0, 1) := by decide +kernel
theorem dX7_init_64 : decode cX7_init 64 = .ok (.iconst 0, 1) := by decide +kernel
theorem dX7_init_65 : decode cX7_init 65 = .ok (.putfield 39, 3) := by decide +kernel
theorem dX7_init_68 : decode cX7_init 68 = .ok (.return_, 1) := by decide +kernel
theorem dX7_clear_0 : decode cX7_clear 0 = .ok (.aload_n 0, 1) := by decide +kernel
theorem dX7_clear_1 : decode cX7_clear 1 = .ok (.iconst 0, 1) := by decide +kernel
theorem dX7_clear_2 : decode cX7_clear 2 = .ok (.putfield 32, 3) := by decide +kernel
theorem dX7_clear_5 : decode cX7_clear 5 = .ok (.aload_n 0, 1) := by decide +kernel
theorem dX7_clear_6 : decode cX7_clear 6 = .ok (.iconst 0, 1) := by decide +kernel
theorem dX7_clear_7 : decode cX7_clear 7 = .ok (.putfield 36, 3) := by decide +kernel
theorem dX7_clear_10 : decode cX7_clear 10 = .ok (.aload_n 0, 1) := by decide +kernel
theorem dX7_clear_11 : decode cX7_clear 11 = .ok (.iconst 0, 1) := by decide +kernel
theorem dX7_clear_12 : decode cX7_clear 12 = .ok (.putfield 39, 3) := by decide +kernel
theorem dX7_clear_15 : decode cX7_clear 15 = .ok (.return_, 1) := by decide +kernel
theorem dX7_addStep_0 : decode cX7_addStep 0 = .ok (.aload_n 0, 1) := by decide +kernel
theorem dX7_addStep_1 : decode cX7_addStep 1 = .ok (.getfield 32, 3) := by decide +kernel
theorem dX7_addStep_4 : decode cX7_addStep 4 = .ok (.sipush 600, 3) := by decide +kernel
theorem dX7_addStep_7 : decode cX7_addStep 7 = .ok (.if_icmp .ge 31, 3) := by decide +kernel
theorem dX7_addStep_10 : decode cX7_addStep 10 = .ok (.aload_n 0, 1) := by decide +kernel
theorem dX7_addStep_11 : decode cX7_addStep 11 = .ok (.getfield 9, 3) := by decide +kernel
theorem dX7_addStep_14 : decode cX7_addStep 14 = .ok (.aload_n 0, 1) := by decide +kernel
theorem dX7_addStep_15 : decode cX7_addStep 15 = .ok (.getfield 32, 3) := by decide +kernel
theorem dX7_addStep_18 : decode cX7_addStep 18 = .ok (.iload_n 1, 1) := by decide +kernel
theorem dX7_addStep_19 : decode cX7_addStep 19 = .ok (.bipush 16, 2) := by decide +kernel
theorem dX7_addStep_21 : decode cX7_addStep 21 = .ok (.ishl, 1) := by decide +kernel
theorem dX7_addStep_22 : decode cX7_addStep 22 = .ok (.iload_n 2, 1) := by decide +kernel
theorem dX7_addStep_23 : decode cX7_addStep 23 = .ok (.ldc 42, 2) := by decide +kernel
theorem dX7_addStep_25 : decode cX7_addStep 25 = .ok (.iand, 1) := by decide +kernel
theorem dX7_addStep_26 : decode cX7_addStep 26 = .ok (.ior, 1) := by decide +kernel
theorem dX7_addStep_27 : decode cX7_addStep 27 = .ok (.iastore, 1) := by decide +kernel
theorem dX7_addStep_28 : decode cX7_addStep 28 = .ok (.aload_n 0, 1) := by decide +kernel
theorem dX7_addStep_29 : decode cX7_addStep 29 = .ok (.dup, 1) := by decide +kernel
theorem dX7_addStep_30 : decode cX7_addStep 30 = .ok (.getfield 32, 3) := by decide +kernel
theorem dX7_addStep_33 : decode cX7_addStep 33 = .ok (.iconst 1, 1) := by decide +kernel
theorem dX7_addStep_34 : decode cX7_addStep 34 = .ok (.iadd, 1) := by decide +kernel
theorem dX7_addStep_35 : decode cX7_addStep 35 = .ok (.putfield 32, 3) := by decide +kernel
theorem dX7_addStep_38 : decode cX7_addStep 38 = .ok (.return_, 1) := by decide +kernel
theorem dX7_addTrait_0 : decode cX7_addTrait 0 = .ok (.aload_n 0, 1) := by decide +kernel
theorem dX7_addTrait_1 : decode cX7_addTrait 1 = .ok (.getfield 39, 3) := by decide +kernel
theorem dX7_addTrait_4 : decode cX7_addTrait 4 = .ok (.bipush 8, 2) := by decide +kernel
theorem dX7_addTrait_6 : decode cX7_addTrait 6 = .ok (.if_icmp .ge 23, 3) := by decide +kernel
theorem dX7_addTrait_9 : decode cX7_addTrait 9 = .ok (.aload_n 0, 1) := by decide +kernel
theorem dX7_addTrait_10 : decode cX7_addTrait 10 = .ok (.getfield 28, 3) := by decide +kernel
theorem dX7_addTrait_13 : decode cX7_addTrait 13 = .ok (.aload_n 0, 1) := by decide +kernel
theorem dX7_addTrait_14 : decode cX7_addTrait 14 = .ok (.getfield 39, 3) := by decide +kernel
theorem dX7_addTrait_17 : decode cX7_addTrait 17 = .ok (.lload_n 1, 1) := by decide +kernel
theorem dX7_addTrait_18 : decode cX7_addTrait 18 = .ok (.lastore, 1) := by decide +kernel
theorem dX7_addTrait_19 : decode cX7_addTrait 19 = .ok (.aload_n 0, 1) := by decide +kernel
theorem dX7_addTrait_20 : decode cX7_addTrait 20 = .ok (.dup, 1) := by decide +kernel
theorem dX7_addTrait_21 : decode cX7_addTrait 21 = .ok (.getfield 39, 3) := by decide +kernel
theorem dX7_addTrait_24 : decode cX7_addTrait 24 = .ok (.iconst 1, 1) := by decide +kernel
theorem dX7_addTrait_25 : decode cX7_addTrait 25 = .ok (.iadd, 1) := by decide +kernel
theorem dX7_addTrait_26 : decode cX7_addTrait 26 = .ok (.putfield 39, 3) := by decide +kernel
theorem dX7_addTrait_29 : decode cX7_addTrait 29 = .ok (.return_, 1) := by decide +kernel
theorem dX7_traitNamed_0 : decode cX7_traitNamed 0 = .ok (.iconst 0, 1) := by decide +kernel
theorem dX7_traitNamed_1 : decode cX7_traitNamed 1 = .ok (.istore_n 3, 1) := by decide +kernel
theorem dX7_traitNamed_2 : decode cX7_traitNamed 2 = .ok (.iload_n 3, 1) := by decide +kernel
theorem dX7_traitNamed_3 : decode cX7_traitNamed 3 = .ok (.aload_n 0, 1) := by decide +kernel
theorem dX7_traitNamed_4 : decode cX7_traitNamed 4 = .ok (.getfield 39, 3) := by decide +kernel
theorem dX7_traitNamed_7 : decode cX7_traitNamed 7 = .ok (.if_icmp .ge 28, 3) := by decide +kernel
theorem dX7_traitNamed_10 : decode cX7_traitNamed 10 = .ok (.iload_n 3, 1) := by decide +kernel
theorem dX7_traitNamed_11 : decode cX7_traitNamed 11 = .ok (.bipush 8, 2) := by decide +kernel
theorem dX7_traitNamed_13 : decode cX7_traitNamed 13 = .ok (.if_icmp .ge 22, 3) := by decide +kernel
theorem dX7_traitNamed_16 : decode cX7_traitNamed 16 = .ok (.aload_n 0, 1) := by decide +kernel
theorem dX7_traitNamed_17 : decode cX7_traitNamed 17 = .ok (.getfield 28, 3) := by decide +kernel
theorem dX7_traitNamed_20 : decode cX7_traitNamed 20 = .ok (.iload_n 3, 1) := by decide +kernel
theorem dX7_traitNamed_21 : decode cX7_traitNamed 21 = .ok (.laload, 1) := by decide +kernel
theorem dX7_traitNamed_22 : decode cX7_traitNamed 22 = .ok (.lload_n 1, 1) := by decide +kernel
theorem dX7_traitNamed_23 : decode cX7_traitNamed 23 = .ok (.lcmp, 1) := by decide +kernel
theorem dX7_traitNamed_24 : decode cX7_traitNamed 24 = .ok (.ifCond .ne 5, 3) := by decide +kernel
theorem dX7_traitNamed_27 : decode cX7_traitNamed 27 = .ok (.iload_n 3, 1) := by decide +kernel
theorem dX7_traitNamed_28 : decode cX7_traitNamed 28 = .ok (.ireturn, 1) := by decide +kernel
theorem dX7_traitNamed_29 : decode cX7_traitNamed 29 = .ok (.iinc 3 1, 3) := by decide +kernel
theorem dX7_traitNamed_32 : decode cX7_traitNamed 32 = .ok (.goto (-30), 3) := by decide +kernel
theorem dX7_traitNamed_35 : decode cX7_traitNamed 35 = .ok (.iconst (-1), 1) := by decide +kernel
theorem dX7_traitNamed_36 : decode cX7_traitNamed 36 = .ok (.ireturn, 1) := by decide +kernel
theorem dX7_addRule_0 : decode cX7_addRule 0 = .ok (.aload_n 0, 1) := by decide +kernel
theorem dX7_addRule_1 : decode cX7_addRule 1 = .ok (.getfield 36, 3) := by decide +kernel
theorem dX7_addRule_4 : decode cX7_addRule 4 = .ok (.bipush 20, 2) := by decide +kernel
theorem dX7_addRule_6 : decode cX7_addRule 6 = .ok (.if_icmp .ge 56, 3) := by decide +kernel
theorem dX7_addRule_9 : decode cX7_addRule 9 = .ok (.aload_n 0, 1) := by decide +kernel
theorem dX7_addRule_10 : decode cX7_addRule 10 = .ok (.getfield 15, 3) := by decide +kernel
theorem dX7_addRule_13 : decode cX7_addRule 13 = .ok (.aload_n 0, 1) := by decide +kernel
theorem dX7_addRule_14 : decode cX7_addRule 14 = .ok (.getfield 36, 3) := by decide +kernel
theorem dX7_addRule_17 : decode cX7_addRule 17 = .ok (.iload_n 1, 1) := by decide +kernel
theorem dX7_addRule_18 : decode cX7_addRule 18 = .ok (.bastore, 1) := by decide +kernel
theorem dX7_addRule_19 : decode cX7_addRule 19 = .ok (.aload_n 0, 1) := by decide +kernel
theorem dX7_addRule_20 : decode cX7_addRule 20 = .ok (.getfield 19, 3) := by decide +kernel
theorem dX7_addRule_23 : decode cX7_addRule 23 = .ok (.aload_n 0, 1) := by decide +kernel
theorem dX7_addRule_24 : decode cX7_addRule 24 = .ok (.getfield 36, 3) := by decide +kernel
theorem dX7_addRule_27 : decode cX7_addRule 27 = .ok (.iload_n 2, 1) := by decide +kernel
theorem dX7_addRule_28 : decode cX7_addRule 28 = .ok (.iastore, 1) := by decide +kernel
theorem dX7_addRule_29 : decode cX7_addRule 29 = .ok (.aload_n 0, 1) := by decide +kernel
theorem dX7_addRule_30 : decode cX7_addRule 30 = .ok (.getfield 22, 3) := by decide +kernel
theorem dX7_addRule_33 : decode cX7_addRule 33 = .ok (.aload_n 0, 1) := by decide +kernel
theorem dX7_addRule_34 : decode cX7_addRule 34 = .ok (.getfield 36, 3) := by decide +kernel
theorem dX7_addRule_37 : decode cX7_addRule 37 = .ok (.iload_n 3, 1) := by decide +kernel
theorem dX7_addRule_38 : decode cX7_addRule 38 = .ok (.iastore, 1) := by decide +kernel
theorem dX7_addRule_39 : decode cX7_addRule 39 = .ok (.aload_n 0, 1) := by decide +kernel
theorem dX7_addRule_40 : decode cX7_addRule 40 = .ok (.getfield 25, 3) := by decide +kernel
theorem dX7_addRule_43 : decode cX7_addRule 43 = .ok (.aload_n 0, 1) := by decide +kernel
theorem dX7_addRule_44 : decode cX7_addRule 44 = .ok (.getfield 36, 3) := by decide +kernel
theorem dX7_addRule_47 : decode cX7_addRule 47 = .ok (.aload_n 0, 1) := by decide +kernel
theorem dX7_addRule_48 : decode cX7_addRule 48 = .ok (.getfield 32, 3) := by decide +kernel
theorem dX7_addRule_51 : decode cX7_addRule 51 = .ok (.iastore, 1) := by decide +kernel
theorem dX7_addRule_52 : decode cX7_addRule 52 = .ok (.aload_n 0, 1) := by decide +kernel
theorem dX7_addRule_53 : decode cX7_addRule 53 = .ok (.dup, 1) := by decide +kernel
theorem dX7_addRule_54 : decode cX7_addRule 54 = .ok (.getfield 36, 3) := by decide +kernel
theorem dX7_addRule_57 : decode cX7_addRule 57 = .ok (.iconst 1, 1) := by decide +kernel
theorem dX7_addRule_58 : decode cX7_addRule 58 = .ok (.iadd, 1) := by decide +kernel
theorem dX7_addRule_59 : decode cX7_addRule 59 = .ok (.putfield 36, 3) := by decide +kernel
theorem dX7_addRule_62 : decode cX7_addRule 62 = .ok (.return_, 1) := by decide +kernel
theorem dX8_init_0 : decode cX8_init 0 = .ok (.aload_n 0, 1) := by decide +kernel
theorem dX8_init_1 : decode cX8_init 1 = .ok (.invokespecial 3, 3) := by decide +kernel
theorem dX8_init_4 : decode cX8_init 4 = .ok (.aload_n 0, 1) := by decide +kernel
theorem dX8_init_5 : decode cX8_init 5 = .ok (.sipush 601, 3) := by decide +kernel
theorem dX8_init_8 : decode cX8_init 8 = .ok (.newarray .int, 2) := by decide +kernel
theorem dX8_init_10 : decode cX8_init 10 = .ok (.putfield 9, 3) := by decide +kernel
theorem dX8_init_13 : decode cX8_init 13 = .ok (.aload_n 0, 1) := by decide +kernel
theorem dX8_init_14 : decode cX8_init 14 = .ok (.sipush 601, 3) := by decide +kernel
theorem dX8_init_17 : decode cX8_init 17 = .ok (.newarray .int, 2) := by decide +kernel
theorem dX8_init_19 : decode cX8_init 19 = .ok (.putfield 15, 3) := by decide +kernel
theorem dX8_init_22 : decode cX8_init 22 = .ok (.aload_n 0, 1) := by decide +kernel
theorem dX8_init_23 : decode cX8_init 23 = .ok (.sipush 601, 3) := by decide +kernel
theorem dX8_init_26 : decode cX8_init 26 = .ok (.newarray .long, 2) := by decide +kernel
theorem dX8_init_28 : decode cX8_init 28 = .ok (.putfield 18, 3) := by decide +kernel
theorem dX8_init_31 : decode cX8_init 31 = .ok (.return_, 1) := by decide +kernel
theorem dX8_scan_0 : decode cX8_scan 0 = .ok (.iconst 0, 1) := by decide +kernel
theorem dX8_scan_1 : decode cX8_scan 1 = .ok (.istore_n 2, 1) := by decide +kernel
theorem dX8_scan_2 : decode cX8_scan 2 = .ok (.iconst 1, 1) := by decide +kernel
theorem dX8_scan_3 : decode cX8_scan 3 = .ok (.istore_n 3, 1) := by decide +kernel
theorem dX8_scan_4 : decode cX8_scan 4 = .ok (.iconst 0, 1) := by decide +kernel
theorem dX8_scan_5 : decode cX8_scan 5 = .ok (.istore 4, 2) := by decide +kernel
theorem dX8_scan_7 : decode cX8_scan 7 = .ok (.iload 4, 2) := by decide +kernel
theorem dX8_scan_9 : decode cX8_scan 9 = .ok (.sipush 600, 3) := by decide +kernel
theorem dX8_scan_12 : decode cX8_scan 12 = .ok (.if_icmp .gt 63, 3) := by decide +kernel
theorem dX8_scan_15 : decode cX8_scan 15 = .ok (.iload_n 3, 1) := by decide +kernel
theorem dX8_scan_16 : decode cX8_scan 16 = .ok (.ifCond .eq 59, 3) := by decide +kernel
theorem dX8_scan_19 : decode cX8_scan 19 = .ok (.aload_n 1, 1) := by decide +kernel
theorem dX8_scan_20 : decode cX8_scan 20 = .ok (.iload_n 2, 1) := by decide +kernel
theorem dX8_scan_21 : decode cX8_scan 21 = .ok (.invokestatic 22, 3) := by decide +kernel
theorem dX8_scan_24 : decode cX8_scan 24 = .ok (.istore_n 2, 1) := by decide +kernel
theorem dX8_scan_25 : decode cX8_scan 25 = .ok (.aload_n 0, 1) := by decide +kernel
theorem dX8_scan_26 : decode cX8_scan 26 = .ok (.getfield 15, 3) := by decide +kernel
theorem dX8_scan_29 : decode cX8_scan 29 = .ok (.iload 4, 2) := by decide +kernel
theorem dX8_scan_31 : decode cX8_scan 31 = .ok (.iload_n 2, 1) := by decide +kernel
theorem dX8_scan_32 : decode cX8_scan 32 = .ok (.iastore, 1) := by decide +kernel
theorem dX8_scan_33 : decode cX8_scan 33 = .ok (.aload_n 0, 1) := by decide +kernel
theorem dX8_scan_34 : decode cX8_scan 34 = .ok (.aload_n 1, 1) := by decide +kernel
theorem dX8_scan_35 : decode cX8_scan 35 = .ok (.iload_n 2, 1) := by decide +kernel
theorem dX8_scan_36 : decode cX8_scan 36 = .ok (.iload 4, 2) := by decide +kernel
theorem dX8_scan_38 : decode cX8_scan 38 = .ok (.invokevirtual 26, 3) := by decide +kernel
theorem dX8_scan_41 : decode cX8_scan 41 = .ok (.istore_n 2, 1) := by decide +kernel
theorem dX8_scan_42 : decode cX8_scan 42 = .ok (.aload_n 0, 1) := by decide +kernel
theorem dX8_scan_43 : decode cX8_scan 43 = .ok (.getfield 9, 3) := by decide +kernel
theorem dX8_scan_46 : decode cX8_scan 46 = .ok (.iload 4, 2) := by decide +kernel
theorem dX8_scan_48 : decode cX8_scan 48 = .ok (.iaload, 1) := by decide +kernel
theorem dX8_scan_49 : decode cX8_scan 49 = .ok (.ifCond .eq 18, 3) := by decide +kernel
theorem dX8_scan_52 : decode cX8_scan 52 = .ok (.aload_n 0, 1) := by decide +kernel
theorem dX8_scan_53 : decode cX8_scan 53 = .ok (.getfield 9, 3) := by decide +kernel
theorem dX8_scan_56 : decode cX8_scan 56 = .ok (.iload 4, 2) := by decide +kernel
theorem dX8_scan_58 : decode cX8_scan 58 = .ok (.iaload, 1) := by decide +kernel
theorem dX8_scan_59 : decode cX8_scan 59 = .ok (.iconst 1, 1) := by decide +kernel
theorem dX8_scan_60 : decode cX8_scan 60 = .ok (.if_icmp .eq 7, 3) := by decide +kernel
theorem dX8_scan_63 : decode cX8_scan 63 = .ok (.iconst 1, 1) := by decide +kernel
theorem dX8_scan_64 : decode cX8_scan 64 = .ok (.goto 4, 3) := by decide +kernel
theorem dX8_scan_67 : decode cX8_scan 67 = .ok (.iconst 0, 1) := by decide +kernel
theorem dX8_scan_68 : decode cX8_scan 68 = .ok (.istore_n 3, 1) := by decide +kernel
theorem dX8_scan_69 : decode cX8_scan 69 = .ok (.iinc 4 1, 3) := by decide +kernel
theorem dX8_scan_72 : decode cX8_scan 72 = .ok (.goto (-65), 3) := by decide +kernel
theorem dX8_scan_75 : decode cX8_scan 75 = .ok (.return_, 1) := by decide +kernel
theorem dX8_behindBlanks_0 : decode cX8_behindBlanks 0 = .ok (.iload_n 1, 1) := by decide +kernel
theorem dX8_behindBlanks_1 : decode cX8_behindBlanks 1 = .ok (.istore_n 2, 1) := by decide +kernel
theorem dX8_behindBlanks_2 : decode cX8_behindBlanks 2 = .ok (.iload_n 2, 1) := by decide +kernel
theorem dX8_behindBlanks_3 : decode cX8_behindBlanks 3 = .ok (.aload_n 0, 1) := by decide +kernel
theorem dX8_behindBlanks_4 : decode cX8_behindBlanks 4 = .ok (.getfield 30, 3) := by decide +kernel
theorem dX8_behindBlanks_7 : decode cX8_behindBlanks 7 = .ok (.if_icmp .ge 20, 3) := by decide +kernel
theorem dX8_behindBlanks_10 : decode cX8_behindBlanks 10 = .ok (.aload_n 0, 1) := by decide +kernel
theorem dX8_behindBlanks_11 : decode cX8_behindBlanks 11 = .ok (.iload_n 2, 1) := by decide +kernel
theorem dX8_behindBlanks_12 : decode cX8_behindBlanks 12 = .ok (.invokevirtual 36, 3) := by decide +kernel
theorem dX8_behindBlanks_15 : decode cX8_behindBlanks 15 = .ok (.invokestatic 40, 3) := by decide +kernel
theorem dX8_behindBlanks_18 : decode cX8_behindBlanks 18 = .ok (.ifCond .eq 9, 3) := by decide +kernel
theorem dX8_behindBlanks_21 : decode cX8_behindBlanks 21 = .ok (.iinc 2 1, 3) := by decide +kernel
theorem dX8_behindBlanks_24 : decode cX8_behindBlanks 24 = .ok (.goto (-22), 3) := by decide +kernel
theorem dX8_behindBlanks_27 : decode cX8_behindBlanks 27 = .ok (.iload_n 2, 1) := by decide +kernel
theorem dX8_behindBlanks_28 : decode cX8_behindBlanks 28 = .ok (.ireturn, 1) := by decide +kernel
theorem dX8_scanOne_0 : decode cX8_scanOne 0 = .ok (.aload_n 1, 1) := by decide +kernel
theorem dX8_scanOne_1 : decode cX8_scanOne 1 = .ok (.iload_n 2, 1) := by decide +kernel
theorem dX8_scanOne_2 : decode cX8_scanOne 2 = .ok (.invokevirtual 36, 3) := by decide +kernel
theorem dX8_scanOne_5 : decode cX8_scanOne 5 = .ok (.istore 4, 2) := by decide +kernel
theorem dX8_scanOne_7 : decode cX8_scanOne 7 = .ok (.iload 4, 2) := by decide +kernel
theorem dX8_scanOne_9 : decode cX8_scanOne 9 = .ok (.iconst (-1), 1) := by decide +kernel
theorem dX8_scanOne_10 : decode cX8_scanOne 10 = .ok (.if_icmp .ne 12, 3) := by decide +kernel
theorem dX8_scanOne_13 : decode cX8_scanOne 13 = .ok (.aload_n 0, 1) := by decide +kernel
theorem dX8_scanOne_14 : decode cX8_scanOne 14 = .ok (.getfield 9, 3) := by decide +kernel
theorem dX8_scanOne_17 : decode cX8_scanOne 17 = .ok (.iload_n 3, 1) := by decide +kernel
theorem dX8_scanOne_18 : decode cX8_scanOne 18 = .ok (.iconst 0, 1) := by decide +kernel
theorem dX8_scanOne_19 : decode cX8_scanOne 19 = .ok (.iastore, 1) := by decide +kernel
theorem dX8_scanOne_20 : decode cX8_scanOne 20 = .ok (.iload_n 2, 1) := by decide +kernel
theorem dX8_scanOne_21 : decode cX8_scanOne 21 = .ok (.ireturn, 1) := by decide +kernel
theorem dX8_scanOne_22 : decode cX8_scanOne 22 = .ok (.iload 4, 2) := by decide +kernel
theorem dX8_scanOne_24 : decode cX8_scanOne 24 = .ok (.invokestatic 44, 3) := by decide +kernel
theorem dX8_scanOne_27 : decode cX8_scanOne 27 = .ok (.ifCond .eq 11, 3) := by decide +kernel
theorem dX8_scanOne_30 : decode cX8_scanOne 30 = .ok (.aload_n 0, 1) := by decide +kernel
theorem dX8_scanOne_31 : decode cX8_scanOne 31 = .ok (.aload_n 1, 1) := by decide +kernel
theorem dX8_scanOne_32 : decode cX8_scanOne 32 = .ok (.iload_n 2, 1) := by decide +kernel
theorem dX8_scanOne_33 : decode cX8_scanOne 33 = .ok (.iload_n 3, 1) := by decide +kernel
theorem dX8_scanOne_34 : decode cX8_scanOne 34 = .ok (.invokevirtual 47, 3) := by decide +kernel
theorem dX8_scanOne_37 : decode cX8_scanOne 37 = .ok (.ireturn, 1) := by decide +kernel
theorem dX8_scanOne_38 : decode cX8_scanOne 38 = .ok (.iload 4, 2) := by decide +kernel
theorem dX8_scanOne_40 : decode cX8_scanOne 40 = .ok (.invokestatic 50, 3) := by decide +kernel
theorem dX8_scanOne_43 : decode cX8_scanOne 43 = .ok (.ifCond .eq 11, 3) := by decide +kernel
theorem dX8_scanOne_46 : decode cX8_scanOne 46 = .ok (.aload_n 0, 1) := by decide +kernel
theorem dX8_scanOne_47 : decode cX8_scanOne 47 = .ok (.aload_n 1, 1) := by decide +kernel
theorem dX8_scanOne_48 : decode cX8_scanOne 48 = .ok (.iload_n 2, 1) := by decide +kernel
theorem dX8_scanOne_49 : decode cX8_scanOne 49 = .ok (.iload_n 3, 1) := by decide +kernel
theorem dX8_scanOne_50 : decode cX8_scanOne 50 = .ok (.invokevirtual 53, 3) := by decide +kernel
theorem dX8_scanOne_53 : decode cX8_scanOne 53 = .ok (.ireturn, 1) := by decide +kernel
theorem dX8_scanOne_54 : decode cX8_scanOne 54 = .ok (.aload_n 0, 1) := by decide +kernel
theorem dX8_scanOne_55 : decode cX8_scanOne 55 = .ok (.getfield 9, 3) := by decide +kernel
theorem dX8_scanOne_58 : decode cX8_scanOne 58 = .ok (.iload_n 3, 1) := by decide +kernel
theorem dX8_scanOne_59 : decode cX8_scanOne 59 = .ok (.aload_n 1, 1) := by decide +kernel
theorem dX8_scanOne_60 : decode cX8_scanOne 60 = .ok (.iload_n 2, 1) := by decide +kernel
theorem dX8_scanOne_61 : decode cX8_scanOne 61 = .ok (.invokestatic 56, 3) := by decide +kernel
theorem dX8_scanOne_64 : decode cX8_scanOne 64 = .ok (.iastore, 1) := by decide +kernel
theorem dX8_scanOne_65 : decode cX8_scanOne 65 = .ok (.aload_n 0, 1) := by decide +kernel
theorem dX8_scanOne_66 : decode cX8_scanOne 66 = .ok (.getfield 9, 3) := by decide +kernel
theorem dX8_scanOne_69 : decode cX8_scanOne 69 = .ok (.iload_n 3, 1) := by decide +kernel
theorem dX8_scanOne_70 : decode cX8_scanOne 70 = .ok (.iaload, 1) := by decide +kernel
theorem dX8_scanOne_71 : decode cX8_scanOne 71 = .ok (.iconst 4, 1) := by decide +kernel
theorem dX8_scanOne_72 : decode cX8_scanOne 72 = .ok (.if_icmp .eq 24, 3) := by decide +kernel
theorem dX8_scanOne_75 : decode cX8_scanOne 75 = .ok (.aload_n 0, 1) := by decide +kernel
theorem dX8_scanOne_76 : decode cX8_scanOne 76 = .ok (.getfield 9, 3) := by decide +kernel
theorem dX8_scanOne_79 : decode cX8_scanOne 79 = .ok (.iload_n 3, 1) := by decide +kernel
theorem dX8_scanOne_80 : decode cX8_scanOne 80 = .ok (.iaload, 1) := by decide +kernel
theorem dX8_scanOne_81 : decode cX8_scanOne 81 = .ok (.iconst 5, 1) := by decide +kernel
theorem dX8_scanOne_82 : decode cX8_scanOne 82 = .ok (.if_icmp .eq 14, 3) := by decide +kernel
theorem dX8_scanOne_85 : decode cX8_scanOne 85 = .ok (.aload_n 0, 1) := by decide +kernel
theorem dX8_scanOne_86 : decode cX8_scanOne 86 = .ok (.getfield 9, 3) := by decide +kernel
theorem dX8_scanOne_89 : decode cX8_scanOne 89 = .ok (.iload_n 3, 1) := by decide +kernel
theorem dX8_scanOne_90 : decode cX8_scanOne 90 = .ok (.iaload, 1) := by decide +kernel
theorem dX8_scanOne_91 : decode cX8_scanOne 91 = .ok (.bipush 6, 2) := by decide +kernel
theorem dX8_scanOne_93 : decode cX8_scanOne 93 = .ok (.if_icmp .ne 7, 3) := by decide +kernel
theorem dX8_scanOne_96 : decode cX8_scanOne 96 = .ok (.iconst 1, 1) := by decide +kernel
theorem dX8_scanOne_97 : decode cX8_scanOne 97 = .ok (.goto 4, 3) := by decide +kernel
theorem dX8_scanOne_100 : decode cX8_scanOne 100 = .ok (.iconst 0, 1) := by decide +kernel
theorem dX8_scanOne_101 : decode cX8_scanOne 101 = .ok (.istore 5, 2) := by decide +kernel
theorem dX8_scanOne_103 : decode cX8_scanOne 103 = .ok (.iload 5, 2) := by decide +kernel
theorem dX8_scanOne_105 : decode cX8_scanOne 105 = .ok (.ifCond .eq 9, 3) := by decide +kernel
theorem dX8_scanOne_108 : decode cX8_scanOne 108 = .ok (.iload_n 2, 1) := by decide +kernel
theorem dX8_scanOne_109 : decode cX8_scanOne 109 = .ok (.iconst 2, 1) := by decide +kernel
theorem dX8_scanOne_110 : decode cX8_scanOne 110 = .ok (.iadd, 1) := by decide +kernel
theorem dX8_scanOne_111 : decode cX8_scanOne 111 = .ok (.goto 6, 3) := by decide +kernel
theorem dX8_scanOne_114 : decode cX8_scanOne 114 = .ok (.iload_n 2, 1) := by decide +kernel
theorem dX8_scanOne_115 : decode cX8_scanOne 115 = .ok (.iconst 1, 1) := by decide +kernel
theorem dX8_scanOne_116 : decode cX8_scanOne 116 = .ok (.iadd, 1) := by decide +kernel
theorem dX8_scanOne_117 : decode cX8_scanOne 117 = .ok (.ireturn, 1) := by decide +kernel
theorem dX8_scanName_0 : decode cX8_scanName 0 = .ok (.iload_n 2, 1) := by decide +kernel
theorem dX8_scanName_1 : decode cX8_scanName 1 = .ok (.istore 4, 2) := by decide +kernel
theorem dX8_scanName_3 : decode cX8_scanName 3 = .ok (.lconst 0, 1) := by decide +kernel
theorem dX8_scanName_4 : decode cX8_scanName 4 = .ok (.lstore 5, 2) := by decide +kernel
theorem dX8_scanName_6 : decode cX8_scanName 6 = .ok (.iload 4, 2) := by decide +kernel
theorem dX8_scanName_8 : decode cX8_scanName 8 = .ok (.aload_n 1, 1) := by decide +kernel
theorem dX8_scanName_9 : decode cX8_scanName 9 = .ok (.getfield 30, 3) := by decide +kernel
theorem dX8_scanName_12 : decode cX8_scanName 12 = .ok (.if_icmp .ge 48, 3) := by decide +kernel
theorem dX8_scanName_15 : decode cX8_scanName 15 = .ok (.aload_n 1, 1) := by decide +kernel
theorem dX8_scanName_16 : decode cX8_scanName 16 = .ok (.iload 4, 2) := by decide +kernel
theorem dX8_scanName_18 : decode cX8_scanName 18 = .ok (.invokevirtual 36, 3) := by decide +kernel
theorem dX8_scanName_21 : decode cX8_scanName 21 = .ok (.invokestatic 44, 3) := by decide +kernel
theorem dX8_scanName_24 : decode cX8_scanName 24 = .ok (.ifCond .ne 15, 3) := by decide +kernel
theorem dX8_scanName_27 : decode cX8_scanName 27 = .ok (.aload_n 1, 1) := by decide +kernel
theorem dX8_scanName_28 : decode cX8_scanName 28 = .ok (.iload 4, 2) := by decide +kernel
theorem dX8_scanName_30 : decode cX8_scanName 30 = .ok (.invokevirtual 36, 3) := by decide +kernel
theorem dX8_scanName_33 : decode cX8_scanName 33 = .ok (.invokestatic 50, 3) := by decide +kernel
theorem dX8_scanName_36 : decode cX8_scanName 36 = .ok (.ifCond .eq 24, 3) := by decide +kernel
theorem dX8_scanName_39 : decode cX8_scanName 39 = .ok (.lload 5, 2) := by decide +kernel
theorem dX8_scanName_41 : decode cX8_scanName 41 = .ok (.bipush 8, 2) := by decide +kernel
theorem dX8_scanName_43 : decode cX8_scanName 43 = .ok (.lshl, 1) := by decide +kernel
theorem dX8_scanName_44 : decode cX8_scanName 44 = .ok (.aload_n 1, 1) := by decide +kernel
theorem dX8_scanName_45 : decode cX8_scanName 45 = .ok (.iload 4, 2) := by decide +kernel
theorem dX8_scanName_47 : decode cX8_scanName 47 = .ok (.invokevirtual 36, 3) := by decide +kernel
theorem dX8_scanName_50 : decode cX8_scanName 50 = .ok (.i2l, 1) := by decide +kernel
theorem dX8_scanName_51 : decode cX8_scanName 51 = .ok (.lor, 1) := by decide +kernel
theorem dX8_scanName_52 : decode cX8_scanName 52 = .ok (.lstore 5, 2) := by decide +kernel
theorem dX8_scanName_54 : decode cX8_scanName 54 = .ok (.iinc 4 1, 3) := by decide +kernel
theorem dX8_scanName_57 : decode cX8_scanName 57 = .ok (.goto (-51), 3) := by decide +kernel
theorem dX8_scanName_60 : decode cX8_scanName 60 = .ok (.aload_n 0, 1) := by decide +kernel
theorem dX8_scanName_61 : decode cX8_scanName 61 = .ok (.getfield 18, 3) := by decide +kernel
theorem dX8_scanName_64 : decode cX8_scanName 64 = .ok (.iload_n 3, 1) := by decide +kernel
theorem dX8_scanName_65 : decode cX8_scanName 65 = .ok (.lload 5, 2) := by decide +kernel
theorem dX8_scanName_67 : decode cX8_scanName 67 = .ok (.lastore, 1) := by decide +kernel
theorem dX8_scanName_68 : decode cX8_scanName 68 = .ok (.aload_n 0, 1) := by decide +kernel
theorem dX8_scanName_69 : decode cX8_scanName 69 = .ok (.getfield 9, 3) := by decide +kernel
theorem dX8_scanName_72 : decode cX8_scanName 72 = .ok (.iload_n 3, 1) := by decide +kernel
theorem dX8_scanName_73 : decode cX8_scanName 73 = .ok (.iload 4, 2) := by decide +kernel
theorem dX8_scanName_75 : decode cX8_scanName 75 = .ok (.iload_n 2, 1) := by decide +kernel
theorem dX8_scanName_76 : decode cX8_scanName 76 = .ok (.isub, 1) := by decide +kernel
theorem dX8_scanName_77 : decode cX8_scanName 77 = .ok (.bipush 8, 2) := by decide +kernel
theorem dX8_scanName_79 : decode cX8_scanName 79 = .ok (.if_icmp .le 7, 3) := by decide +kernel
theorem dX8_scanName_82 : decode cX8_scanName 82 = .ok (.iconst 1, 1) := by decide +kernel
theorem dX8_scanName_83 : decode cX8_scanName 83 = .ok (.goto 8, 3) := by decide +kernel
theorem dX8_scanName_86 : decode cX8_scanName 86 = .ok (.lload 5, 2) := by decide +kernel
theorem dX8_scanName_88 : decode cX8_scanName 88 = .ok (.invokestatic 59, 3) := by decide +kernel
theorem dX8_scanName_91 : decode cX8_scanName 91 = .ok (.iastore, 1) := by decide +kernel
theorem dX8_scanName_92 : decode cX8_scanName 92 = .ok (.iload 4, 2) := by decide +kernel
theorem dX8_scanName_94 : decode cX8_scanName 94 = .ok (.ireturn, 1) := by decide +kernel
theorem dX8_scanNumber_0 : decode cX8_scanNumber 0 = .ok (.iload_n 2, 1) := by decide +kernel
theorem dX8_scanNumber_1 : decode cX8_scanNumber 1 = .ok (.istore 4, 2) := by decide +kernel
theorem dX8_scanNumber_3 : decode cX8_scanNumber 3 = .ok (.lconst 0, 1) := by decide +kernel
theorem dX8_scanNumber_4 : decode cX8_scanNumber 4 = .ok (.lstore 5, 2) := by decide +kernel
theorem dX8_scanNumber_6 : decode cX8_scanNumber 6 = .ok (.iload 4, 2) := by decide +kernel
theorem dX8_scanNumber_8 : decode cX8_scanNumber 8 = .ok (.aload_n 1, 1) := by decide +kernel
theorem dX8_scanNumber_9 : decode cX8_scanNumber 9 = .ok (.getfield 30, 3) := by decide +kernel
theorem dX8_scanNumber_12 : decode cX8_scanNumber 12 = .ok (.if_icmp .ge 40, 3) := by decide +kernel
theorem dX8_scanNumber_15 : decode cX8_scanNumber 15 = .ok (.aload_n 1, 1) := by decide +kernel
theorem dX8_scanNumber_16 : decode cX8_scanNumber 16 = .ok (.iload 4, 2) := by decide +kernel
theorem dX8_scanNumber_18 : decode cX8_scanNumber 18 = .ok (.invokevirtual 36, 3) := by decide +kernel
theorem dX8_scanNumber_21 : decode cX8_scanNumber 21 = .ok (.invokestatic 50, 3) := by decide +kernel
theorem dX8_scanNumber_24 : decode cX8_scanNumber 24 = .ok (.ifCond .eq 28, 3) := by decide +kernel
theorem dX8_scanNumber_27 : decode cX8_scanNumber 27 = .ok (.lload 5, 2) := by decide +kernel
theorem dX8_scanNumber_29 : decode cX8_scanNumber 29 = .ok (.ldc2_w 63, 3) := by decide +kernel
theorem dX8_scanNumber_32 : decode cX8_scanNumber 32 = .ok (.lmul, 1) := by decide +kernel
theorem dX8_scanNumber_33 : decode cX8_scanNumber 33 = .ok (.aload_n 1, 1) := by decide +kernel
theorem dX8_scanNumber_34 : decode cX8_scanNumber 34 = .ok (.iload 4, 2) := by decide +kernel
theorem dX8_scanNumber_36 : decode cX8_scanNumber 36 = .ok (.invokevirtual 36, 3) := by decide +kernel
theorem dX8_scanNumber_39 : decode cX8_scanNumber 39 = .ok (.bipush 48, 2) := by decide +kernel
theorem dX8_scanNumber_41 : decode cX8_scanNumber 41 = .ok (.isub, 1) := by decide +kernel
theorem dX8_scanNumber_42 : decode cX8_scanNumber 42 = .ok (.i2l, 1) := by decide +kernel
theorem dX8_scanNumber_43 : decode cX8_scanNumber 43 = .ok (.ladd, 1) := by decide +kernel
theorem dX8_scanNumber_44 : decode cX8_scanNumber 44 = .ok (.lstore 5, 2) := by decide +kernel
theorem dX8_scanNumber_46 : decode cX8_scanNumber 46 = .ok (.iinc 4 1, 3) := by decide +kernel
theorem dX8_scanNumber_49 : decode cX8_scanNumber 49 = .ok (.goto (-43), 3) := by decide +kernel
theorem dX8_scanNumber_52 : decode cX8_scanNumber 52 = .ok (.aload_n 0, 1) := by decide +kernel
theorem dX8_scanNumber_53 : decode cX8_scanNumber 53 = .ok (.getfield 18, 3) := by decide +kernel
theorem dX8_scanNumber_56 : decode cX8_scanNumber 56 = .ok (.iload_n 3, 1) := by decide +kernel
theorem dX8_scanNumber_57 : decode cX8_scanNumber 57 = .ok (.lload 5, 2) := by decide +kernel
theorem dX8_scanNumber_59 : decode cX8_scanNumber 59 = .ok (.lastore, 1) := by decide +kernel
theorem dX8_scanNumber_60 : decode cX8_scanNumber 60 = .ok (.aload_n 0, 1) := by decide +kernel
theorem dX8_scanNumber_61 : decode cX8_scanNumber 61 = .ok (.getfield 9, 3) := by decide +kernel
theorem dX8_scanNumber_64 : decode cX8_scanNumber 64 = .ok (.iload_n 3, 1) := by decide +kernel
theorem dX8_scanNumber_65 : decode cX8_scanNumber 65 = .ok (.iload 4, 2) := by decide +kernel
theorem dX8_scanNumber_67 : decode cX8_scanNumber 67 = .ok (.iload_n 2, 1) := by decide +kernel
theorem dX8_scanNumber_68 : decode cX8_scanNumber 68 = .ok (.isub, 1) := by decide +kernel
theorem dX8_scanNumber_69 : decode cX8_scanNumber 69 = .ok (.iconst 4, 1) := by decide +kernel
theorem dX8_scanNumber_70 : decode cX8_scanNumber 70 = .ok (.if_icmp .le 7, 3) := by decide +kernel
theorem dX8_scanNumber_73 : decode cX8_scanNumber 73 = .ok (.iconst 1, 1) := by decide +kernel
theorem dX8_scanNumber_74 : decode cX8_scanNumber 74 = .ok (.goto 4, 3) := by decide +kernel
theorem dX8_scanNumber_77 : decode cX8_scanNumber 77 = .ok (.iconst 3, 1) := by decide +kernel
theorem dX8_scanNumber_78 : decode cX8_scanNumber 78 = .ok (.iastore, 1) := by decide +kernel
theorem dX8_scanNumber_79 : decode cX8_scanNumber 79 = .ok (.iload 4, 2) := by decide +kernel
theorem dX8_scanNumber_81 : decode cX8_scanNumber 81 = .ok (.ireturn, 1) := by decide +kernel
theorem dX8_signAt_0 : decode cX8_signAt 0 = .ok (.aload_n 0, 1) := by decide +kernel
theorem dX8_signAt_1 : decode cX8_signAt 1 = .ok (.iload_n 1, 1) := by decide +kernel
theorem dX8_signAt_2 : decode cX8_signAt 2 = .ok (.invokevirtual 36, 3) := by decide +kernel
theorem dX8_signAt_5 : decode cX8_signAt 5 = .ok (.istore_n 2, 1) := by decide +kernel
theorem dX8_signAt_6 : decode cX8_signAt 6 = .ok (.aload_n 0, 1) := by decide +kernel
theorem dX8_signAt_7 : decode cX8_signAt 7 = .ok (.iload_n 1, 1) := by decide +kernel
theorem dX8_signAt_8 : decode cX8_signAt 8 = .ok (.iconst 1, 1) := by decide +kernel
theorem dX8_signAt_9 : decode cX8_signAt 9 = .ok (.iadd, 1) := by decide +kernel
theorem dX8_signAt_10 : decode cX8_signAt 10 = .ok (.invokevirtual 36, 3) := by decide +kernel
theorem dX8_signAt_13 : decode cX8_signAt 13 = .ok (.bipush 61, 2) := by decide +kernel
theorem dX8_signAt_15 : decode cX8_signAt 15 = .ok (.if_icmp .ne 7, 3) := by decide +kernel
theorem dX8_signAt_18 : decode cX8_signAt 18 = .ok (.iconst 1, 1) := by decide +kernel
theorem dX8_signAt_19 : decode cX8_signAt 19 = .ok (.goto 4, 3) := by decide +kernel
theorem dX8_signAt_22 : decode cX8_signAt 22 = .ok (.iconst 0, 1) := by decide +kernel
theorem dX8_signAt_23 : decode cX8_signAt 23 = .ok (.istore_n 3, 1) := by decide +kernel
theorem dX8_signAt_24 : decode cX8_signAt 24 = .ok (.iload_n 2, 1) := by decide +kernel
theorem dX8_signAt_25 : decode cX8_signAt 25 = .ok (.lookupswitch 140 #[(33, 119), (40, 107), (41, 107), (42, 107), (43, 107), (45, 107), (46, 107), (59, 107), (60, 129), (61, 109), (91, 107), (93, 107)], 107) := by decide +kernel
theorem dX8_signAt_132 : decode cX8_signAt 132 = .ok (.iload_n 2, 1) := by decide +kernel
theorem dX8_signAt_133 : decode cX8_signAt 133 = .ok (.ireturn, 1) := by decide +kernel
theorem dX8_signAt_134 : decode cX8_signAt 134 = .ok (.iload_n 3, 1) := by decide +kernel
theorem dX8_signAt_135 : decode cX8_signAt 135 = .ok (.ifCond .eq 7, 3) := by decide +kernel
theorem dX8_signAt_138 : decode cX8_signAt 138 = .ok (.iconst 4, 1) := by decide +kernel
theorem dX8_signAt_139 : decode cX8_signAt 139 = .ok (.goto 4, 3) := by decide +kernel
theorem dX8_signAt_142 : decode cX8_signAt 142 = .ok (.iconst 1, 1) := by decide +kernel
theorem dX8_signAt_143 : decode cX8_signAt 143 = .ok (.ireturn, 1) := by decide +kernel
theorem dX8_signAt_144 : decode cX8_signAt 144 = .ok (.iload_n 3, 1) := by decide +kernel
theorem dX8_signAt_145 : decode cX8_signAt 145 = .ok (.ifCond .eq 7, 3) := by decide +kernel
theorem dX8_signAt_148 : decode cX8_signAt 148 = .ok (.iconst 5, 1) := by decide +kernel
theorem dX8_signAt_149 : decode cX8_signAt 149 = .ok (.goto 4, 3) := by decide +kernel
theorem dX8_signAt_152 : decode cX8_signAt 152 = .ok (.iconst 1, 1) := by decide +kernel
theorem dX8_signAt_153 : decode cX8_signAt 153 = .ok (.ireturn, 1) := by decide +kernel
theorem dX8_signAt_154 : decode cX8_signAt 154 = .ok (.iload_n 3, 1) := by decide +kernel
theorem dX8_signAt_155 : decode cX8_signAt 155 = .ok (.ifCond .eq 8, 3) := by decide +kernel
theorem dX8_signAt_158 : decode cX8_signAt 158 = .ok (.bipush 6, 2) := by decide +kernel
theorem dX8_signAt_160 : decode cX8_signAt 160 = .ok (.goto 4, 3) := by decide +kernel
theorem dX8_signAt_163 : decode cX8_signAt 163 = .ok (.iload_n 2, 1) := by decide +kernel
theorem dX8_signAt_164 : decode cX8_signAt 164 = .ok (.ireturn, 1) := by decide +kernel
theorem dX8_signAt_165 : decode cX8_signAt 165 = .ok (.iconst 1, 1) := by decide +kernel
theorem dX8_signAt_166 : decode cX8_signAt 166 = .ok (.ireturn, 1) := by decide +kernel
theorem dX8_wordOrName_0 : decode cX8_wordOrName 0 = .ok (.iconst 0, 1) := by decide +kernel
theorem dX8_wordOrName_1 : decode cX8_wordOrName 1 = .ok (.istore_n 2, 1) := by decide +kernel
theorem dX8_wordOrName_2 : decode cX8_wordOrName 2 = .ok (.iload_n 2, 1) := by decide +kernel
theorem dX8_wordOrName_3 : decode cX8_wordOrName 3 = .ok (.getstatic 65, 3) := by decide +kernel
theorem dX8_wordOrName_6 : decode cX8_wordOrName 6 = .ok (.arraylength, 1) := by decide +kernel
theorem dX8_wordOrName_7 : decode cX8_wordOrName 7 = .ok (.if_icmp .ge 24, 3) := by decide +kernel
theorem dX8_wordOrName_10 : decode cX8_wordOrName 10 = .ok (.getstatic 65, 3) := by decide +kernel
theorem dX8_wordOrName_13 : decode cX8_wordOrName 13 = .ok (.iload_n 2, 1) := by decide +kernel
theorem dX8_wordOrName_14 : decode cX8_wordOrName 14 = .ok (.laload, 1) := by decide +kernel
theorem dX8_wordOrName_15 : decode cX8_wordOrName 15 = .ok (.lload_n 0, 1) := by decide +kernel
theorem dX8_wordOrName_16 : decode cX8_wordOrName 16 = .ok (.lcmp, 1) := by decide +kernel
theorem dX8_wordOrName_17 : decode cX8_wordOrName 17 = .ok (.ifCond .ne 8, 3) := by decide +kernel
theorem dX8_wordOrName_20 : decode cX8_wordOrName 20 = .ok (.bipush 10, 2) := by decide +kernel
theorem dX8_wordOrName_22 : decode cX8_wordOrName 22 = .ok (.iload_n 2, 1) := by decide +kernel
theorem dX8_wordOrName_23 : decode cX8_wordOrName 23 = .ok (.iadd, 1) := by decide +kernel
theorem dX8_wordOrName_24 : decode cX8_wordOrName 24 = .ok (.ireturn, 1) := by decide +kernel
theorem dX8_wordOrName_25 : decode cX8_wordOrName 25 = .ok (.iinc 2 1, 3) := by decide +kernel
theorem dX8_wordOrName_28 : decode cX8_wordOrName 28 = .ok (.goto (-26), 3) := by decide +kernel
theorem dX8_wordOrName_31 : decode cX8_wordOrName 31 = .ok (.iconst 2, 1) := by decide +kernel
theorem dX8_wordOrName_32 : decode cX8_wordOrName 32 = .ok (.ireturn, 1) := by decide +kernel
theorem dX8_isBlank_0 : decode cX8_isBlank 0 = .ok (.iload_n 0, 1) := by decide +kernel
theorem dX8_isBlank_1 : decode cX8_isBlank 1 = .ok (.bipush 9, 2) := by decide +kernel
theorem dX8_isBlank_3 : decode cX8_isBlank 3 = .ok (.if_icmp .eq 21, 3) := by decide +kernel
theorem dX8_isBlank_6 : decode cX8_isBlank 6 = .ok (.iload_n 0, 1) := by decide +kernel
theorem dX8_isBlank_7 : decode cX8_isBlank 7 = .ok (.bipush 10, 2) := by decide +kernel
theorem dX8_isBlank_9 : decode cX8_isBlank 9 = .ok (.if_icmp .eq 15, 3) := by decide +kernel
theorem dX8_isBlank_12 : decode cX8_isBlank 12 = .ok (.iload_n 0, 1) := by decide +kernel
theorem dX8_isBlank_13 : decode cX8_isBlank 13 = .ok (.bipush 13, 2) := by decide +kernel
theorem dX8_isBlank_15 : decode cX8_isBlank 15 = .ok (.if_icmp .eq 9, 3) := by decide +kernel
theorem dX8_isBlank_18 : decode cX8_isBlank 18 = .ok (.iload_n 0, 1) := by decide +kernel
theorem dX8_isBlank_19 : decode cX8_isBlank 19 = .ok (.bipush 32, 2) := by decide +kernel
theorem dX8_isBlank_21 : decode cX8_isBlank 21 = .ok (.if_icmp .ne 7, 3) := by decide +kernel
theorem dX8_isBlank_24 : decode cX8_isBlank 24 = .ok (.iconst 1, 1) := by decide +kernel
theorem dX8_isBlank_25 : decode cX8_isBlank 25 = .ok (.goto 4, 3) := by decide +kernel
theorem dX8_isBlank_28 : decode cX8_isBlank 28 = .ok (.iconst 0, 1) := by decide +kernel
theorem dX8_isBlank_29 : decode cX8_isBlank 29 = .ok (.ireturn, 1) := by decide +kernel
theorem dX8_isLetter_0 : decode cX8_isLetter 0 = .ok (.iload_n 0, 1) := by decide +kernel
theorem dX8_isLetter_1 : decode cX8_isLetter 1 = .ok (.bipush 97, 2) := by decide +kernel
theorem dX8_isLetter_3 : decode cX8_isLetter 3 = .ok (.if_icmp .lt 13, 3) := by decide +kernel
theorem dX8_isLetter_6 : decode cX8_isLetter 6 = .ok (.iload_n 0, 1) := by decide +kernel
theorem dX8_isLetter_7 : decode cX8_isLetter 7 = .ok (.bipush 122, 2) := by decide +kernel
theorem dX8_isLetter_9 : decode cX8_isLetter 9 = .ok (.if_icmp .gt 7, 3) := by decide +kernel
theorem dX8_isLetter_12 : decode cX8_isLetter 12 = .ok (.iconst 1, 1) := by decide +kernel
theorem dX8_isLetter_13 : decode cX8_isLetter 13 = .ok (.goto 4, 3) := by decide +kernel
theorem dX8_isLetter_16 : decode cX8_isLetter 16 = .ok (.iconst 0, 1) := by decide +kernel
theorem dX8_isLetter_17 : decode cX8_isLetter 17 = .ok (.ireturn, 1) := by decide +kernel
theorem dX8_isDigit_0 : decode cX8_isDigit 0 = .ok (.iload_n 0, 1) := by decide +kernel
theorem dX8_isDigit_1 : decode cX8_isDigit 1 = .ok (.bipush 48, 2) := by decide +kernel
theorem dX8_isDigit_3 : decode cX8_isDigit 3 = .ok (.if_icmp .lt 13, 3) := by decide +kernel
theorem dX8_isDigit_6 : decode cX8_isDigit 6 = .ok (.iload_n 0, 1) := by decide +kernel
theorem dX8_isDigit_7 : decode cX8_isDigit 7 = .ok (.bipush 57, 2) := by decide +kernel
theorem dX8_isDigit_9 : decode cX8_isDigit 9 = .ok (.if_icmp .gt 7, 3) := by decide +kernel
theorem dX8_isDigit_12 : decode cX8_isDigit 12 = .ok (.iconst 1, 1) := by decide +kernel
theorem dX8_isDigit_13 : decode cX8_isDigit 13 = .ok (.goto 4, 3) := by decide +kernel
theorem dX8_isDigit_16 : decode cX8_isDigit 16 = .ok (.iconst 0, 1) := by decide +kernel
theorem dX8_isDigit_17 : decode cX8_isDigit 17 = .ok (.ireturn, 1) := by decide +kernel
theorem dX9_init_0 : decode cX9_init 0 = .ok (.aload_n 0, 1) := by decide +kernel
theorem dX9_init_1 : decode cX9_init 1 = .ok (.invokespecial 3, 3) := by decide +kernel
theorem dX9_init_4 : decode cX9_init 4 = .ok (.aload_n 0, 1) := by decide +kernel
theorem dX9_init_5 : decode cX9_init 5 = .ok (.bipush 12, 2) := by decide +kernel
theorem dX9_init_7 : decode cX9_init 7 = .ok (.newarray .int, 2) := by decide +kernel
theorem dX9_init_9 : decode cX9_init 9 = .ok (.putfield 9, 3) := by decide +kernel
theorem dX9_init_12 : decode cX9_init 12 = .ok (.aload_n 0, 1) := by decide +kernel
theorem dX9_init_13 : decode cX9_init 13 = .ok (.bipush 12, 2) := by decide +kernel
theorem dX9_init_15 : decode cX9_init 15 = .ok (.newarray .boolean, 2) := by decide +kernel
theorem dX9_init_17 : decode cX9_init 17 = .ok (.putfield 15, 3) := by decide +kernel
theorem dX9_init_20 : decode cX9_init 20 = .ok (.aload_n 0, 1) := by decide +kernel
theorem dX9_init_21 : decode cX9_init 21 = .ok (.bipush 12, 2) := by decide +kernel
theorem dX9_init_23 : decode cX9_init 23 = .ok (.newarray .int, 2) := by decide +kernel
theorem dX9_init_25 : decode cX9_init 25 = .ok (.putfield 19, 3) := by decide +kernel
theorem dX9_init_28 : decode cX9_init 28 = .ok (.aload_n 0, 1) := by decide +kernel
theorem dX9_init_29 : decode cX9_init 29 = .ok (.iconst 0, 1) := by decide +kernel
theorem dX9_init_30 : decode cX9_init 30 = .ok (.putfield 22, 3) := by decide +kernel
theorem dX9_init_33 : decode cX9_init 33 = .ok (.aload_n 0, 1) := by decide +kernel
theorem dX9_init_34 : decode cX9_init 34 = .ok (.iconst 0, 1) := by decide +kernel
theorem dX9_init_35 : decode cX9_init 35 = .ok (.putfield 26, 3) := by decide +kernel
theorem dX9_init_38 : decode cX9_init 38 = .ok (.iconst 0, 1) := by decide +kernel
theorem dX9_init_39 : decode cX9_init 39 = .ok (.istore_n 1, 1) := by decide +kernel
theorem dX9_init_40 : decode cX9_init 40 = .ok (.iload_n 1, 1) := by decide +kernel
theorem dX9_init_41 : decode cX9_init 41 = .ok (.bipush 12, 2) := by decide +kernel
theorem dX9_init_43 : decode cX9_init 43 = .ok (.if_icmp .ge 16, 3) := by decide +kernel
theorem dX9_init_46 : decode cX9_init 46 = .ok (.aload_n 0, 1) := by decide +kernel
theorem dX9_init_47 : decode cX9_init 47 = .ok (.getfield 9, 3) := by decide +kernel
theorem dX9_init_50 : decode cX9_init 50 = .ok (.iload_n 1, 1) := by decide +kernel
theorem dX9_init_51 : decode cX9_init 51 = .ok (.iconst (-1), 1) := by decide +kernel
theorem dX9_init_52 : decode cX9_init 52 = .ok (.iastore, 1) := by decide +kernel
theorem dX9_init_53 : decode cX9_init 53 = .ok (.iinc 1 1, 3) := by decide +kernel
theorem dX9_init_56 : decode cX9_init 56 = .ok (.goto (-16), 3) := by decide +kernel
theorem dX9_init_59 : decode cX9_init 59 = .ok (.return_, 1) := by decide +kernel
theorem dX9_begin_0 : decode cX9_begin 0 = .ok (.iconst 0, 1) := by decide +kernel
theorem dX9_begin_1 : decode cX9_begin 1 = .ok (.istore_n 2, 1) := by decide +kernel
theorem dX9_begin_2 : decode cX9_begin 2 = .ok (.iload_n 2, 1) := by decide +kernel
theorem dX9_begin_3 : decode cX9_begin 3 = .ok (.bipush 12, 2) := by decide +kernel
theorem dX9_begin_5 : decode cX9_begin 5 = .ok (.if_icmp .ge 24, 3) := by decide +kernel
theorem dX9_begin_8 : decode cX9_begin 8 = .ok (.iload_n 2, 1) := by decide +kernel
theorem dX9_begin_9 : decode cX9_begin 9 = .ok (.aload_n 1, 1) := by decide +kernel
theorem dX9_begin_10 : decode cX9_begin 10 = .ok (.arraylength, 1) := by decide +kernel
theorem dX9_begin_11 : decode cX9_begin 11 = .ok (.if_icmp .ge 18, 3) := by decide +kernel
theorem dX9_begin_14 : decode cX9_begin 14 = .ok (.aload_n 0, 1) := by decide +kernel
theorem dX9_begin_15 : decode cX9_begin 15 = .ok (.getfield 9, 3) := by decide +kernel
theorem dX9_begin_18 : decode cX9_begin 18 = .ok (.iload_n 2, 1) := by decide +kernel
theorem dX9_begin_19 : decode cX9_begin 19 = .ok (.aload_n 1, 1) := by decide +kernel
theorem dX9_begin_20 : decode cX9_begin 20 = .ok (.iload_n 2, 1) := by decide +kernel
theorem dX9_begin_21 : decode cX9_begin 21 = .ok (.iaload, 1) := by decide +kernel
theorem dX9_begin_22 : decode cX9_begin 22 = .ok (.iastore, 1) := by decide +kernel
theorem dX9_begin_23 : decode cX9_begin 23 = .ok (.iinc 2 1, 3) := by decide +kernel
theorem dX9_begin_26 : decode cX9_begin 26 = .ok (.goto (-24), 3) := by decide +kernel
theorem dX9_begin_29 : decode cX9_begin 29 = .ok (.aload_n 0, 1) := by decide +kernel
theorem dX9_begin_30 : decode cX9_begin 30 = .ok (.iconst 1, 1) := by decide +kernel
theorem dX9_begin_31 : decode cX9_begin 31 = .ok (.putfield 26, 3) := by decide +kernel
theorem dX9_begin_34 : decode cX9_begin 34 = .ok (.return_, 1) := by decide +kernel
theorem dX9_dropOut_0 : decode cX9_dropOut 0 = .ok (.iload_n 1, 1) := by decide +kernel
theorem dX9_dropOut_1 : decode cX9_dropOut 1 = .ok (.ifCond .lt 23, 3) := by decide +kernel
theorem dX9_dropOut_4 : decode cX9_dropOut 4 = .ok (.iload_n 1, 1) := by decide +kernel
theorem dX9_dropOut_5 : decode cX9_dropOut 5 = .ok (.bipush 12, 2) := by decide +kernel
theorem dX9_dropOut_7 : decode cX9_dropOut 7 = .ok (.if_icmp .ge 17, 3) := by decide +kernel
theorem dX9_dropOut_10 : decode cX9_dropOut 10 = .ok (.aload_n 0, 1) := by decide +kernel
theorem dX9_dropOut_11 : decode cX9_dropOut 11 = .ok (.getfield 9, 3) := by decide +kernel
theorem dX9_dropOut_14 : decode cX9_dropOut 14 = .ok (.iload_n 1, 1) := by decide +kernel
theorem dX9_dropOut_15 : decode cX9_dropOut 15 = .ok (.iconst (-1), 1) := by decide +kernel
theorem dX9_dropOut_16 : decode cX9_dropOut 16 = .ok (.iastore, 1) := by decide +kernel
theorem dX9_dropOut_17 : decode cX9_dropOut 17 = .ok (.aload_n 0, 1) := by decide +kernel
theorem dX9_dropOut_18 : decode cX9_dropOut 18 = .ok (.getfield 15, 3) := by decide +kernel
theorem dX9_dropOut_21 : decode cX9_dropOut 21 = .ok (.iload_n 1, 1) := by decide +kernel
theorem dX9_dropOut_22 : decode cX9_dropOut 22 = .ok (.iconst 1, 1) := by decide +kernel
theorem dX9_dropOut_23 : decode cX9_dropOut 23 = .ok (.bastore, 1) := by decide +kernel
theorem dX9_dropOut_24 : decode cX9_dropOut 24 = .ok (.return_, 1) := by decide +kernel
theorem dX9_change_0 : decode cX9_change 0 = .ok (.aload_n 0, 1) := by decide +kernel
theorem dX9_change_1 : decode cX9_change 1 = .ok (.iconst 0, 1) := by decide +kernel
theorem dX9_change_2 : decode cX9_change 2 = .ok (.putfield 22, 3) := by decide +kernel
theorem dX9_change_5 : decode cX9_change 5 = .ok (.iconst 0, 1) := by decide +kernel
theorem dX9_change_6 : decode cX9_change 6 = .ok (.istore_n 2, 1) := by decide +kernel
theorem dX9_change_7 : decode cX9_change 7 = .ok (.iload_n 2, 1) := by decide +kernel
theorem dX9_change_8 : decode cX9_change 8 = .ok (.bipush 12, 2) := by decide +kernel
theorem dX9_change_10 : decode cX9_change 10 = .ok (.if_icmp .ge 66, 3) := by decide +kernel
theorem dX9_change_13 : decode cX9_change 13 = .ok (.iload_n 2, 1) := by decide +kernel
theorem dX9_change_14 : decode cX9_change 14 = .ok (.aload_n 1, 1) := by decide +kernel
theorem dX9_change_15 : decode cX9_change 15 = .ok (.arraylength, 1) := by decide +kernel
theorem dX9_change_16 : decode cX9_change 16 = .ok (.if_icmp .ge 60, 3) := by decide +kernel
theorem dX9_change_19 : decode cX9_change 19 = .ok (.aload_n 0, 1) := by decide +kernel
theorem dX9_change_20 : decode cX9_change 20 = .ok (.getfield 9, 3) := by decide +kernel
theorem dX9_change_23 : decode cX9_change 23 = .ok (.iload_n 2, 1) := by decide +kernel
theorem dX9_change_24 : decode cX9_change 24 = .ok (.iaload, 1) := by decide +kernel
theorem dX9_change_25 : decode cX9_change 25 = .ok (.iconst (-1), 1) := by decide +kernel
theorem dX9_change_26 : decode cX9_change 26 = .ok (.if_icmp .eq 35, 3) := by decide +kernel
theorem dX9_change_29 : decode cX9_change 29 = .ok (.aload_n 0, 1) := by decide +kernel
theorem dX9_change_30 : decode cX9_change 30 = .ok (.getfield 9, 3) := by decide +kernel
theorem dX9_change_33 : decode cX9_change 33 = .ok (.iload_n 2, 1) := by decide +kernel
theorem dX9_change_34 : decode cX9_change 34 = .ok (.iaload, 1) := by decide +kernel
theorem dX9_change_35 : decode cX9_change 35 = .ok (.aload_n 1, 1) := by decide +kernel
theorem dX9_change_36 : decode cX9_change 36 = .ok (.iload_n 2, 1) := by decide +kernel
theorem dX9_change_37 : decode cX9_change 37 = .ok (.iaload, 1) := by decide +kernel
theorem dX9_change_38 : decode cX9_change 38 = .ok (.if_icmp .eq 23, 3) := by decide +kernel
theorem dX9_change_41 : decode cX9_change 41 = .ok (.aload_n 0, 1) := by decide +kernel
theorem dX9_change_42 : decode cX9_change 42 = .ok (.getfield 19, 3) := by decide +kernel
theorem dX9_change_45 : decode cX9_change 45 = .ok (.aload_n 0, 1) := by decide +kernel
theorem dX9_change_46 : decode cX9_change 46 = .ok (.getfield 22, 3) := by decide +kernel
theorem dX9_change_49 : decode cX9_change 49 = .ok (.iload_n 2, 1) := by decide +kernel
theorem dX9_change_50 : decode cX9_change 50 = .ok (.iastore, 1) := by decide +kernel
theorem dX9_change_51 : decode cX9_change 51 = .ok (.aload_n 0, 1) := by decide +kernel
theorem dX9_change_52 : decode cX9_change 52 = .ok (.dup, 1) := by decide +kernel
theorem dX9_change_53 : decode cX9_change 53 = .ok (.getfield 22, 3) := by decide +kernel
theorem dX9_change_56 : decode cX9_change 56 = .ok (.iconst 1, 1) := by decide +kernel
theorem dX9_change_57 : decode cX9_change 57 = .ok (.iadd, 1) := by decide +kernel
theorem dX9_change_58 : decode cX9_change 58 = .ok (.putfield 22, 3) := by decide +kernel
theorem dX9_change_61 : decode cX9_change 61 = .ok (.aload_n 0, 1) := by decide +kernel
theorem dX9_change_62 : decode cX9_change 62 = .ok (.getfield 9, 3) := by decide +kernel
theorem dX9_change_65 : decode cX9_change 65 = .ok (.iload_n 2, 1) := by decide +kernel
theorem dX9_change_66 : decode cX9_change 66 = .ok (.aload_n 1, 1) := by decide +kernel
theorem dX9_change_67 : decode cX9_change 67 = .ok (.iload_n 2, 1) := by decide +kernel
theorem dX9_change_68 : decode cX9_change 68 = .ok (.iaload, 1) := by decide +kernel
theorem dX9_change_69 : decode cX9_change 69 = .ok (.iastore, 1) := by decide +kernel
theorem dX9_change_70 : decode cX9_change 70 = .ok (.iinc 2 1, 3) := by decide +kernel
theorem dX9_change_73 : decode cX9_change 73 = .ok (.goto (-66), 3) := by decide +kernel
theorem dX9_change_76 : decode cX9_change 76 = .ok (.aload_n 0, 1) := by decide +kernel
theorem dX9_change_77 : decode cX9_change 77 = .ok (.getfield 22, 3) := by decide +kernel
theorem dX9_change_80 : decode cX9_change 80 = .ok (.ireturn, 1) := by decide +kernel
theorem dX9_guestOf_0 : decode cX9_guestOf 0 = .ok (.aload_n 0, 1) := by decide +kernel
theorem dX9_guestOf_1 : decode cX9_guestOf 1 = .ok (.getfield 9, 3) := by decide +kernel
theorem dX9_guestOf_4 : decode cX9_guestOf 4 = .ok (.iload_n 1, 1) := by decide +kernel
theorem dX9_guestOf_5 : decode cX9_guestOf 5 = .ok (.invokestatic 30, 3) := by decide +kernel
theorem dX9_guestOf_8 : decode cX9_guestOf 8 = .ok (.ireturn, 1) := by decide +kernel
theorem dX9_clear_0 : decode cX9_clear 0 = .ok (.iconst 0, 1) := by decide +kernel
theorem dX9_clear_1 : decode cX9_clear 1 = .ok (.istore_n 1, 1) := by decide +kernel
theorem dX9_clear_2 : decode cX9_clear 2 = .ok (.iload_n 1, 1) := by decide +kernel
theorem dX9_clear_3 : decode cX9_clear 3 = .ok (.bipush 12, 2) := by decide +kernel
theorem dX9_clear_5 : decode cX9_clear 5 = .ok (.if_icmp .ge 23, 3) := by decide +kernel
theorem dX9_clear_8 : decode cX9_clear 8 = .ok (.aload_n 0, 1) := by decide +kernel
theorem dX9_clear_9 : decode cX9_clear 9 = .ok (.getfield 9, 3) := by decide +kernel
theorem dX9_clear_12 : decode cX9_clear 12 = .ok (.iload_n 1, 1) := by decide +kernel
theorem dX9_clear_13 : decode cX9_clear 13 = .ok (.iconst (-1), 1) := by decide +kernel
theorem dX9_clear_14 : decode cX9_clear 14 = .ok (.iastore, 1) := by decide +kernel
theorem dX9_clear_15 : decode cX9_clear 15 = .ok (.aload_n 0, 1) := by decide +kernel
theorem dX9_clear_16 : decode cX9_clear 16 = .ok (.getfield 15, 3) := by decide +kernel
theorem dX9_clear_19 : decode cX9_clear 19 = .ok (.iload_n 1, 1) := by decide +kernel
theorem dX9_clear_20 : decode cX9_clear 20 = .ok (.iconst 0, 1) := by decide +kernel
theorem dX9_clear_21 : decode cX9_clear 21 = .ok (.bastore, 1) := by decide +kernel
theorem dX9_clear_22 : decode cX9_clear 22 = .ok (.iinc 1 1, 3) := by decide +kernel
theorem dX9_clear_25 : decode cX9_clear 25 = .ok (.goto (-23), 3) := by decide +kernel
theorem dX9_clear_28 : decode cX9_clear 28 = .ok (.aload_n 0, 1) := by decide +kernel
theorem dX9_clear_29 : decode cX9_clear 29 = .ok (.iconst 0, 1) := by decide +kernel
theorem dX9_clear_30 : decode cX9_clear 30 = .ok (.putfield 22, 3) := by decide +kernel
theorem dX9_clear_33 : decode cX9_clear 33 = .ok (.aload_n 0, 1) := by decide +kernel
theorem dX9_clear_34 : decode cX9_clear 34 = .ok (.iconst 0, 1) := by decide +kernel
theorem dX9_clear_35 : decode cX9_clear 35 = .ok (.putfield 26, 3) := by decide +kernel
theorem dX9_clear_38 : decode cX9_clear 38 = .ok (.return_, 1) := by decide +kernel
