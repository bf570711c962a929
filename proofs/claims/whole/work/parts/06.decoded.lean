theorem dX11_fits_20 : decode cX11_fits 20 = .ok (.iload_n 0, 1) := by decide +kernel
theorem dX11_fits_21 : decode cX11_fits 21 = .ok (.iconst 4, 1) := by decide +kernel
theorem dX11_fits_22 : decode cX11_fits 22 = .ok (.if_icmp .ne 8, 3) := by decide +kernel
theorem dX11_fits_25 : decode cX11_fits 25 = .ok (.iload_n 1, 1) := by decide +kernel
theorem dX11_fits_26 : decode cX11_fits 26 = .ok (.invokestatic 258, 3) := by decide +kernel
theorem dX11_fits_29 : decode cX11_fits 29 = .ok (.ireturn, 1) := by decide +kernel
theorem dX11_fits_30 : decode cX11_fits 30 = .ok (.iload_n 0, 1) := by decide +kernel
theorem dX11_fits_31 : decode cX11_fits 31 = .ok (.iconst 5, 1) := by decide +kernel
theorem dX11_fits_32 : decode cX11_fits 32 = .ok (.if_icmp .ne 20, 3) := by decide +kernel
theorem dX11_fits_35 : decode cX11_fits 35 = .ok (.iload_n 1, 1) := by decide +kernel
theorem dX11_fits_36 : decode cX11_fits 36 = .ok (.ifCond .lt 14, 3) := by decide +kernel
theorem dX11_fits_39 : decode cX11_fits 39 = .ok (.iload_n 1, 1) := by decide +kernel
theorem dX11_fits_40 : decode cX11_fits 40 = .ok (.sipush 1000, 3) := by decide +kernel
theorem dX11_fits_43 : decode cX11_fits 43 = .ok (.if_icmp .gt 7, 3) := by decide +kernel
theorem dX11_fits_46 : decode cX11_fits 46 = .ok (.iconst 1, 1) := by decide +kernel
theorem dX11_fits_47 : decode cX11_fits 47 = .ok (.goto 4, 3) := by decide +kernel
theorem dX11_fits_50 : decode cX11_fits 50 = .ok (.iconst 0, 1) := by decide +kernel
theorem dX11_fits_51 : decode cX11_fits 51 = .ok (.ireturn, 1) := by decide +kernel
theorem dX11_fits_52 : decode cX11_fits 52 = .ok (.iload_n 0, 1) := by decide +kernel
theorem dX11_fits_53 : decode cX11_fits 53 = .ok (.bipush 20, 2) := by decide +kernel
theorem dX11_fits_55 : decode cX11_fits 55 = .ok (.if_icmp .ge 25, 3) := by decide +kernel
theorem dX11_fits_58 : decode cX11_fits 58 = .ok (.iload_n 1, 1) := by decide +kernel
theorem dX11_fits_59 : decode cX11_fits 59 = .ok (.sipush (-999), 3) := by decide +kernel
theorem dX11_fits_62 : decode cX11_fits 62 = .ok (.if_icmp .lt 14, 3) := by decide +kernel
theorem dX11_fits_65 : decode cX11_fits 65 = .ok (.iload_n 1, 1) := by decide +kernel
theorem dX11_fits_66 : decode cX11_fits 66 = .ok (.sipush 999, 3) := by decide +kernel
theorem dX11_fits_69 : decode cX11_fits 69 = .ok (.if_icmp .gt 7, 3) := by decide +kernel
theorem dX11_fits_72 : decode cX11_fits 72 = .ok (.iconst 1, 1) := by decide +kernel
theorem dX11_fits_73 : decode cX11_fits 73 = .ok (.goto 22, 3) := by decide +kernel
theorem dX11_fits_76 : decode cX11_fits 76 = .ok (.iconst 0, 1) := by decide +kernel
theorem dX11_fits_77 : decode cX11_fits 77 = .ok (.goto 18, 3) := by decide +kernel
theorem dX11_fits_80 : decode cX11_fits 80 = .ok (.iload_n 1, 1) := by decide +kernel
theorem dX11_fits_81 : decode cX11_fits 81 = .ok (.ifCond .lt 13, 3) := by decide +kernel
theorem dX11_fits_84 : decode cX11_fits 84 = .ok (.iload_n 1, 1) := by decide +kernel
theorem dX11_fits_85 : decode cX11_fits 85 = .ok (.bipush 9, 2) := by decide +kernel
theorem dX11_fits_87 : decode cX11_fits 87 = .ok (.if_icmp .gt 7, 3) := by decide +kernel
theorem dX11_fits_90 : decode cX11_fits 90 = .ok (.iconst 1, 1) := by decide +kernel
theorem dX11_fits_91 : decode cX11_fits 91 = .ok (.goto 4, 3) := by decide +kernel
theorem dX11_fits_94 : decode cX11_fits 94 = .ok (.iconst 0, 1) := by decide +kernel
theorem dX11_fits_95 : decode cX11_fits 95 = .ok (.ireturn, 1) := by decide +kernel
theorem dX11_tell_0 : decode cX11_tell 0 = .ok (.aload_n 0, 1) := by decide +kernel
theorem dX11_tell_1 : decode cX11_tell 1 = .ok (.getfield 267, 3) := by decide +kernel
theorem dX11_tell_4 : decode cX11_tell 4 = .ok (.sipush 400, 3) := by decide +kernel
theorem dX11_tell_7 : decode cX11_tell 7 = .ok (.if_icmp .eq 27, 3) := by decide +kernel
theorem dX11_tell_10 : decode cX11_tell 10 = .ok (.aload_n 0, 1) := by decide +kernel
theorem dX11_tell_11 : decode cX11_tell 11 = .ok (.iload_n 1, 1) := by decide +kernel
theorem dX11_tell_12 : decode cX11_tell 12 = .ok (.invokevirtual 264, 3) := by decide +kernel
theorem dX11_tell_15 : decode cX11_tell 15 = .ok (.ifCond .eq 19, 3) := by decide +kernel
theorem dX11_tell_18 : decode cX11_tell 18 = .ok (.aload_n 0, 1) := by decide +kernel
theorem dX11_tell_19 : decode cX11_tell 19 = .ok (.iload_n 2, 1) := by decide +kernel
theorem dX11_tell_20 : decode cX11_tell 20 = .ok (.invokevirtual 270, 3) := by decide +kernel
theorem dX11_tell_23 : decode cX11_tell 23 = .ok (.ifCond .eq 11, 3) := by decide +kernel
theorem dX11_tell_26 : decode cX11_tell 26 = .ok (.iload_n 2, 1) := by decide +kernel
theorem dX11_tell_27 : decode cX11_tell 27 = .ok (.iload_n 3, 1) := by decide +kernel
theorem dX11_tell_28 : decode cX11_tell 28 = .ok (.invokestatic 273, 3) := by decide +kernel
theorem dX11_tell_31 : decode cX11_tell 31 = .ok (.ifCond .ne 5, 3) := by decide +kernel
theorem dX11_tell_34 : decode cX11_tell 34 = .ok (.iconst (-1), 1) := by decide +kernel
theorem dX11_tell_35 : decode cX11_tell 35 = .ok (.ireturn, 1) := by decide +kernel
theorem dX11_tell_36 : decode cX11_tell 36 = .ok (.aload_n 0, 1) := by decide +kernel
theorem dX11_tell_37 : decode cX11_tell 37 = .ok (.getfield 50, 3) := by decide +kernel
theorem dX11_tell_40 : decode cX11_tell 40 = .ok (.aload_n 0, 1) := by decide +kernel
theorem dX11_tell_41 : decode cX11_tell 41 = .ok (.getfield 267, 3) := by decide +kernel
theorem dX11_tell_44 : decode cX11_tell 44 = .ok (.iload_n 1, 1) := by decide +kernel
theorem dX11_tell_45 : decode cX11_tell 45 = .ok (.iastore, 1) := by decide +kernel
theorem dX11_tell_46 : decode cX11_tell 46 = .ok (.aload_n 0, 1) := by decide +kernel
theorem dX11_tell_47 : decode cX11_tell 47 = .ok (.getfield 53, 3) := by decide +kernel
theorem dX11_tell_50 : decode cX11_tell 50 = .ok (.aload_n 0, 1) := by decide +kernel
theorem dX11_tell_51 : decode cX11_tell 51 = .ok (.getfield 267, 3) := by decide +kernel
theorem dX11_tell_54 : decode cX11_tell 54 = .ok (.iload_n 2, 1) := by decide +kernel
theorem dX11_tell_55 : decode cX11_tell 55 = .ok (.iastore, 1) := by decide +kernel
theorem dX11_tell_56 : decode cX11_tell 56 = .ok (.aload_n 0, 1) := by decide +kernel
theorem dX11_tell_57 : decode cX11_tell 57 = .ok (.getfield 56, 3) := by decide +kernel
theorem dX11_tell_60 : decode cX11_tell 60 = .ok (.aload_n 0, 1) := by decide +kernel
theorem dX11_tell_61 : decode cX11_tell 61 = .ok (.getfield 267, 3) := by decide +kernel
theorem dX11_tell_64 : decode cX11_tell 64 = .ok (.iload_n 3, 1) := by decide +kernel
theorem dX11_tell_65 : decode cX11_tell 65 = .ok (.iastore, 1) := by decide +kernel
theorem dX11_tell_66 : decode cX11_tell 66 = .ok (.aload_n 0, 1) := by decide +kernel
theorem dX11_tell_67 : decode cX11_tell 67 = .ok (.getfield 59, 3) := by decide +kernel
theorem dX11_tell_70 : decode cX11_tell 70 = .ok (.aload_n 0, 1) := by decide +kernel
theorem dX11_tell_71 : decode cX11_tell 71 = .ok (.getfield 267, 3) := by decide +kernel
theorem dX11_tell_74 : decode cX11_tell 74 = .ok (.aload_n 0, 1) := by decide +kernel
theorem dX11_tell_75 : decode cX11_tell 75 = .ok (.getfield 255, 3) := by decide +kernel
theorem dX11_tell_78 : decode cX11_tell 78 = .ok (.iastore, 1) := by decide +kernel
theorem dX11_tell_79 : decode cX11_tell 79 = .ok (.aload_n 0, 1) := by decide +kernel
theorem dX11_tell_80 : decode cX11_tell 80 = .ok (.dup, 1) := by decide +kernel
theorem dX11_tell_81 : decode cX11_tell 81 = .ok (.getfield 267, 3) := by decide +kernel
theorem dX11_tell_84 : decode cX11_tell 84 = .ok (.iconst 1, 1) := by decide +kernel
theorem dX11_tell_85 : decode cX11_tell 85 = .ok (.iadd, 1) := by decide +kernel
theorem dX11_tell_86 : decode cX11_tell 86 = .ok (.putfield 267, 3) := by decide +kernel
theorem dX11_tell_89 : decode cX11_tell 89 = .ok (.aload_n 0, 1) := by decide +kernel
theorem dX11_tell_90 : decode cX11_tell 90 = .ok (.getfield 267, 3) := by decide +kernel
theorem dX11_tell_93 : decode cX11_tell 93 = .ok (.iconst 1, 1) := by decide +kernel
theorem dX11_tell_94 : decode cX11_tell 94 = .ok (.isub, 1) := by decide +kernel
theorem dX11_tell_95 : decode cX11_tell 95 = .ok (.ireturn, 1) := by decide +kernel
theorem dX11_latest_0 : decode cX11_latest 0 = .ok (.aload_n 0, 1) := by decide +kernel
theorem dX11_latest_1 : decode cX11_latest 1 = .ok (.getfield 267, 3) := by decide +kernel
theorem dX11_latest_4 : decode cX11_latest 4 = .ok (.iconst 1, 1) := by decide +kernel
theorem dX11_latest_5 : decode cX11_latest 5 = .ok (.isub, 1) := by decide +kernel
theorem dX11_latest_6 : decode cX11_latest 6 = .ok (.istore 4, 2) := by decide +kernel
theorem dX11_latest_8 : decode cX11_latest 8 = .ok (.iload 4, 2) := by decide +kernel
theorem dX11_latest_10 : decode cX11_latest 10 = .ok (.ifCond .lt 50, 3) := by decide +kernel
theorem dX11_latest_13 : decode cX11_latest 13 = .ok (.aload_n 0, 1) := by decide +kernel
theorem dX11_latest_14 : decode cX11_latest 14 = .ok (.getfield 50, 3) := by decide +kernel
theorem dX11_latest_17 : decode cX11_latest 17 = .ok (.iload 4, 2) := by decide +kernel
theorem dX11_latest_19 : decode cX11_latest 19 = .ok (.iaload, 1) := by decide +kernel
theorem dX11_latest_20 : decode cX11_latest 20 = .ok (.iload_n 1, 1) := by decide +kernel
theorem dX11_latest_21 : decode cX11_latest 21 = .ok (.if_icmp .ne 33, 3) := by decide +kernel
theorem dX11_latest_24 : decode cX11_latest 24 = .ok (.aload_n 0, 1) := by decide +kernel
theorem dX11_latest_25 : decode cX11_latest 25 = .ok (.getfield 53, 3) := by decide +kernel
theorem dX11_latest_28 : decode cX11_latest 28 = .ok (.iload 4, 2) := by decide +kernel
theorem dX11_latest_30 : decode cX11_latest 30 = .ok (.iaload, 1) := by decide +kernel
theorem dX11_latest_31 : decode cX11_latest 31 = .ok (.iload_n 2, 1) := by decide +kernel
theorem dX11_latest_32 : decode cX11_latest 32 = .ok (.if_icmp .ne 22, 3) := by decide +kernel
theorem dX11_latest_35 : decode cX11_latest 35 = .ok (.aload_n 0, 1) := by decide +kernel
theorem dX11_latest_36 : decode cX11_latest 36 = .ok (.getfield 59, 3) := by decide +kernel
theorem dX11_latest_39 : decode cX11_latest 39 = .ok (.iload 4, 2) := by decide +kernel
theorem dX11_latest_41 : decode cX11_latest 41 = .ok (.iaload, 1) := by decide +kernel
theorem dX11_latest_42 : decode cX11_latest 42 = .ok (.iload_n 3, 1) := by decide +kernel
theorem dX11_latest_43 : decode cX11_latest 43 = .ok (.if_icmp .gt 11, 3) := by decide +kernel
theorem dX11_latest_46 : decode cX11_latest 46 = .ok (.aload_n 0, 1) := by decide +kernel
theorem dX11_latest_47 : decode cX11_latest 47 = .ok (.getfield 56, 3) := by decide +kernel
theorem dX11_latest_50 : decode cX11_latest 50 = .ok (.iload 4, 2) := by decide +kernel
theorem dX11_latest_52 : decode cX11_latest 52 = .ok (.iaload, 1) := by decide +kernel
theorem dX11_latest_53 : decode cX11_latest 53 = .ok (.ireturn, 1) := by decide +kernel
theorem dX11_latest_54 : decode cX11_latest 54 = .ok (.iinc 4 (-1), 3) := by decide +kernel
theorem dX11_latest_57 : decode cX11_latest 57 = .ok (.goto (-49), 3) := by decide +kernel
theorem dX11_latest_60 : decode cX11_latest 60 = .ok (.iconst 0, 1) := by decide +kernel
theorem dX11_latest_61 : decode cX11_latest 61 = .ok (.ireturn, 1) := by decide +kernel
theorem dX11_known_0 : decode cX11_known 0 = .ok (.aload_n 0, 1) := by decide +kernel
theorem dX11_known_1 : decode cX11_known 1 = .ok (.iload_n 1, 1) := by decide +kernel
theorem dX11_known_2 : decode cX11_known 2 = .ok (.invokevirtual 264, 3) := by decide +kernel
theorem dX11_known_5 : decode cX11_known 5 = .ok (.ifCond .eq 28, 3) := by decide +kernel
theorem dX11_known_8 : decode cX11_known 8 = .ok (.aload_n 0, 1) := by decide +kernel
theorem dX11_known_9 : decode cX11_known 9 = .ok (.iload_n 2, 1) := by decide +kernel
theorem dX11_known_10 : decode cX11_known 10 = .ok (.invokevirtual 270, 3) := by decide +kernel
theorem dX11_known_13 : decode cX11_known 13 = .ok (.ifCond .eq 20, 3) := by decide +kernel
theorem dX11_known_16 : decode cX11_known 16 = .ok (.iload_n 3, 1) := by decide +kernel
theorem dX11_known_17 : decode cX11_known 17 = .ok (.invokestatic 258, 3) := by decide +kernel
theorem dX11_known_20 : decode cX11_known 20 = .ok (.ifCond .eq 13, 3) := by decide +kernel
theorem dX11_known_23 : decode cX11_known 23 = .ok (.aload_n 0, 1) := by decide +kernel
theorem dX11_known_24 : decode cX11_known 24 = .ok (.iload_n 1, 1) := by decide +kernel
theorem dX11_known_25 : decode cX11_known 25 = .ok (.iload_n 2, 1) := by decide +kernel
theorem dX11_known_26 : decode cX11_known 26 = .ok (.iload_n 3, 1) := by decide +kernel
theorem dX11_known_27 : decode cX11_known 27 = .ok (.invokevirtual 276, 3) := by decide +kernel
theorem dX11_known_30 : decode cX11_known 30 = .ok (.goto 4, 3) := by decide +kernel
theorem dX11_known_33 : decode cX11_known 33 = .ok (.iconst 0, 1) := by decide +kernel
theorem dX11_known_34 : decode cX11_known 34 = .ok (.ireturn, 1) := by decide +kernel
theorem dX11_learn_0 : decode cX11_learn 0 = .ok (.iconst 0, 1) := by decide +kernel
theorem dX11_learn_1 : decode cX11_learn 1 = .ok (.istore_n 2, 1) := by decide +kernel
theorem dX11_learn_2 : decode cX11_learn 2 = .ok (.iload_n 2, 1) := by decide +kernel
theorem dX11_learn_3 : decode cX11_learn 3 = .ok (.sipush 384, 3) := by decide +kernel
theorem dX11_learn_6 : decode cX11_learn 6 = .ok (.if_icmp .ge 16, 3) := by decide +kernel
theorem dX11_learn_9 : decode cX11_learn 9 = .ok (.aload_n 0, 1) := by decide +kernel
theorem dX11_learn_10 : decode cX11_learn 10 = .ok (.getfield 89, 3) := by decide +kernel
theorem dX11_learn_13 : decode cX11_learn 13 = .ok (.iload_n 2, 1) := by decide +kernel
theorem dX11_learn_14 : decode cX11_learn 14 = .ok (.iconst 0, 1) := by decide +kernel
theorem dX11_learn_15 : decode cX11_learn 15 = .ok (.iastore, 1) := by decide +kernel
theorem dX11_learn_16 : decode cX11_learn 16 = .ok (.iinc 2 1, 3) := by decide +kernel
theorem dX11_learn_19 : decode cX11_learn 19 = .ok (.goto (-17), 3) := by decide +kernel
theorem dX11_learn_22 : decode cX11_learn 22 = .ok (.iconst 0, 1) := by decide +kernel
theorem dX11_learn_23 : decode cX11_learn 23 = .ok (.istore_n 2, 1) := by decide +kernel
theorem dX11_learn_24 : decode cX11_learn 24 = .ok (.iload_n 2, 1) := by decide +kernel
theorem dX11_learn_25 : decode cX11_learn 25 = .ok (.aload_n 0, 1) := by decide +kernel
theorem dX11_learn_26 : decode cX11_learn 26 = .ok (.getfield 267, 3) := by decide +kernel
theorem dX11_learn_29 : decode cX11_learn 29 = .ok (.if_icmp .ge 46, 3) := by decide +kernel
theorem dX11_learn_32 : decode cX11_learn 32 = .ok (.aload_n 0, 1) := by decide +kernel
theorem dX11_learn_33 : decode cX11_learn 33 = .ok (.getfield 59, 3) := by decide +kernel
theorem dX11_learn_36 : decode cX11_learn 36 = .ok (.iload_n 2, 1) := by decide +kernel
theorem dX11_learn_37 : decode cX11_learn 37 = .ok (.iaload, 1) := by decide +kernel
theorem dX11_learn_38 : decode cX11_learn 38 = .ok (.iload_n 1, 1) := by decide +kernel
theorem dX11_learn_39 : decode cX11_learn 39 = .ok (.if_icmp .gt 30, 3) := by decide +kernel
theorem dX11_learn_42 : decode cX11_learn 42 = .ok (.aload_n 0, 1) := by decide +kernel
theorem dX11_learn_43 : decode cX11_learn 43 = .ok (.getfield 89, 3) := by decide +kernel
theorem dX11_learn_46 : decode cX11_learn 46 = .ok (.bipush 32, 2) := by decide +kernel
theorem dX11_learn_48 : decode cX11_learn 48 = .ok (.aload_n 0, 1) := by decide +kernel
theorem dX11_learn_49 : decode cX11_learn 49 = .ok (.getfield 50, 3) := by decide +kernel
theorem dX11_learn_52 : decode cX11_learn 52 = .ok (.iload_n 2, 1) := by decide +kernel
theorem dX11_learn_53 : decode cX11_learn 53 = .ok (.iaload, 1) := by decide +kernel
theorem dX11_learn_54 : decode cX11_learn 54 = .ok (.imul, 1) := by decide +kernel
theorem dX11_learn_55 : decode cX11_learn 55 = .ok (.aload_n 0, 1) := by decide +kernel
theorem dX11_learn_56 : decode cX11_learn 56 = .ok (.getfield 53, 3) := by decide +kernel
theorem dX11_learn_59 : decode cX11_learn 59 = .ok (.iload_n 2, 1) := by decide +kernel
theorem dX11_learn_60 : decode cX11_learn 60 = .ok (.iaload, 1) := by decide +kernel
theorem dX11_learn_61 : decode cX11_learn 61 = .ok (.iadd, 1) := by decide +kernel
theorem dX11_learn_62 : decode cX11_learn 62 = .ok (.aload_n 0, 1) := by decide +kernel
theorem dX11_learn_63 : decode cX11_learn 63 = .ok (.getfield 56, 3) := by decide +kernel
theorem dX11_learn_66 : decode cX11_learn 66 = .ok (.iload_n 2, 1) := by decide +kernel
theorem dX11_learn_67 : decode cX11_learn 67 = .ok (.iaload, 1) := by decide +kernel
theorem dX11_learn_68 : decode cX11_learn 68 = .ok (.iastore, 1) := by decide +kernel
theorem dX11_learn_69 : decode cX11_learn 69 = .ok (.iinc 2 1, 3) := by decide +kernel
theorem dX11_learn_72 : decode cX11_learn 72 = .ok (.goto (-48), 3) := by decide +kernel
theorem dX11_learn_75 : decode cX11_learn 75 = .ok (.return_, 1) := by decide +kernel
theorem dX11_worked_0 : decode cX11_worked 0 = .ok (.iconst 0, 1) := by decide +kernel
theorem dX11_worked_1 : decode cX11_worked 1 = .ok (.istore 6, 2) := by decide +kernel
theorem dX11_worked_3 : decode cX11_worked 3 = .ok (.iload_n 1, 1) := by decide +kernel
theorem dX11_worked_4 : decode cX11_worked 4 = .ok (.sipush 1300, 3) := by decide +kernel
theorem dX11_worked_7 : decode cX11_worked 7 = .ok (.imul, 1) := by decide +kernel
theorem dX11_worked_8 : decode cX11_worked 8 = .ok (.iload_n 2, 1) := by decide +kernel
theorem dX11_worked_9 : decode cX11_worked 9 = .ok (.iadd, 1) := by decide +kernel
theorem dX11_worked_10 : decode cX11_worked 10 = .ok (.istore 7, 2) := by decide +kernel
theorem dX11_worked_12 : decode cX11_worked 12 = .ok (.iload 7, 2) := by decide +kernel
theorem dX11_worked_14 : decode cX11_worked 14 = .ok (.iload_n 1, 1) := by decide +kernel
theorem dX11_worked_15 : decode cX11_worked 15 = .ok (.sipush 1300, 3) := by decide +kernel
theorem dX11_worked_18 : decode cX11_worked 18 = .ok (.imul, 1) := by decide +kernel
theorem dX11_worked_19 : decode cX11_worked 19 = .ok (.iload_n 3, 1) := by decide +kernel
theorem dX11_worked_20 : decode cX11_worked 20 = .ok (.iadd, 1) := by decide +kernel
theorem dX11_worked_21 : decode cX11_worked 21 = .ok (.if_icmp .ge 192, 3) := by decide +kernel
theorem dX11_worked_24 : decode cX11_worked 24 = .ok (.aload_n 0, 1) := by decide +kernel
theorem dX11_worked_25 : decode cX11_worked 25 = .ok (.getfield 17, 3) := by decide +kernel
theorem dX11_worked_28 : decode cX11_worked 28 = .ok (.iload 7, 2) := by decide +kernel
theorem dX11_worked_30 : decode cX11_worked 30 = .ok (.iaload, 1) := by decide +kernel
theorem dX11_worked_31 : decode cX11_worked 31 = .ok (.istore 8, 2) := by decide +kernel
theorem dX11_worked_33 : decode cX11_worked 33 = .ok (.iload 8, 2) := by decide +kernel
theorem dX11_worked_35 : decode cX11_worked 35 = .ok (.ifCond .ne 23, 3) := by decide +kernel
theorem dX11_worked_38 : decode cX11_worked 38 = .ok (.aload_n 0, 1) := by decide +kernel
theorem dX11_worked_39 : decode cX11_worked 39 = .ok (.getfield 92, 3) := by decide +kernel
theorem dX11_worked_42 : decode cX11_worked 42 = .ok (.iload 6, 2) := by decide +kernel
theorem dX11_worked_44 : decode cX11_worked 44 = .ok (.aload_n 0, 1) := by decide +kernel
theorem dX11_worked_45 : decode cX11_worked 45 = .ok (.getfield 21, 3) := by decide +kernel
theorem dX11_worked_48 : decode cX11_worked 48 = .ok (.iload 7, 2) := by decide +kernel
theorem dX11_worked_50 : decode cX11_worked 50 = .ok (.iaload, 1) := by decide +kernel
theorem dX11_worked_51 : decode cX11_worked 51 = .ok (.iastore, 1) := by decide +kernel
theorem dX11_worked_52 : decode cX11_worked 52 = .ok (.iinc 6 1, 3) := by decide +kernel
theorem dX11_worked_55 : decode cX11_worked 55 = .ok (.goto 152, 3) := by decide +kernel
theorem dX11_worked_58 : decode cX11_worked 58 = .ok (.iload 8, 2) := by decide +kernel
theorem dX11_worked_60 : decode cX11_worked 60 = .ok (.iconst 1, 1) := by decide +kernel
theorem dX11_worked_61 : decode cX11_worked 61 = .ok (.if_icmp .eq 9, 3) := by decide +kernel
theorem dX11_worked_64 : decode cX11_worked 64 = .ok (.iload 8, 2) := by decide +kernel
theorem dX11_worked_66 : decode cX11_worked 66 = .ok (.iconst 2, 1) := by decide +kernel
theorem dX11_worked_67 : decode cX11_worked 67 = .ok (.if_icmp .ne 48, 3) := by decide +kernel
theorem dX11_worked_70 : decode cX11_worked 70 = .ok (.aload_n 0, 1) := by decide +kernel
theorem dX11_worked_71 : decode cX11_worked 71 = .ok (.getfield 92, 3) := by decide +kernel
theorem dX11_worked_74 : decode cX11_worked 74 = .ok (.iload 6, 2) := by decide +kernel
theorem dX11_worked_76 : decode cX11_worked 76 = .ok (.aload_n 0, 1) := by decide +kernel
theorem dX11_worked_77 : decode cX11_worked 77 = .ok (.getfield 89, 3) := by decide +kernel
theorem dX11_worked_80 : decode cX11_worked 80 = .ok (.bipush 32, 2) := by decide +kernel
theorem dX11_worked_82 : decode cX11_worked 82 = .ok (.iload 8, 2) := by decide +kernel
theorem dX11_worked_84 : decode cX11_worked 84 = .ok (.iconst 1, 1) := by decide +kernel
theorem dX11_worked_85 : decode cX11_worked 85 = .ok (.if_icmp .ne 8, 3) := by decide +kernel
theorem dX11_worked_88 : decode cX11_worked 88 = .ok (.iload 4, 2) := by decide +kernel
theorem dX11_worked_90 : decode cX11_worked 90 = .ok (.goto 5, 3) := by decide +kernel
theorem dX11_worked_93 : decode cX11_worked 93 = .ok (.iload 5, 2) := by decide +kernel
theorem dX11_worked_95 : decode cX11_worked 95 = .ok (.imul, 1) := by decide +kernel
theorem dX11_worked_96 : decode cX11_worked 96 = .ok (.bipush 10, 2) := by decide +kernel
theorem dX11_worked_98 : decode cX11_worked 98 = .ok (.iadd, 1) := by decide +kernel
theorem dX11_worked_99 : decode cX11_worked 99 = .ok (.aload_n 0, 1) := by decide +kernel
theorem dX11_worked_100 : decode cX11_worked 100 = .ok (.getfield 21, 3) := by decide +kernel
theorem dX11_worked_103 : decode cX11_worked 103 = .ok (.iload 7, 2) := by decide +kernel
theorem dX11_worked_105 : decode cX11_worked 105 = .ok (.iaload, 1) := by decide +kernel
theorem dX11_worked_106 : decode cX11_worked 106 = .ok (.iadd, 1) := by decide +kernel
theorem dX11_worked_107 : decode cX11_worked 107 = .ok (.iaload, 1) := by decide +kernel
theorem dX11_worked_108 : decode cX11_worked 108 = .ok (.iastore, 1) := by decide +kernel
theorem dX11_worked_109 : decode cX11_worked 109 = .ok (.iinc 6 1, 3) := by decide +kernel
theorem dX11_worked_112 : decode cX11_worked 112 = .ok (.goto 95, 3) := by decide +kernel
theorem dX11_worked_115 : decode cX11_worked 115 = .ok (.iload 8, 2) := by decide +kernel
theorem dX11_worked_117 : decode cX11_worked 117 = .ok (.bipush 6, 2) := by decide +kernel
theorem dX11_worked_119 : decode cX11_worked 119 = .ok (.if_icmp .ne 25, 3) := by decide +kernel
theorem dX11_worked_122 : decode cX11_worked 122 = .ok (.aload_n 0, 1) := by decide +kernel
theorem dX11_worked_123 : decode cX11_worked 123 = .ok (.getfield 92, 3) := by decide +kernel
theorem dX11_worked_126 : decode cX11_worked 126 = .ok (.iload 6, 2) := by decide +kernel
theorem dX11_worked_128 : decode cX11_worked 128 = .ok (.iconst 1, 1) := by decide +kernel
theorem dX11_worked_129 : decode cX11_worked 129 = .ok (.isub, 1) := by decide +kernel
theorem dX11_worked_130 : decode cX11_worked 130 = .ok (.aload_n 0, 1) := by decide +kernel
theorem dX11_worked_131 : decode cX11_worked 131 = .ok (.getfield 92, 3) := by decide +kernel
theorem dX11_worked_134 : decode cX11_worked 134 = .ok (.iload 6, 2) := by decide +kernel
theorem dX11_worked_136 : decode cX11_worked 136 = .ok (.iconst 1, 1) := by decide +kernel
theorem dX11_worked_137 : decode cX11_worked 137 = .ok (.isub, 1) := by decide +kernel
theorem dX11_worked_138 : decode cX11_worked 138 = .ok (.iaload, 1) := by decide +kernel
theorem dX11_worked_139 : decode cX11_worked 139 = .ok (.ineg, 1) := by decide +kernel
theorem dX11_worked_140 : decode cX11_worked 140 = .ok (.iastore, 1) := by decide +kernel
theorem dX11_worked_141 : decode cX11_worked 141 = .ok (.goto 66, 3) := by decide +kernel
theorem dX11_worked_144 : decode cX11_worked 144 = .ok (.iload 8, 2) := by decide +kernel
theorem dX11_worked_146 : decode cX11_worked 146 = .ok (.bipush 13, 2) := by decide +kernel
theorem dX11_worked_148 : decode cX11_worked 148 = .ok (.if_icmp .ne 26, 3) := by decide +kernel
theorem dX11_worked_151 : decode cX11_worked 151 = .ok (.aload_n 0, 1) := by decide +kernel
theorem dX11_worked_152 : decode cX11_worked 152 = .ok (.getfield 92, 3) := by decide +kernel
theorem dX11_worked_155 : decode cX11_worked 155 = .ok (.iload 6, 2) := by decide +kernel
theorem dX11_worked_157 : decode cX11_worked 157 = .ok (.iconst 1, 1) := by decide +kernel
theorem dX11_worked_158 : decode cX11_worked 158 = .ok (.isub, 1) := by decide +kernel
theorem dX11_worked_159 : decode cX11_worked 159 = .ok (.iconst 1, 1) := by decide +kernel
theorem dX11_worked_160 : decode cX11_worked 160 = .ok (.aload_n 0, 1) := by decide +kernel
theorem dX11_worked_161 : decode cX11_worked 161 = .ok (.getfield 92, 3) := by decide +kernel
theorem dX11_worked_164 : decode cX11_worked 164 = .ok (.iload 6, 2) := by decide +kernel
theorem dX11_worked_166 : decode cX11_worked 166 = .ok (.iconst 1, 1) := by decide +kernel
theorem dX11_worked_167 : decode cX11_worked 167 = .ok (.isub, 1) := by decide +kernel
theorem dX11_worked_168 : decode cX11_worked 168 = .ok (.iaload, 1) := by decide +kernel
theorem dX11_worked_169 : decode cX11_worked 169 = .ok (.isub, 1) := by decide +kernel
theorem dX11_worked_170 : decode cX11_worked 170 = .ok (.iastore, 1) := by decide +kernel
theorem dX11_worked_171 : decode cX11_worked 171 = .ok (.goto 36, 3) := by decide +kernel
theorem dX11_worked_174 : decode cX11_worked 174 = .ok (.iinc 6 (-1), 3) := by decide +kernel
theorem dX11_worked_177 : decode cX11_worked 177 = .ok (.aload_n 0, 1) := by decide +kernel
theorem dX11_worked_178 : decode cX11_worked 178 = .ok (.getfield 92, 3) := by decide +kernel
theorem dX11_worked_181 : decode cX11_worked 181 = .ok (.iload 6, 2) := by decide +kernel
theorem dX11_worked_183 : decode cX11_worked 183 = .ok (.iconst 1, 1) := by decide +kernel
theorem dX11_worked_184 : decode cX11_worked 184 = .ok (.isub, 1) := by decide +kernel
theorem dX11_worked_185 : decode cX11_worked 185 = .ok (.iload 8, 2) := by decide +kernel
theorem dX11_worked_187 : decode cX11_worked 187 = .ok (.aload_n 0, 1) := by decide +kernel
theorem dX11_worked_188 : decode cX11_worked 188 = .ok (.getfield 92, 3) := by decide +kernel
theorem dX11_worked_191 : decode cX11_worked 191 = .ok (.iload 6, 2) := by decide +kernel
theorem dX11_worked_193 : decode cX11_worked 193 = .ok (.iconst 1, 1) := by decide +kernel
theorem dX11_worked_194 : decode cX11_worked 194 = .ok (.isub, 1) := by decide +kernel
theorem dX11_worked_195 : decode cX11_worked 195 = .ok (.iaload, 1) := by decide +kernel
theorem dX11_worked_196 : decode cX11_worked 196 = .ok (.aload_n 0, 1) := by decide +kernel
theorem dX11_worked_197 : decode cX11_worked 197 = .ok (.getfield 92, 3) := by decide +kernel
theorem dX11_worked_200 : decode cX11_worked 200 = .ok (.iload 6, 2) := by decide +kernel
theorem dX11_worked_202 : decode cX11_worked 202 = .ok (.iaload, 1) := by decide +kernel
theorem dX11_worked_203 : decode cX11_worked 203 = .ok (.invokestatic 280, 3) := by decide +kernel
theorem dX11_worked_206 : decode cX11_worked 206 = .ok (.iastore, 1) := by decide +kernel
theorem dX11_worked_207 : decode cX11_worked 207 = .ok (.iinc 7 1, 3) := by decide +kernel
theorem dX11_worked_210 : decode cX11_worked 210 = .ok (.goto (-198), 3) := by decide +kernel
theorem dX11_worked_213 : decode cX11_worked 213 = .ok (.aload_n 0, 1) := by decide +kernel
theorem dX11_worked_214 : decode cX11_worked 214 = .ok (.getfield 92, 3) := by decide +kernel
theorem dX11_worked_217 : decode cX11_worked 217 = .ok (.iconst 0, 1) := by decide +kernel
theorem dX11_worked_218 : decode cX11_worked 218 = .ok (.iaload, 1) := by decide +kernel
theorem dX11_worked_219 : decode cX11_worked 219 = .ok (.ireturn, 1) := by decide +kernel
theorem dX11_two_0 : decode cX11_two 0 = .ok (.iload_n 0, 1) := by decide +kernel
theorem dX11_two_1 : decode cX11_two 1 = .ok (.tableswitch 111 3 11 #[51, 55, 59, 111, 63, 74, 85, 96, 107], 51) := by decide +kernel
theorem dX11_two_52 : decode cX11_two 52 = .ok (.iload_n 1, 1) := by decide +kernel
theorem dX11_two_53 : decode cX11_two 53 = .ok (.iload_n 2, 1) := by decide +kernel
theorem dX11_two_54 : decode cX11_two 54 = .ok (.iadd, 1) := by decide +kernel
theorem dX11_two_55 : decode cX11_two 55 = .ok (.ireturn, 1) := by decide +kernel
theorem dX11_two_56 : decode cX11_two 56 = .ok (.iload_n 1, 1) := by decide +kernel
theorem dX11_two_57 : decode cX11_two 57 = .ok (.iload_n 2, 1) := by decide +kernel
theorem dX11_two_58 : decode cX11_two 58 = .ok (.isub, 1) := by decide +kernel
theorem dX11_two_59 : decode cX11_two 59 = .ok (.ireturn, 1) := by decide +kernel
theorem dX11_two_60 : decode cX11_two 60 = .ok (.iload_n 1, 1) := by decide +kernel
theorem dX11_two_61 : decode cX11_two 61 = .ok (.iload_n 2, 1) := by decide +kernel
theorem dX11_two_62 : decode cX11_two 62 = .ok (.imul, 1) := by decide +kernel
theorem dX11_two_63 : decode cX11_two 63 = .ok (.ireturn, 1) := by decide +kernel
theorem dX11_two_64 : decode cX11_two 64 = .ok (.iload_n 1, 1) := by decide +kernel
theorem dX11_two_65 : decode cX11_two 65 = .ok (.iload_n 2, 1) := by decide +kernel
theorem dX11_two_66 : decode cX11_two 66 = .ok (.if_icmp .ne 7, 3) := by decide +kernel
theorem dX11_two_69 : decode cX11_two 69 = .ok (.iconst 1, 1) := by decide +kernel
theorem dX11_two_70 : decode cX11_two 70 = .ok (.goto 4, 3) := by decide +kernel
theorem dX11_two_73 : decode cX11_two 73 = .ok (.iconst 0, 1) := by decide +kernel
theorem dX11_two_74 : decode cX11_two 74 = .ok (.ireturn, 1) := by decide +kernel
theorem dX11_two_75 : decode cX11_two 75 = .ok (.iload_n 1, 1) := by decide +kernel
theorem dX11_two_76 : decode cX11_two 76 = .ok (.iload_n 2, 1) := by decide +kernel
theorem dX11_two_77 : decode cX11_two 77 = .ok (.if_icmp .eq 7, 3) := by decide +kernel
theorem dX11_two_80 : decode cX11_two 80 = .ok (.iconst 1, 1) := by decide +kernel
theorem dX11_two_81 : decode cX11_two 81 = .ok (.goto 4, 3) := by decide +kernel
theorem dX11_two_84 : decode cX11_two 84 = .ok (.iconst 0, 1) := by decide +kernel
theorem dX11_two_85 : decode cX11_two 85 = .ok (.ireturn, 1) := by decide +kernel
theorem dX11_two_86 : decode cX11_two 86 = .ok (.iload_n 1, 1) := by decide +kernel
theorem dX11_two_87 : decode cX11_two 87 = .ok (.iload_n 2, 1) := by decide +kernel
theorem dX11_two_88 : decode cX11_two 88 = .ok (.if_icmp .ge 7, 3) := by decide +kernel
theorem dX11_two_91 : decode cX11_two 91 = .ok (.iconst 1, 1) := by decide +kernel
theorem dX11_two_92 : decode cX11_two 92 = .ok (.goto 4, 3) := by decide +kernel
theorem dX11_two_95 : decode cX11_two 95 = .ok (.iconst 0, 1) := by decide +kernel
theorem dX11_two_96 : decode cX11_two 96 = .ok (.ireturn, 1) := by decide +kernel
theorem dX11_two_97 : decode cX11_two 97 = .ok (.iload_n 1, 1) := by decide +kernel
theorem dX11_two_98 : decode cX11_two 98 = .ok (.iload_n 2, 1) := by decide +kernel
theorem dX11_two_99 : decode cX11_two 99 = .ok (.if_icmp .gt 7, 3) := by decide +kernel
theorem dX11_two_102 : decode cX11_two 102 = .ok (.iconst 1, 1) := by decide +kernel
theorem dX11_two_103 : decode cX11_two 103 = .ok (.goto 4, 3) := by decide +kernel
theorem dX11_two_106 : decode cX11_two 106 = .ok (.iconst 0, 1) := by decide +kernel
theorem dX11_two_107 : decode cX11_two 107 = .ok (.ireturn, 1) := by decide +kernel
theorem dX11_two_108 : decode cX11_two 108 = .ok (.iload_n 1, 1) := by decide +kernel
theorem dX11_two_109 : decode cX11_two 109 = .ok (.iload_n 2, 1) := by decide +kernel
theorem dX11_two_110 : decode cX11_two 110 = .ok (.iand, 1) := by decide +kernel
theorem dX11_two_111 : decode cX11_two 111 = .ok (.ireturn, 1) := by decide +kernel
theorem dX11_two_112 : decode cX11_two 112 = .ok (.iload_n 1, 1) := by decide +kernel
theorem dX11_two_113 : decode cX11_two 113 = .ok (.iload_n 2, 1) := by decide +kernel
theorem dX11_two_114 : decode cX11_two 114 = .ok (.ior, 1) := by decide +kernel
theorem dX11_two_115 : decode cX11_two 115 = .ok (.ireturn, 1) := by decide +kernel
theorem dX11_holds_0 : decode cX11_holds 0 = .ok (.iload_n 1, 1) := by decide +kernel
theorem dX11_holds_1 : decode cX11_holds 1 = .ok (.bipush 20, 2) := by decide +kernel
theorem dX11_holds_3 : decode cX11_holds 3 = .ok (.imul, 1) := by decide +kernel
theorem dX11_holds_4 : decode cX11_holds 4 = .ok (.iload_n 2, 1) := by decide +kernel
theorem dX11_holds_5 : decode cX11_holds 5 = .ok (.iadd, 1) := by decide +kernel
theorem dX11_holds_6 : decode cX11_holds 6 = .ok (.istore 5, 2) := by decide +kernel
theorem dX11_holds_8 : decode cX11_holds 8 = .ok (.aload_n 0, 1) := by decide +kernel
theorem dX11_holds_9 : decode cX11_holds 9 = .ok (.getfield 40, 3) := by decide +kernel
theorem dX11_holds_12 : decode cX11_holds 12 = .ok (.iload 5, 2) := by decide +kernel
theorem dX11_holds_14 : decode cX11_holds 14 = .ok (.iaload, 1) := by decide +kernel
theorem dX11_holds_15 : decode cX11_holds 15 = .ok (.aload_n 0, 1) := by decide +kernel
theorem dX11_holds_16 : decode cX11_holds 16 = .ok (.getfield 43, 3) := by decide +kernel
theorem dX11_holds_19 : decode cX11_holds 19 = .ok (.iload 5, 2) := by decide +kernel
theorem dX11_holds_21 : decode cX11_holds 21 = .ok (.iaload, 1) := by decide +kernel
theorem dX11_holds_22 : decode cX11_holds 22 = .ok (.if_icmp .eq 29, 3) := by decide +kernel
theorem dX11_holds_25 : decode cX11_holds 25 = .ok (.aload_n 0, 1) := by decide +kernel
theorem dX11_holds_26 : decode cX11_holds 26 = .ok (.iload_n 1, 1) := by decide +kernel
theorem dX11_holds_27 : decode cX11_holds 27 = .ok (.aload_n 0, 1) := by decide +kernel
theorem dX11_holds_28 : decode cX11_holds 28 = .ok (.getfield 40, 3) := by decide +kernel
theorem dX11_holds_31 : decode cX11_holds 31 = .ok (.iload 5, 2) := by decide +kernel
theorem dX11_holds_33 : decode cX11_holds 33 = .ok (.iaload, 1) := by decide +kernel
theorem dX11_holds_34 : decode cX11_holds 34 = .ok (.aload_n 0, 1) := by decide +kernel
theorem dX11_holds_35 : decode cX11_holds 35 = .ok (.getfield 43, 3) := by decide +kernel
theorem dX11_holds_38 : decode cX11_holds 38 = .ok (.iload 5, 2) := by decide +kernel
theorem dX11_holds_40 : decode cX11_holds 40 = .ok (.iaload, 1) := by decide +kernel
theorem dX11_holds_41 : decode cX11_holds 41 = .ok (.iload_n 3, 1) := by decide +kernel
theorem dX11_holds_42 : decode cX11_holds 42 = .ok (.iload 4, 2) := by decide +kernel
theorem dX11_holds_44 : decode cX11_holds 44 = .ok (.invokevirtual 283, 3) := by decide +kernel
theorem dX11_holds_47 : decode cX11_holds 47 = .ok (.iconst 1, 1) := by decide +kernel
theorem dX11_holds_48 : decode cX11_holds 48 = .ok (.if_icmp .ne 7, 3) := by decide +kernel
theorem dX11_holds_51 : decode cX11_holds 51 = .ok (.iconst 1, 1) := by decide +kernel
theorem dX11_holds_52 : decode cX11_holds 52 = .ok (.goto 4, 3) := by decide +kernel
theorem dX11_holds_55 : decode cX11_holds 55 = .ok (.iconst 0, 1) := by decide +kernel
theorem dX11_holds_56 : decode cX11_holds 56 = .ok (.ireturn, 1) := by decide +kernel
theorem dX11_reason_0 : decode cX11_reason 0 = .ok (.iload_n 2, 1) := by decide +kernel
theorem dX11_reason_1 : decode cX11_reason 1 = .ok (.iload_n 3, 1) := by decide +kernel
theorem dX11_reason_2 : decode cX11_reason 2 = .ok (.if_icmp .ne 5, 3) := by decide +kernel
theorem dX11_reason_5 : decode cX11_reason 5 = .ok (.iconst 1, 1) := by decide +kernel
theorem dX11_reason_6 : decode cX11_reason 6 = .ok (.ireturn, 1) := by decide +kernel
theorem dX11_reason_7 : decode cX11_reason 7 = .ok (.aload_n 0, 1) := by decide +kernel
theorem dX11_reason_8 : decode cX11_reason 8 = .ok (.getfield 89, 3) := by decide +kernel
theorem dX11_reason_11 : decode cX11_reason 11 = .ok (.bipush 32, 2) := by decide +kernel
theorem dX11_reason_13 : decode cX11_reason 13 = .ok (.iload_n 2, 1) := by decide +kernel
theorem dX11_reason_14 : decode cX11_reason 14 = .ok (.imul, 1) := by decide +kernel
theorem dX11_reason_15 : decode cX11_reason 15 = .ok (.iaload, 1) := by decide +kernel
theorem dX11_reason_16 : decode cX11_reason 16 = .ok (.ifCond .ne 5, 3) := by decide +kernel
theorem dX11_reason_19 : decode cX11_reason 19 = .ok (.iconst 2, 1) := by decide +kernel
theorem dX11_reason_20 : decode cX11_reason 20 = .ok (.ireturn, 1) := by decide +kernel
theorem dX11_reason_21 : decode cX11_reason 21 = .ok (.aload_n 0, 1) := by decide +kernel
theorem dX11_reason_22 : decode cX11_reason 22 = .ok (.getfield 89, 3) := by decide +kernel
theorem dX11_reason_25 : decode cX11_reason 25 = .ok (.bipush 32, 2) := by decide +kernel
theorem dX11_reason_27 : decode cX11_reason 27 = .ok (.iload_n 3, 1) := by decide +kernel
theorem dX11_reason_28 : decode cX11_reason 28 = .ok (.imul, 1) := by decide +kernel
theorem dX11_reason_29 : decode cX11_reason 29 = .ok (.iconst 1, 1) := by decide +kernel
theorem dX11_reason_30 : decode cX11_reason 30 = .ok (.iadd, 1) := by decide +kernel
theorem dX11_reason_31 : decode cX11_reason 31 = .ok (.iaload, 1) := by decide +kernel
theorem dX11_reason_32 : decode cX11_reason 32 = .ok (.ifCond .ne 5, 3) := by decide +kernel
theorem dX11_reason_35 : decode cX11_reason 35 = .ok (.iconst 3, 1) := by decide +kernel
theorem dX11_reason_36 : decode cX11_reason 36 = .ok (.ireturn, 1) := by decide +kernel
theorem dX11_reason_37 : decode cX11_reason 37 = .ok (.aload_n 0, 1) := by decide +kernel
theorem dX11_reason_38 : decode cX11_reason 38 = .ok (.getfield 89, 3) := by decide +kernel
theorem dX11_reason_41 : decode cX11_reason 41 = .ok (.bipush 32, 2) := by decide +kernel
theorem dX11_reason_43 : decode cX11_reason 43 = .ok (.iload_n 2, 1) := by decide +kernel
theorem dX11_reason_44 : decode cX11_reason 44 = .ok (.imul, 1) := by decide +kernel
theorem dX11_reason_45 : decode cX11_reason 45 = .ok (.bipush 20, 2) := by decide +kernel
theorem dX11_reason_47 : decode cX11_reason 47 = .ok (.iadd, 1) := by decide +kernel
theorem dX11_reason_48 : decode cX11_reason 48 = .ok (.iload_n 3, 1) := by decide +kernel
theorem dX11_reason_49 : decode cX11_reason 49 = .ok (.iadd, 1) := by decide +kernel
theorem dX11_reason_50 : decode cX11_reason 50 = .ok (.iaload, 1) := by decide +kernel
theorem dX11_reason_51 : decode cX11_reason 51 = .ok (.ifCond .ne 5, 3) := by decide +kernel
theorem dX11_reason_54 : decode cX11_reason 54 = .ok (.iconst 4, 1) := by decide +kernel
theorem dX11_reason_55 : decode cX11_reason 55 = .ok (.ireturn, 1) := by decide +kernel
theorem dX11_reason_56 : decode cX11_reason 56 = .ok (.aload_n 0, 1) := by decide +kernel
theorem dX11_reason_57 : decode cX11_reason 57 = .ok (.getfield 89, 3) := by decide +kernel
theorem dX11_reason_60 : decode cX11_reason 60 = .ok (.bipush 32, 2) := by decide +kernel
theorem dX11_reason_62 : decode cX11_reason 62 = .ok (.iload_n 2, 1) := by decide +kernel
theorem dX11_reason_63 : decode cX11_reason 63 = .ok (.imul, 1) := by decide +kernel
theorem dX11_reason_64 : decode cX11_reason 64 = .ok (.iconst 4, 1) := by decide +kernel
theorem dX11_reason_65 : decode cX11_reason 65 = .ok (.iadd, 1) := by decide +kernel
theorem dX11_reason_66 : decode cX11_reason 66 = .ok (.iaload, 1) := by decide +kernel
theorem dX11_reason_67 : decode cX11_reason 67 = .ok (.aload_n 0, 1) := by decide +kernel
theorem dX11_reason_68 : decode cX11_reason 68 = .ok (.getfield 261, 3) := by decide +kernel
theorem dX11_reason_71 : decode cX11_reason 71 = .ok (.if_icmp .le 5, 3) := by decide +kernel
theorem dX11_reason_74 : decode cX11_reason 74 = .ok (.iconst 5, 1) := by decide +kernel
theorem dX11_reason_75 : decode cX11_reason 75 = .ok (.ireturn, 1) := by decide +kernel
theorem dX11_reason_76 : decode cX11_reason 76 = .ok (.iconst 0, 1) := by decide +kernel
theorem dX11_reason_77 : decode cX11_reason 77 = .ok (.istore 4, 2) := by decide +kernel
theorem dX11_reason_79 : decode cX11_reason 79 = .ok (.iload 4, 2) := by decide +kernel
theorem dX11_reason_81 : decode cX11_reason 81 = .ok (.aload_n 0, 1) := by decide +kernel
theorem dX11_reason_82 : decode cX11_reason 82 = .ok (.getfield 27, 3) := by decide +kernel
theorem dX11_reason_85 : decode cX11_reason 85 = .ok (.iload_n 1, 1) := by decide +kernel
theorem dX11_reason_86 : decode cX11_reason 86 = .ok (.iaload, 1) := by decide +kernel
theorem dX11_reason_87 : decode cX11_reason 87 = .ok (.if_icmp .ge 42, 3) := by decide +kernel
theorem dX11_reason_90 : decode cX11_reason 90 = .ok (.aload_n 0, 1) := by decide +kernel
theorem dX11_reason_91 : decode cX11_reason 91 = .ok (.getfield 30, 3) := by decide +kernel
theorem dX11_reason_94 : decode cX11_reason 94 = .ok (.iload_n 1, 1) := by decide +kernel
theorem dX11_reason_95 : decode cX11_reason 95 = .ok (.bipush 20, 2) := by decide +kernel
theorem dX11_reason_97 : decode cX11_reason 97 = .ok (.imul, 1) := by decide +kernel
theorem dX11_reason_98 : decode cX11_reason 98 = .ok (.iload 4, 2) := by decide +kernel
theorem dX11_reason_100 : decode cX11_reason 100 = .ok (.iadd, 1) := by decide +kernel
theorem dX11_reason_101 : decode cX11_reason 101 = .ok (.baload, 1) := by decide +kernel
theorem dX11_reason_102 : decode cX11_reason 102 = .ok (.ifCond .eq 21, 3) := by decide +kernel
theorem dX11_reason_105 : decode cX11_reason 105 = .ok (.aload_n 0, 1) := by decide +kernel
theorem dX11_reason_106 : decode cX11_reason 106 = .ok (.iload_n 1, 1) := by decide +kernel
theorem dX11_reason_107 : decode cX11_reason 107 = .ok (.iload 4, 2) := by decide +kernel
theorem dX11_reason_109 : decode cX11_reason 109 = .ok (.iload_n 2, 1) := by decide +kernel
theorem dX11_reason_110 : decode cX11_reason 110 = .ok (.iload_n 3, 1) := by decide +kernel
theorem dX11_reason_111 : decode cX11_reason 111 = .ok (.invokevirtual 287, 3) := by decide +kernel
theorem dX11_reason_114 : decode cX11_reason 114 = .ok (.ifCond .eq 9, 3) := by decide +kernel
theorem dX11_reason_117 : decode cX11_reason 117 = .ok (.bipush 10, 2) := by decide +kernel
theorem dX11_reason_119 : decode cX11_reason 119 = .ok (.iload 4, 2) := by decide +kernel
theorem dX11_reason_121 : decode cX11_reason 121 = .ok (.iadd, 1) := by decide +kernel
theorem dX11_reason_122 : decode cX11_reason 122 = .ok (.ireturn, 1) := by decide +kernel
theorem dX11_reason_123 : decode cX11_reason 123 = .ok (.iinc 4 1, 3) := by decide +kernel
theorem dX11_reason_126 : decode cX11_reason 126 = .ok (.goto (-47), 3) := by decide +kernel
theorem dX11_reason_129 : decode cX11_reason 129 = .ok (.iconst 0, 1) := by decide +kernel
theorem dX11_reason_130 : decode cX11_reason 130 = .ok (.ireturn, 1) := by decide +kernel
theorem dX11_price_0 : decode cX11_price 0 = .ok (.aload_n 0, 1) := by decide +kernel
theorem dX11_price_1 : decode cX11_price 1 = .ok (.getfield 89, 3) := by decide +kernel
theorem dX11_price_4 : decode cX11_price 4 = .ok (.bipush 32, 2) := by decide +kernel
theorem dX11_price_6 : decode cX11_price 6 = .ok (.iload_n 2, 1) := by decide +kernel
theorem dX11_price_7 : decode cX11_price 7 = .ok (.imul, 1) := by decide +kernel
theorem dX11_price_8 : decode cX11_price 8 = .ok (.bipush 20, 2) := by decide +kernel
theorem dX11_price_10 : decode cX11_price 10 = .ok (.iadd, 1) := by decide +kernel
theorem dX11_price_11 : decode cX11_price 11 = .ok (.iload_n 3, 1) := by decide +kernel
theorem dX11_price_12 : decode cX11_price 12 = .ok (.iadd, 1) := by decide +kernel
theorem dX11_price_13 : decode cX11_price 13 = .ok (.iaload, 1) := by decide +kernel
theorem dX11_price_14 : decode cX11_price 14 = .ok (.istore 4, 2) := by decide +kernel
theorem dX11_price_16 : decode cX11_price 16 = .ok (.iconst 0, 1) := by decide +kernel
theorem dX11_price_17 : decode cX11_price 17 = .ok (.istore 5, 2) := by decide +kernel
theorem dX11_price_19 : decode cX11_price 19 = .ok (.iload 5, 2) := by decide +kernel
theorem dX11_price_21 : decode cX11_price 21 = .ok (.aload_n 0, 1) := by decide +kernel
theorem dX11_price_22 : decode cX11_price 22 = .ok (.getfield 27, 3) := by decide +kernel
theorem dX11_price_25 : decode cX11_price 25 = .ok (.iload_n 1, 1) := by decide +kernel
theorem dX11_price_26 : decode cX11_price 26 = .ok (.iaload, 1) := by decide +kernel
theorem dX11_price_27 : decode cX11_price 27 = .ok (.if_icmp .ge 66, 3) := by decide +kernel
theorem dX11_price_30 : decode cX11_price 30 = .ok (.iload_n 1, 1) := by decide +kernel
theorem dX11_price_31 : decode cX11_price 31 = .ok (.bipush 20, 2) := by decide +kernel
theorem dX11_price_33 : decode cX11_price 33 = .ok (.imul, 1) := by decide +kernel
theorem dX11_price_34 : decode cX11_price 34 = .ok (.iload 5, 2) := by decide +kernel
theorem dX11_price_36 : decode cX11_price 36 = .ok (.iadd, 1) := by decide +kernel
theorem dX11_price_37 : decode cX11_price 37 = .ok (.istore 6, 2) := by decide +kernel
theorem dX11_price_39 : decode cX11_price 39 = .ok (.aload_n 0, 1) := by decide +kernel
theorem dX11_price_40 : decode cX11_price 40 = .ok (.getfield 30, 3) := by decide +kernel
theorem dX11_price_43 : decode cX11_price 43 = .ok (.iload 6, 2) := by decide +kernel
theorem dX11_price_45 : decode cX11_price 45 = .ok (.baload, 1) := by decide +kernel
theorem dX11_price_46 : decode cX11_price 46 = .ok (.ifCond .ne 41, 3) := by decide +kernel
theorem dX11_price_49 : decode cX11_price 49 = .ok (.aload_n 0, 1) := by decide +kernel
theorem dX11_price_50 : decode cX11_price 50 = .ok (.iload_n 1, 1) := by decide +kernel
theorem dX11_price_51 : decode cX11_price 51 = .ok (.iload 5, 2) := by decide +kernel
theorem dX11_price_53 : decode cX11_price 53 = .ok (.iload_n 2, 1) := by decide +kernel
theorem dX11_price_54 : decode cX11_price 54 = .ok (.iload_n 3, 1) := by decide +kernel
theorem dX11_price_55 : decode cX11_price 55 = .ok (.invokevirtual 287, 3) := by decide +kernel
theorem dX11_price_58 : decode cX11_price 58 = .ok (.ifCond .eq 29, 3) := by decide +kernel
theorem dX11_price_61 : decode cX11_price 61 = .ok (.iload 4, 2) := by decide +kernel
theorem dX11_price_63 : decode cX11_price 63 = .ok (.aload_n 0, 1) := by decide +kernel
theorem dX11_price_64 : decode cX11_price 64 = .ok (.iload_n 1, 1) := by decide +kernel
theorem dX11_price_65 : decode cX11_price 65 = .ok (.aload_n 0, 1) := by decide +kernel
theorem dX11_price_66 : decode cX11_price 66 = .ok (.getfield 34, 3) := by decide +kernel
theorem dX11_price_69 : decode cX11_price 69 = .ok (.iload 6, 2) := by decide +kernel
theorem dX11_price_71 : decode cX11_price 71 = .ok (.iaload, 1) := by decide +kernel
theorem dX11_price_72 : decode cX11_price 72 = .ok (.aload_n 0, 1) := by decide +kernel
theorem dX11_price_73 : decode cX11_price 73 = .ok (.getfield 37, 3) := by decide +kernel
theorem dX11_price_76 : decode cX11_price 76 = .ok (.iload 6, 2) := by decide +kernel
theorem dX11_price_78 : decode cX11_price 78 = .ok (.iaload, 1) := by decide +kernel
theorem dX11_price_79 : decode cX11_price 79 = .ok (.iload_n 2, 1) := by decide +kernel
theorem dX11_price_80 : decode cX11_price 80 = .ok (.iload_n 3, 1) := by decide +kernel
theorem dX11_price_81 : decode cX11_price 81 = .ok (.invokevirtual 283, 3) := by decide +kernel
theorem dX11_price_84 : decode cX11_price 84 = .ok (.iadd, 1) := by decide +kernel
theorem dX11_price_85 : decode cX11_price 85 = .ok (.istore 4, 2) := by decide +kernel
theorem dX11_price_87 : decode cX11_price 87 = .ok (.iinc 5 1, 3) := by decide +kernel
theorem dX11_price_90 : decode cX11_price 90 = .ok (.goto (-71), 3) := by decide +kernel
theorem dX11_price_93 : decode cX11_price 93 = .ok (.iload 4, 2) := by decide +kernel
theorem dX11_price_95 : decode cX11_price 95 = .ok (.ifCond .ge 7, 3) := by decide +kernel
theorem dX11_price_98 : decode cX11_price 98 = .ok (.iconst 0, 1) := by decide +kernel
theorem dX11_price_99 : decode cX11_price 99 = .ok (.goto 19, 3) := by decide +kernel
theorem dX11_price_102 : decode cX11_price 102 = .ok (.iload 4, 2) := by decide +kernel
theorem dX11_price_104 : decode cX11_price 104 = .ok (.sipush 10000, 3) := by decide +kernel
theorem dX11_price_107 : decode cX11_price 107 = .ok (.if_icmp .le 9, 3) := by decide +kernel
theorem dX11_price_110 : decode cX11_price 110 = .ok (.sipush 10000, 3) := by decide +kernel
theorem dX11_price_113 : decode cX11_price 113 = .ok (.goto 5, 3) := by decide +kernel
theorem dX11_price_116 : decode cX11_price 116 = .ok (.iload 4, 2) := by decide +kernel
theorem dX11_price_118 : decode cX11_price 118 = .ok (.ireturn, 1) := by decide +kernel
theorem dX11_isAsked_0 : decode cX11_isAsked 0 = .ok (.iload_n 1, 1) := by decide +kernel
theorem dX11_isAsked_1 : decode cX11_isAsked 1 = .ok (.ifCond .lt 36, 3) := by decide +kernel
theorem dX11_isAsked_4 : decode cX11_isAsked 4 = .ok (.iload_n 1, 1) := by decide +kernel
theorem dX11_isAsked_5 : decode cX11_isAsked 5 = .ok (.iconst 1, 1) := by decide +kernel
theorem dX11_isAsked_6 : decode cX11_isAsked 6 = .ok (.if_icmp .gt 31, 3) := by decide +kernel
theorem dX11_isAsked_9 : decode cX11_isAsked 9 = .ok (.iload_n 2, 1) := by decide +kernel
theorem dX11_isAsked_10 : decode cX11_isAsked 10 = .ok (.invokestatic 258, 3) := by decide +kernel
theorem dX11_isAsked_13 : decode cX11_isAsked 13 = .ok (.ifCond .eq 24, 3) := by decide +kernel
theorem dX11_isAsked_16 : decode cX11_isAsked 16 = .ok (.aload_n 0, 1) := by decide +kernel
theorem dX11_isAsked_17 : decode cX11_isAsked 17 = .ok (.iload_n 3, 1) := by decide +kernel
theorem dX11_isAsked_18 : decode cX11_isAsked 18 = .ok (.invokevirtual 264, 3) := by decide +kernel
theorem dX11_isAsked_21 : decode cX11_isAsked 21 = .ok (.ifCond .eq 16, 3) := by decide +kernel
theorem dX11_isAsked_24 : decode cX11_isAsked 24 = .ok (.aload_n 0, 1) := by decide +kernel
theorem dX11_isAsked_25 : decode cX11_isAsked 25 = .ok (.iload 4, 2) := by decide +kernel
theorem dX11_isAsked_27 : decode cX11_isAsked 27 = .ok (.invokevirtual 264, 3) := by decide +kernel
theorem dX11_isAsked_30 : decode cX11_isAsked 30 = .ok (.ifCond .eq 7, 3) := by decide +kernel
theorem dX11_isAsked_33 : decode cX11_isAsked 33 = .ok (.iconst 1, 1) := by decide +kernel
theorem dX11_isAsked_34 : decode cX11_isAsked 34 = .ok (.goto 4, 3) := by decide +kernel
theorem dX11_isAsked_37 : decode cX11_isAsked 37 = .ok (.iconst 0, 1) := by decide +kernel
theorem dX11_isAsked_38 : decode cX11_isAsked 38 = .ok (.ireturn, 1) := by decide +kernel
theorem dX11_why_0 : decode cX11_why 0 = .ok (.aload_n 0, 1) := by decide +kernel
theorem dX11_why_1 : decode cX11_why 1 = .ok (.iload_n 1, 1) := by decide +kernel
theorem dX11_why_2 : decode cX11_why 2 = .ok (.iload_n 2, 1) := by decide +kernel
theorem dX11_why_3 : decode cX11_why 3 = .ok (.iload_n 3, 1) := by decide +kernel
theorem dX11_why_4 : decode cX11_why 4 = .ok (.iload 4, 2) := by decide +kernel
theorem dX11_why_6 : decode cX11_why 6 = .ok (.invokevirtual 291, 3) := by decide +kernel
theorem dX11_why_9 : decode cX11_why 9 = .ok (.ifCond .ne 5, 3) := by decide +kernel
theorem dX11_why_12 : decode cX11_why 12 = .ok (.iconst (-1), 1) := by decide +kernel
theorem dX11_why_13 : decode cX11_why 13 = .ok (.ireturn, 1) := by decide +kernel
theorem dX11_why_14 : decode cX11_why 14 = .ok (.aload_n 0, 1) := by decide +kernel
theorem dX11_why_15 : decode cX11_why 15 = .ok (.iload_n 2, 1) := by decide +kernel
theorem dX11_why_16 : decode cX11_why 16 = .ok (.invokevirtual 294, 3) := by decide +kernel
theorem dX11_why_19 : decode cX11_why 19 = .ok (.aload_n 0, 1) := by decide +kernel
theorem dX11_why_20 : decode cX11_why 20 = .ok (.iload_n 1, 1) := by decide +kernel
theorem dX11_why_21 : decode cX11_why 21 = .ok (.iload_n 3, 1) := by decide +kernel
theorem dX11_why_22 : decode cX11_why 22 = .ok (.iload 4, 2) := by decide +kernel
theorem dX11_why_24 : decode cX11_why 24 = .ok (.invokevirtual 297, 3) := by decide +kernel
theorem dX11_why_27 : decode cX11_why 27 = .ok (.ireturn, 1) := by decide +kernel
theorem dX11_cost_0 : decode cX11_cost 0 = .ok (.aload_n 0, 1) := by decide +kernel
theorem dX11_cost_1 : decode cX11_cost 1 = .ok (.iload_n 1, 1) := by decide +kernel
theorem dX11_cost_2 : decode cX11_cost 2 = .ok (.iload_n 2, 1) := by decide +kernel
theorem dX11_cost_3 : decode cX11_cost 3 = .ok (.iload_n 3, 1) := by decide +kernel
theorem dX11_cost_4 : decode cX11_cost 4 = .ok (.iload 4, 2) := by decide +kernel
theorem dX11_cost_6 : decode cX11_cost 6 = .ok (.invokevirtual 291, 3) := by decide +kernel
theorem dX11_cost_9 : decode cX11_cost 9 = .ok (.ifCond .ne 5, 3) := by decide +kernel
theorem dX11_cost_12 : decode cX11_cost 12 = .ok (.iconst (-1), 1) := by decide +kernel
theorem dX11_cost_13 : decode cX11_cost 13 = .ok (.ireturn, 1) := by decide +kernel
theorem dX11_cost_14 : decode cX11_cost 14 = .ok (.aload_n 0, 1) := by decide +kernel
theorem dX11_cost_15 : decode cX11_cost 15 = .ok (.iload_n 2, 1) := by decide +kernel
theorem dX11_cost_16 : decode cX11_cost 16 = .ok (.invokevirtual 294, 3) := by decide +kernel
theorem dX11_cost_19 : decode cX11_cost 19 = .ok (.aload_n 0, 1) := by decide +kernel
theorem dX11_cost_20 : decode cX11_cost 20 = .ok (.iload_n 1, 1) := by decide +kernel
theorem dX11_cost_21 : decode cX11_cost 21 = .ok (.iload_n 3, 1) := by decide +kernel
theorem dX11_cost_22 : decode cX11_cost 22 = .ok (.iload 4, 2) := by decide +kernel
theorem dX11_cost_24 : decode cX11_cost 24 = .ok (.invokevirtual 297, 3) := by decide +kernel
theorem dX11_cost_27 : decode cX11_cost 27 = .ok (.ifCond .ne 14, 3) := by decide +kernel
theorem dX11_cost_30 : decode cX11_cost 30 = .ok (.aload_n 0, 1) := by decide +kernel
theorem dX11_cost_31 : decode cX11_cost 31 = .ok (.iload_n 1, 1) := by decide +kernel
theorem dX11_cost_32 : decode cX11_cost 32 = .ok (.iload_n 3, 1) := by decide +kernel
theorem dX11_cost_33 : decode cX11_cost 33 = .ok (.iload 4, 2) := by decide +kernel
theorem dX11_cost_35 : decode cX11_cost 35 = .ok (.invokevirtual 300, 3) := by decide +kernel
theorem dX11_cost_38 : decode cX11_cost 38 = .ok (.goto 4, 3) := by decide +kernel
theorem dX11_cost_41 : decode cX11_cost 41 = .ok (.iconst (-1), 1) := by decide +kernel
theorem dX11_cost_42 : decode cX11_cost 42 = .ok (.ireturn, 1) := by decide +kernel
theorem dX11_weigh_0 : decode cX11_weigh 0 = .ok (.aload_n 0, 1) := by decide +kernel
theorem dX11_weigh_1 : decode cX11_weigh 1 = .ok (.iload_n 2, 1) := by decide +kernel
theorem dX11_weigh_2 : decode cX11_weigh 2 = .ok (.invokevirtual 294, 3) := by decide +kernel
theorem dX11_weigh_5 : decode cX11_weigh 5 = .ok (.iconst 0, 1) := by decide +kernel
theorem dX11_weigh_6 : decode cX11_weigh 6 = .ok (.istore_n 3, 1) := by decide +kernel
theorem dX11_weigh_7 : decode cX11_weigh 7 = .ok (.iload_n 3, 1) := by decide +kernel
theorem dX11_weigh_8 : decode cX11_weigh 8 = .ok (.aload_n 0, 1) := by decide +kernel
theorem dX11_weigh_9 : decode cX11_weigh 9 = .ok (.getfield 251, 3) := by decide +kernel
theorem dX11_weigh_12 : decode cX11_weigh 12 = .ok (.if_icmp .ge 134, 3) := by decide +kernel
theorem dX11_weigh_15 : decode cX11_weigh 15 = .ok (.aload_n 0, 1) := by decide +kernel
theorem dX11_weigh_16 : decode cX11_weigh 16 = .ok (.getfield 98, 3) := by decide +kernel
theorem dX11_weigh_19 : decode cX11_weigh 19 = .ok (.iload_n 3, 1) := by decide +kernel
theorem dX11_weigh_20 : decode cX11_weigh 20 = .ok (.aload_n 0, 1) := by decide +kernel
theorem dX11_weigh_21 : decode cX11_weigh 21 = .ok (.getfield 89, 3) := by decide +kernel
theorem dX11_weigh_24 : decode cX11_weigh 24 = .ok (.bipush 32, 2) := by decide +kernel
theorem dX11_weigh_26 : decode cX11_weigh 26 = .ok (.iload_n 3, 1) := by decide +kernel
theorem dX11_weigh_27 : decode cX11_weigh 27 = .ok (.imul, 1) := by decide +kernel
theorem dX11_weigh_28 : decode cX11_weigh 28 = .ok (.iconst 3, 1) := by decide +kernel
theorem dX11_weigh_29 : decode cX11_weigh 29 = .ok (.iadd, 1) := by decide +kernel
theorem dX11_weigh_30 : decode cX11_weigh 30 = .ok (.iaload, 1) := by decide +kernel
theorem dX11_weigh_31 : decode cX11_weigh 31 = .ok (.iconst 1, 1) := by decide +kernel
theorem dX11_weigh_32 : decode cX11_weigh 32 = .ok (.if_icmp .ne 16, 3) := by decide +kernel
theorem dX11_weigh_35 : decode cX11_weigh 35 = .ok (.aload_n 0, 1) := by decide +kernel
theorem dX11_weigh_36 : decode cX11_weigh 36 = .ok (.getfield 68, 3) := by decide +kernel
theorem dX11_weigh_39 : decode cX11_weigh 39 = .ok (.iload_n 3, 1) := by decide +kernel
theorem dX11_weigh_40 : decode cX11_weigh 40 = .ok (.iaload, 1) := by decide +kernel
theorem dX11_weigh_41 : decode cX11_weigh 41 = .ok (.ifCond .ne 7, 3) := by decide +kernel
theorem dX11_weigh_44 : decode cX11_weigh 44 = .ok (.iconst 1, 1) := by decide +kernel
theorem dX11_weigh_45 : decode cX11_weigh 45 = .ok (.goto 4, 3) := by decide +kernel
theorem dX11_weigh_48 : decode cX11_weigh 48 = .ok (.iconst 0, 1) := by decide +kernel
theorem dX11_weigh_49 : decode cX11_weigh 49 = .ok (.bastore, 1) := by decide +kernel
theorem dX11_weigh_50 : decode cX11_weigh 50 = .ok (.aload_n 0, 1) := by decide +kernel
theorem dX11_weigh_51 : decode cX11_weigh 51 = .ok (.getfield 101, 3) := by decide +kernel
theorem dX11_weigh_54 : decode cX11_weigh 54 = .ok (.iload_n 3, 1) := by decide +kernel
theorem dX11_weigh_55 : decode cX11_weigh 55 = .ok (.aload_n 0, 1) := by decide +kernel
theorem dX11_weigh_56 : decode cX11_weigh 56 = .ok (.getfield 89, 3) := by decide +kernel
theorem dX11_weigh_59 : decode cX11_weigh 59 = .ok (.bipush 32, 2) := by decide +kernel
theorem dX11_weigh_61 : decode cX11_weigh 61 = .ok (.iload_n 3, 1) := by decide +kernel
theorem dX11_weigh_62 : decode cX11_weigh 62 = .ok (.imul, 1) := by decide +kernel
theorem dX11_weigh_63 : decode cX11_weigh 63 = .ok (.iconst 2, 1) := by decide +kernel
theorem dX11_weigh_64 : decode cX11_weigh 64 = .ok (.iadd, 1) := by decide +kernel
theorem dX11_weigh_65 : decode cX11_weigh 65 = .ok (.iaload, 1) := by decide +kernel
theorem dX11_weigh_66 : decode cX11_weigh 66 = .ok (.iconst 1, 1) := by decide +kernel
theorem dX11_weigh_67 : decode cX11_weigh 67 = .ok (.if_icmp .eq 12, 3) := by decide +kernel
theorem dX11_weigh_70 : decode cX11_weigh 70 = .ok (.aload_n 0, 1) := by decide +kernel
theorem dX11_weigh_71 : decode cX11_weigh 71 = .ok (.getfield 68, 3) := by decide +kernel
theorem dX11_weigh_74 : decode cX11_weigh 74 = .ok (.iload_n 3, 1) := by decide +kernel
theorem dX11_weigh_75 : decode cX11_weigh 75 = .ok (.iaload, 1) := by decide +kernel
theorem dX11_weigh_76 : decode cX11_weigh 76 = .ok (.ifCond .le 7, 3) := by decide +kernel
theorem dX11_weigh_79 : decode cX11_weigh 79 = .ok (.iconst 1, 1) := by decide +kernel
theorem dX11_weigh_80 : decode cX11_weigh 80 = .ok (.goto 4, 3) := by decide +kernel
theorem dX11_weigh_83 : decode cX11_weigh 83 = .ok (.iconst 0, 1) := by decide +kernel
theorem dX11_weigh_84 : decode cX11_weigh 84 = .ok (.bastore, 1) := by decide +kernel
theorem dX11_weigh_85 : decode cX11_weigh 85 = .ok (.iconst 0, 1) := by decide +kernel
theorem dX11_weigh_86 : decode cX11_weigh 86 = .ok (.istore 4, 2) := by decide +kernel
theorem dX11_weigh_88 : decode cX11_weigh 88 = .ok (.iload 4, 2) := by decide +kernel
theorem dX11_weigh_90 : decode cX11_weigh 90 = .ok (.aload_n 0, 1) := by decide +kernel
theorem dX11_weigh_91 : decode cX11_weigh 91 = .ok (.getfield 251, 3) := by decide +kernel
theorem dX11_weigh_94 : decode cX11_weigh 94 = .ok (.if_icmp .ge 46, 3) := by decide +kernel
theorem dX11_weigh_97 : decode cX11_weigh 97 = .ok (.aload_n 0, 1) := by decide +kernel
theorem dX11_weigh_98 : decode cX11_weigh 98 = .ok (.getfield 95, 3) := by decide +kernel
theorem dX11_weigh_101 : decode cX11_weigh 101 = .ok (.bipush 12, 2) := by decide +kernel
theorem dX11_weigh_103 : decode cX11_weigh 103 = .ok (.iload_n 3, 1) := by decide +kernel
theorem dX11_weigh_104 : decode cX11_weigh 104 = .ok (.imul, 1) := by decide +kernel
theorem dX11_weigh_105 : decode cX11_weigh 105 = .ok (.iload 4, 2) := by decide +kernel
theorem dX11_weigh_107 : decode cX11_weigh 107 = .ok (.iadd, 1) := by decide +kernel
theorem dX11_weigh_108 : decode cX11_weigh 108 = .ok (.aload_n 0, 1) := by decide +kernel
theorem dX11_weigh_109 : decode cX11_weigh 109 = .ok (.iload_n 1, 1) := by decide +kernel
theorem dX11_weigh_110 : decode cX11_weigh 110 = .ok (.iload_n 3, 1) := by decide +kernel
theorem dX11_weigh_111 : decode cX11_weigh 111 = .ok (.iload 4, 2) := by decide +kernel
theorem dX11_weigh_113 : decode cX11_weigh 113 = .ok (.invokevirtual 297, 3) := by decide +kernel
theorem dX11_weigh_116 : decode cX11_weigh 116 = .ok (.ifCond .ne 14, 3) := by decide +kernel
theorem dX11_weigh_119 : decode cX11_weigh 119 = .ok (.aload_n 0, 1) := by decide +kernel
theorem dX11_weigh_120 : decode cX11_weigh 120 = .ok (.iload_n 1, 1) := by decide +kernel
theorem dX11_weigh_121 : decode cX11_weigh 121 = .ok (.iload_n 3, 1) := by decide +kernel
theorem dX11_weigh_122 : decode cX11_weigh 122 = .ok (.iload 4, 2) := by decide +kernel
theorem dX11_weigh_124 : decode cX11_weigh 124 = .ok (.invokevirtual 300, 3) := by decide +kernel
theorem dX11_weigh_127 : decode cX11_weigh 127 = .ok (.goto 6, 3) := by decide +kernel
theorem dX11_weigh_130 : decode cX11_weigh 130 = .ok (.ldc_w 303, 3) := by decide +kernel
theorem dX11_weigh_133 : decode cX11_weigh 133 = .ok (.iastore, 1) := by decide +kernel
theorem dX11_weigh_134 : decode cX11_weigh 134 = .ok (.iinc 4 1, 3) := by decide +kernel
theorem dX11_weigh_137 : decode cX11_weigh 137 = .ok (.goto (-49), 3) := by decide +kernel
theorem dX11_weigh_140 : decode cX11_weigh 140 = .ok (.iinc 3 1, 3) := by decide +kernel
theorem dX11_weigh_143 : decode cX11_weigh 143 = .ok (.goto (-136), 3) := by decide +kernel
theorem dX11_weigh_146 : decode cX11_weigh 146 = .ok (.return_, 1) := by decide +kernel
theorem dX11_counts_0 : decode cX11_counts 0 = .ok (.iload_n 2, 1) := by decide +kernel
theorem dX11_counts_1 : decode cX11_counts 1 = .ok (.ifCond .lt 24, 3) := by decide +kernel
theorem dX11_counts_4 : decode cX11_counts 4 = .ok (.aload_n 0, 1) := by decide +kernel
theorem dX11_counts_5 : decode cX11_counts 5 = .ok (.getfield 95, 3) := by decide +kernel
theorem dX11_counts_8 : decode cX11_counts 8 = .ok (.bipush 12, 2) := by decide +kernel
theorem dX11_counts_10 : decode cX11_counts 10 = .ok (.iload_n 1, 1) := by decide +kernel
theorem dX11_counts_11 : decode cX11_counts 11 = .ok (.imul, 1) := by decide +kernel
theorem dX11_counts_12 : decode cX11_counts 12 = .ok (.iload_n 2, 1) := by decide +kernel
theorem dX11_counts_13 : decode cX11_counts 13 = .ok (.iadd, 1) := by decide +kernel
theorem dX11_counts_14 : decode cX11_counts 14 = .ok (.iaload, 1) := by decide +kernel
theorem dX11_counts_15 : decode cX11_counts 15 = .ok (.ldc_w 303, 3) := by decide +kernel
theorem dX11_counts_18 : decode cX11_counts 18 = .ok (.if_icmp .ne 7, 3) := by decide +kernel
theorem dX11_counts_21 : decode cX11_counts 21 = .ok (.ldc_w 303, 3) := by decide +kernel
theorem dX11_counts_24 : decode cX11_counts 24 = .ok (.ireturn, 1) := by decide +kernel
theorem dX11_counts_25 : decode cX11_counts 25 = .ok (.iload_n 2, 1) := by decide +kernel
theorem dX11_counts_26 : decode cX11_counts 26 = .ok (.ifCond .ge 7, 3) := by decide +kernel
theorem dX11_counts_29 : decode cX11_counts 29 = .ok (.iconst 0, 1) := by decide +kernel
theorem dX11_counts_30 : decode cX11_counts 30 = .ok (.goto 14, 3) := by decide +kernel
theorem dX11_counts_33 : decode cX11_counts 33 = .ok (.aload_n 0, 1) := by decide +kernel
theorem dX11_counts_34 : decode cX11_counts 34 = .ok (.getfield 95, 3) := by decide +kernel
theorem dX11_counts_37 : decode cX11_counts 37 = .ok (.bipush 12, 2) := by decide +kernel
theorem dX11_counts_39 : decode cX11_counts 39 = .ok (.iload_n 1, 1) := by decide +kernel
theorem dX11_counts_40 : decode cX11_counts 40 = .ok (.imul, 1) := by decide +kernel
theorem dX11_counts_41 : decode cX11_counts 41 = .ok (.iload_n 2, 1) := by decide +kernel
theorem dX11_counts_42 : decode cX11_counts 42 = .ok (.iadd, 1) := by decide +kernel
theorem dX11_counts_43 : decode cX11_counts 43 = .ok (.iaload, 1) := by decide +kernel
theorem dX11_counts_44 : decode cX11_counts 44 = .ok (.istore_n 3, 1) := by decide +kernel
theorem dX11_counts_45 : decode cX11_counts 45 = .ok (.aload_n 0, 1) := by decide +kernel
theorem dX11_counts_46 : decode cX11_counts 46 = .ok (.getfield 304, 3) := by decide +kernel
theorem dX11_counts_49 : decode cX11_counts 49 = .ok (.ifCond .eq 30, 3) := by decide +kernel
theorem dX11_counts_52 : decode cX11_counts 52 = .ok (.aload_n 0, 1) := by decide +kernel
theorem dX11_counts_53 : decode cX11_counts 53 = .ok (.getfield 104, 3) := by decide +kernel
theorem dX11_counts_56 : decode cX11_counts 56 = .ok (.iload_n 1, 1) := by decide +kernel
theorem dX11_counts_57 : decode cX11_counts 57 = .ok (.iaload, 1) := by decide +kernel
theorem dX11_counts_58 : decode cX11_counts 58 = .ok (.ifCond .lt 21, 3) := by decide +kernel
theorem dX11_counts_61 : decode cX11_counts 61 = .ok (.aload_n 0, 1) := by decide +kernel
theorem dX11_counts_62 : decode cX11_counts 62 = .ok (.getfield 104, 3) := by decide +kernel
theorem dX11_counts_65 : decode cX11_counts 65 = .ok (.iload_n 1, 1) := by decide +kernel
theorem dX11_counts_66 : decode cX11_counts 66 = .ok (.iaload, 1) := by decide +kernel
theorem dX11_counts_67 : decode cX11_counts 67 = .ok (.iload_n 2, 1) := by decide +kernel
theorem dX11_counts_68 : decode cX11_counts 68 = .ok (.if_icmp .eq 11, 3) := by decide +kernel
theorem dX11_counts_71 : decode cX11_counts 71 = .ok (.iload_n 3, 1) := by decide +kernel
theorem dX11_counts_72 : decode cX11_counts 72 = .ok (.ldc_w 308, 3) := by decide +kernel
theorem dX11_counts_75 : decode cX11_counts 75 = .ok (.iadd, 1) := by decide +kernel
theorem dX11_counts_76 : decode cX11_counts 76 = .ok (.goto 4, 3) := by decide +kernel
theorem dX11_counts_79 : decode cX11_counts 79 = .ok (.iload_n 3, 1) := by decide +kernel
theorem dX11_counts_80 : decode cX11_counts 80 = .ok (.ireturn, 1) := by decide +kernel
theorem dX11_mayGo_0 : decode cX11_mayGo 0 = .ok (.iload_n 2, 1) := by decide +kernel
theorem dX11_mayGo_1 : decode cX11_mayGo 1 = .ok (.iload_n 1, 1) := by decide +kernel
theorem dX11_mayGo_2 : decode cX11_mayGo 2 = .ok (.ishr, 1) := by decide +kernel
theorem dX11_mayGo_3 : decode cX11_mayGo 3 = .ok (.iconst 1, 1) := by decide +kernel
theorem dX11_mayGo_4 : decode cX11_mayGo 4 = .ok (.iand, 1) := by decide +kernel
theorem dX11_mayGo_5 : decode cX11_mayGo 5 = .ok (.iconst 1, 1) := by decide +kernel
theorem dX11_mayGo_6 : decode cX11_mayGo 6 = .ok (.if_icmp .eq 12, 3) := by decide +kernel
theorem dX11_mayGo_9 : decode cX11_mayGo 9 = .ok (.aload_n 0, 1) := by decide +kernel
theorem dX11_mayGo_10 : decode cX11_mayGo 10 = .ok (.getfield 98, 3) := by decide +kernel
theorem dX11_mayGo_13 : decode cX11_mayGo 13 = .ok (.iload_n 1, 1) := by decide +kernel
theorem dX11_mayGo_14 : decode cX11_mayGo 14 = .ok (.baload, 1) := by decide +kernel
theorem dX11_mayGo_15 : decode cX11_mayGo 15 = .ok (.ifCond .eq 7, 3) := by decide +kernel
theorem dX11_mayGo_18 : decode cX11_mayGo 18 = .ok (.iconst 1, 1) := by decide +kernel
theorem dX11_mayGo_19 : decode cX11_mayGo 19 = .ok (.goto 4, 3) := by decide +kernel
theorem dX11_mayGo_22 : decode cX11_mayGo 22 = .ok (.iconst 0, 1) := by decide +kernel
theorem dX11_mayGo_23 : decode cX11_mayGo 23 = .ok (.ireturn, 1) := by decide +kernel
theorem dX11_mayStay_0 : decode cX11_mayStay 0 = .ok (.iload_n 2, 1) := by decide +kernel
theorem dX11_mayStay_1 : decode cX11_mayStay 1 = .ok (.iload_n 1, 1) := by decide +kernel
theorem dX11_mayStay_2 : decode cX11_mayStay 2 = .ok (.ishr, 1) := by decide +kernel
theorem dX11_mayStay_3 : decode cX11_mayStay 3 = .ok (.iconst 1, 1) := by decide +kernel
theorem dX11_mayStay_4 : decode cX11_mayStay 4 = .ok (.iand, 1) := by decide +kernel
theorem dX11_mayStay_5 : decode cX11_mayStay 5 = .ok (.ifCond .eq 12, 3) := by decide +kernel
theorem dX11_mayStay_8 : decode cX11_mayStay 8 = .ok (.aload_n 0, 1) := by decide +kernel
theorem dX11_mayStay_9 : decode cX11_mayStay 9 = .ok (.getfield 101, 3) := by decide +kernel
theorem dX11_mayStay_12 : decode cX11_mayStay 12 = .ok (.iload_n 1, 1) := by decide +kernel
theorem dX11_mayStay_13 : decode cX11_mayStay 13 = .ok (.baload, 1) := by decide +kernel
theorem dX11_mayStay_14 : decode cX11_mayStay 14 = .ok (.ifCond .eq 7, 3) := by decide +kernel
theorem dX11_mayStay_17 : decode cX11_mayStay 17 = .ok (.iconst 1, 1) := by decide +kernel
theorem dX11_mayStay_18 : decode cX11_mayStay 18 = .ok (.goto 4, 3) := by decide +kernel
theorem dX11_mayStay_21 : decode cX11_mayStay 21 = .ok (.iconst 0, 1) := by decide +kernel
theorem dX11_mayStay_22 : decode cX11_mayStay 22 = .ok (.ireturn, 1) := by decide +kernel
theorem dX11_fill_0 : decode cX11_fill 0 = .ok (.aload_n 0, 1) := by decide +kernel
theorem dX11_fill_1 : decode cX11_fill 1 = .ok (.getfield 251, 3) := by decide +kernel
theorem dX11_fill_4 : decode cX11_fill 4 = .ok (.istore_n 2, 1) := by decide +kernel
theorem dX11_fill_5 : decode cX11_fill 5 = .ok (.iload_n 2, 1) := by decide +kernel
theorem dX11_fill_6 : decode cX11_fill 6 = .ok (.ifCond .lt 81, 3) := by decide +kernel
theorem dX11_fill_9 : decode cX11_fill 9 = .ok (.iload_n 1, 1) := by decide +kernel
theorem dX11_fill_10 : decode cX11_fill 10 = .ok (.istore_n 3, 1) := by decide +kernel
theorem dX11_fill_11 : decode cX11_fill 11 = .ok (.iconst 1, 1) := by decide +kernel
theorem dX11_fill_12 : decode cX11_fill 12 = .ok (.istore 4, 2) := by decide +kernel
theorem dX11_fill_14 : decode cX11_fill 14 = .ok (.iload 4, 2) := by decide +kernel
theorem dX11_fill_16 : decode cX11_fill 16 = .ok (.ifCond .eq 65, 3) := by decide +kernel
theorem dX11_fill_19 : decode cX11_fill 19 = .ok (.aload_n 0, 1) := by decide +kernel
theorem dX11_fill_20 : decode cX11_fill 20 = .ok (.getfield 108, 3) := by decide +kernel
theorem dX11_fill_23 : decode cX11_fill 23 = .ok (.sipush 4096, 3) := by decide +kernel
theorem dX11_fill_26 : decode cX11_fill 26 = .ok (.iload_n 2, 1) := by decide +kernel
theorem dX11_fill_27 : decode cX11_fill 27 = .ok (.imul, 1) := by decide +kernel
theorem dX11_fill_28 : decode cX11_fill 28 = .ok (.iload_n 3, 1) := by decide +kernel
theorem dX11_fill_29 : decode cX11_fill 29 = .ok (.iadd, 1) := by decide +kernel
theorem dX11_fill_30 : decode cX11_fill 30 = .ok (.iload_n 2, 1) := by decide +kernel
theorem dX11_fill_31 : decode cX11_fill 31 = .ok (.aload_n 0, 1) := by decide +kernel
theorem dX11_fill_32 : decode cX11_fill 32 = .ok (.getfield 251, 3) := by decide +kernel
theorem dX11_fill_35 : decode cX11_fill 35 = .ok (.if_icmp .ne 18, 3) := by decide +kernel
theorem dX11_fill_38 : decode cX11_fill 38 = .ok (.iload_n 3, 1) := by decide +kernel
theorem dX11_fill_39 : decode cX11_fill 39 = .ok (.iload_n 1, 1) := by decide +kernel
theorem dX11_fill_40 : decode cX11_fill 40 = .ok (.if_icmp .ne 7, 3) := by decide +kernel
theorem dX11_fill_43 : decode cX11_fill 43 = .ok (.iconst 0, 1) := by decide +kernel
theorem dX11_fill_44 : decode cX11_fill 44 = .ok (.goto 16, 3) := by decide +kernel
theorem dX11_fill_47 : decode cX11_fill 47 = .ok (.ldc_w 303, 3) := by decide +kernel
theorem dX11_fill_50 : decode cX11_fill 50 = .ok (.goto 10, 3) := by decide +kernel
theorem dX11_fill_53 : decode cX11_fill 53 = .ok (.aload_n 0, 1) := by decide +kernel
theorem dX11_fill_54 : decode cX11_fill 54 = .ok (.iload_n 2, 1) := by decide +kernel
theorem dX11_fill_55 : decode cX11_fill 55 = .ok (.iload_n 3, 1) := by decide +kernel
theorem dX11_fill_56 : decode cX11_fill 56 = .ok (.iload_n 1, 1) := by decide +kernel
theorem dX11_fill_57 : decode cX11_fill 57 = .ok (.invokevirtual 309, 3) := by decide +kernel
theorem dX11_fill_60 : decode cX11_fill 60 = .ok (.iastore, 1) := by decide +kernel
theorem dX11_fill_61 : decode cX11_fill 61 = .ok (.iload_n 3, 1) := by decide +kernel
theorem dX11_fill_62 : decode cX11_fill 62 = .ok (.ifCond .le 7, 3) := by decide +kernel
theorem dX11_fill_65 : decode cX11_fill 65 = .ok (.iconst 1, 1) := by decide +kernel
theorem dX11_fill_66 : decode cX11_fill 66 = .ok (.goto 4, 3) := by decide +kernel
theorem dX11_fill_69 : decode cX11_fill 69 = .ok (.iconst 0, 1) := by decide +kernel
theorem dX11_fill_70 : decode cX11_fill 70 = .ok (.istore 4, 2) := by decide +kernel
theorem dX11_fill_72 : decode cX11_fill 72 = .ok (.iload_n 3, 1) := by decide +kernel
theorem dX11_fill_73 : decode cX11_fill 73 = .ok (.iconst 1, 1) := by decide +kernel
theorem dX11_fill_74 : decode cX11_fill 74 = .ok (.isub, 1) := by decide +kernel
theorem dX11_fill_75 : decode cX11_fill 75 = .ok (.iload_n 1, 1) := by decide +kernel
theorem dX11_fill_76 : decode cX11_fill 76 = .ok (.iand, 1) := by decide +kernel
theorem dX11_fill_77 : decode cX11_fill 77 = .ok (.istore_n 3, 1) := by decide +kernel
theorem dX11_fill_78 : decode cX11_fill 78 = .ok (.goto (-64), 3) := by decide +kernel
theorem dX11_fill_81 : decode cX11_fill 81 = .ok (.iinc 2 (-1), 3) := by decide +kernel
theorem dX11_fill_84 : decode cX11_fill 84 = .ok (.goto (-79), 3) := by decide +kernel
theorem dX11_fill_87 : decode cX11_fill 87 = .ok (.return_, 1) := by decide +kernel
theorem dX11_best_0 : decode cX11_best 0 = .ok (.ldc_w 303, 3) := by decide +kernel
theorem dX11_best_3 : decode cX11_best 3 = .ok (.istore 4, 2) := by decide +kernel
theorem dX11_best_5 : decode cX11_best 5 = .ok (.aload_n 0, 1) := by decide +kernel
theorem dX11_best_6 : decode cX11_best 6 = .ok (.iload_n 1, 1) := by decide +kernel
theorem dX11_best_7 : decode cX11_best 7 = .ok (.iload_n 3, 1) := by decide +kernel
theorem dX11_best_8 : decode cX11_best 8 = .ok (.invokevirtual 312, 3) := by decide +kernel
theorem dX11_best_11 : decode cX11_best 11 = .ok (.ifCond .eq 28, 3) := by decide +kernel
theorem dX11_best_14 : decode cX11_best 14 = .ok (.aload_n 0, 1) := by decide +kernel
theorem dX11_best_15 : decode cX11_best 15 = .ok (.iload_n 1, 1) := by decide +kernel
theorem dX11_best_16 : decode cX11_best 16 = .ok (.iconst (-1), 1) := by decide +kernel
theorem dX11_best_17 : decode cX11_best 17 = .ok (.invokevirtual 315, 3) := by decide +kernel
theorem dX11_best_20 : decode cX11_best 20 = .ok (.aload_n 0, 1) := by decide +kernel
theorem dX11_best_21 : decode cX11_best 21 = .ok (.getfield 108, 3) := by decide +kernel
theorem dX11_best_24 : decode cX11_best 24 = .ok (.sipush 4096, 3) := by decide +kernel
theorem dX11_best_27 : decode cX11_best 27 = .ok (.iload_n 1, 1) := by decide +kernel
theorem dX11_best_28 : decode cX11_best 28 = .ok (.iconst 1, 1) := by decide +kernel
theorem dX11_best_29 : decode cX11_best 29 = .ok (.iadd, 1) := by decide +kernel
theorem dX11_best_30 : decode cX11_best 30 = .ok (.imul, 1) := by decide +kernel
theorem dX11_best_31 : decode cX11_best 31 = .ok (.iload_n 2, 1) := by decide +kernel
theorem dX11_best_32 : decode cX11_best 32 = .ok (.iadd, 1) := by decide +kernel
theorem dX11_best_33 : decode cX11_best 33 = .ok (.iaload, 1) := by decide +kernel
theorem dX11_best_34 : decode cX11_best 34 = .ok (.invokestatic 319, 3) := by decide +kernel
theorem dX11_best_37 : decode cX11_best 37 = .ok (.istore 4, 2) := by decide +kernel
theorem dX11_best_39 : decode cX11_best 39 = .ok (.iconst 0, 1) := by decide +kernel
theorem dX11_best_40 : decode cX11_best 40 = .ok (.istore 5, 2) := by decide +kernel
theorem dX11_best_42 : decode cX11_best 42 = .ok (.iload 5, 2) := by decide +kernel
theorem dX11_best_44 : decode cX11_best 44 = .ok (.aload_n 0, 1) := by decide +kernel
theorem dX11_best_45 : decode cX11_best 45 = .ok (.getfield 251, 3) := by decide +kernel
theorem dX11_best_48 : decode cX11_best 48 = .ok (.if_icmp .ge 84, 3) := by decide +kernel
theorem dX11_best_51 : decode cX11_best 51 = .ok (.aload_n 0, 1) := by decide +kernel
theorem dX11_best_52 : decode cX11_best 52 = .ok (.iload_n 1, 1) := by decide +kernel
theorem dX11_best_53 : decode cX11_best 53 = .ok (.iload_n 3, 1) := by decide +kernel
theorem dX11_best_54 : decode cX11_best 54 = .ok (.invokevirtual 322, 3) := by decide +kernel
theorem dX11_best_57 : decode cX11_best 57 = .ok (.ifCond .eq 75, 3) := by decide +kernel
theorem dX11_best_60 : decode cX11_best 60 = .ok (.iload_n 3, 1) := by decide +kernel
theorem dX11_best_61 : decode cX11_best 61 = .ok (.iload 5, 2) := by decide +kernel
theorem dX11_best_63 : decode cX11_best 63 = .ok (.ishr, 1) := by decide +kernel
theorem dX11_best_64 : decode cX11_best 64 = .ok (.iconst 1, 1) := by decide +kernel
theorem dX11_best_65 : decode cX11_best 65 = .ok (.iand, 1) := by decide +kernel
theorem dX11_best_66 : decode cX11_best 66 = .ok (.iconst 1, 1) := by decide +kernel
theorem dX11_best_67 : decode cX11_best 67 = .ok (.if_icmp .ne 59, 3) := by decide +kernel
theorem dX11_best_70 : decode cX11_best 70 = .ok (.iload_n 2, 1) := by decide +kernel
theorem dX11_best_71 : decode cX11_best 71 = .ok (.iload 5, 2) := by decide +kernel
theorem dX11_best_73 : decode cX11_best 73 = .ok (.ishr, 1) := by decide +kernel
theorem dX11_best_74 : decode cX11_best 74 = .ok (.iconst 1, 1) := by decide +kernel
theorem dX11_best_75 : decode cX11_best 75 = .ok (.iand, 1) := by decide +kernel
theorem dX11_best_76 : decode cX11_best 76 = .ok (.ifCond .ne 50, 3) := by decide +kernel
theorem dX11_best_79 : decode cX11_best 79 = .ok (.aload_n 0, 1) := by decide +kernel
theorem dX11_best_80 : decode cX11_best 80 = .ok (.iload_n 1, 1) := by decide +kernel
theorem dX11_best_81 : decode cX11_best 81 = .ok (.iload 5, 2) := by decide +kernel
theorem dX11_best_83 : decode cX11_best 83 = .ok (.invokevirtual 315, 3) := by decide +kernel
theorem dX11_best_86 : decode cX11_best 86 = .ok (.aload_n 0, 1) := by decide +kernel
theorem dX11_best_87 : decode cX11_best 87 = .ok (.getfield 108, 3) := by decide +kernel
theorem dX11_best_90 : decode cX11_best 90 = .ok (.sipush 4096, 3) := by decide +kernel
theorem dX11_best_93 : decode cX11_best 93 = .ok (.iload_n 1, 1) := by decide +kernel
theorem dX11_best_94 : decode cX11_best 94 = .ok (.iconst 1, 1) := by decide +kernel
theorem dX11_best_95 : decode cX11_best 95 = .ok (.iadd, 1) := by decide +kernel
theorem dX11_best_96 : decode cX11_best 96 = .ok (.imul, 1) := by decide +kernel
theorem dX11_best_97 : decode cX11_best 97 = .ok (.iload_n 2, 1) := by decide +kernel
theorem dX11_best_98 : decode cX11_best 98 = .ok (.iconst 1, 1) := by decide +kernel
theorem dX11_best_99 : decode cX11_best 99 = .ok (.iload 5, 2) := by decide +kernel
theorem dX11_best_101 : decode cX11_best 101 = .ok (.ishl, 1) := by decide +kernel
theorem dX11_best_102 : decode cX11_best 102 = .ok (.ior, 1) := by decide +kernel
theorem dX11_best_103 : decode cX11_best 103 = .ok (.iadd, 1) := by decide +kernel
theorem dX11_best_104 : decode cX11_best 104 = .ok (.iaload, 1) := by decide +kernel
theorem dX11_best_105 : decode cX11_best 105 = .ok (.invokestatic 319, 3) := by decide +kernel
theorem dX11_best_108 : decode cX11_best 108 = .ok (.istore 6, 2) := by decide +kernel
theorem dX11_best_110 : decode cX11_best 110 = .ok (.iload 6, 2) := by decide +kernel
theorem dX11_best_112 : decode cX11_best 112 = .ok (.iload 4, 2) := by decide +kernel
theorem dX11_best_114 : decode cX11_best 114 = .ok (.if_icmp .ge 8, 3) := by decide +kernel
theorem dX11_best_117 : decode cX11_best 117 = .ok (.iload 6, 2) := by decide +kernel
theorem dX11_best_119 : decode cX11_best 119 = .ok (.goto 5, 3) := by decide +kernel
theorem dX11_best_122 : decode cX11_best 122 = .ok (.iload 4, 2) := by decide +kernel
theorem dX11_best_124 : decode cX11_best 124 = .ok (.istore 4, 2) := by decide +kernel
theorem dX11_best_126 : decode cX11_best 126 = .ok (.iinc 5 1, 3) := by decide +kernel
theorem dX11_best_129 : decode cX11_best 129 = .ok (.goto (-87), 3) := by decide +kernel
theorem dX11_best_132 : decode cX11_best 132 = .ok (.iload 4, 2) := by decide +kernel
theorem dX11_best_134 : decode cX11_best 134 = .ok (.ireturn, 1) := by decide +kernel
theorem dX11_sum_0 : decode cX11_sum 0 = .ok (.iload_n 0, 1) := by decide +kernel
theorem dX11_sum_1 : decode cX11_sum 1 = .ok (.ldc_w 303, 3) := by decide +kernel
theorem dX11_sum_4 : decode cX11_sum 4 = .ok (.if_icmp .ge 10, 3) := by decide +kernel
theorem dX11_sum_7 : decode cX11_sum 7 = .ok (.iload_n 1, 1) := by decide +kernel
theorem dX11_sum_8 : decode cX11_sum 8 = .ok (.ldc_w 303, 3) := by decide +kernel
theorem dX11_sum_11 : decode cX11_sum 11 = .ok (.if_icmp .lt 9, 3) := by decide +kernel
theorem dX11_sum_14 : decode cX11_sum 14 = .ok (.ldc_w 303, 3) := by decide +kernel
theorem dX11_sum_17 : decode cX11_sum 17 = .ok (.goto 6, 3) := by decide +kernel
theorem dX11_sum_20 : decode cX11_sum 20 = .ok (.iload_n 0, 1) := by decide +kernel
theorem dX11_sum_21 : decode cX11_sum 21 = .ok (.iload_n 1, 1) := by decide +kernel
theorem dX11_sum_22 : decode cX11_sum 22 = .ok (.iadd, 1) := by decide +kernel
theorem dX11_sum_23 : decode cX11_sum 23 = .ok (.ireturn, 1) := by decide +kernel
theorem dX11_follow_0 : decode cX11_follow 0 = .ok (.iconst 0, 1) := by decide +kernel
theorem dX11_follow_1 : decode cX11_follow 1 = .ok (.istore_n 2, 1) := by decide +kernel
theorem dX11_follow_2 : decode cX11_follow 2 = .ok (.iconst 0, 1) := by decide +kernel
theorem dX11_follow_3 : decode cX11_follow 3 = .ok (.istore_n 3, 1) := by decide +kernel
theorem dX11_follow_4 : decode cX11_follow 4 = .ok (.iload_n 3, 1) := by decide +kernel
theorem dX11_follow_5 : decode cX11_follow 5 = .ok (.aload_n 0, 1) := by decide +kernel
theorem dX11_follow_6 : decode cX11_follow 6 = .ok (.getfield 251, 3) := by decide +kernel
theorem dX11_follow_9 : decode cX11_follow 9 = .ok (.if_icmp .ge 139, 3) := by decide +kernel
theorem dX11_follow_12 : decode cX11_follow 12 = .ok (.aload_n 0, 1) := by decide +kernel
theorem dX11_follow_13 : decode cX11_follow 13 = .ok (.getfield 108, 3) := by decide +kernel
theorem dX11_follow_16 : decode cX11_follow 16 = .ok (.sipush 4096, 3) := by decide +kernel
theorem dX11_follow_19 : decode cX11_follow 19 = .ok (.iload_n 3, 1) := by decide +kernel
theorem dX11_follow_20 : decode cX11_follow 20 = .ok (.imul, 1) := by decide +kernel
theorem dX11_follow_21 : decode cX11_follow 21 = .ok (.iload_n 2, 1) := by decide +kernel
theorem dX11_follow_22 : decode cX11_follow 22 = .ok (.iadd, 1) := by decide +kernel
theorem dX11_follow_23 : decode cX11_follow 23 = .ok (.iaload, 1) := by decide +kernel
theorem dX11_follow_24 : decode cX11_follow 24 = .ok (.istore 4, 2) := by decide +kernel
theorem dX11_follow_26 : decode cX11_follow 26 = .ok (.iconst (-1), 1) := by decide +kernel
theorem dX11_follow_27 : decode cX11_follow 27 = .ok (.istore 5, 2) := by decide +kernel
theorem dX11_follow_29 : decode cX11_follow 29 = .ok (.iconst 0, 1) := by decide +kernel
theorem dX11_follow_30 : decode cX11_follow 30 = .ok (.istore 6, 2) := by decide +kernel
theorem dX11_follow_32 : decode cX11_follow 32 = .ok (.iload 6, 2) := by decide +kernel
theorem dX11_follow_34 : decode cX11_follow 34 = .ok (.aload_n 0, 1) := by decide +kernel
theorem dX11_follow_35 : decode cX11_follow 35 = .ok (.getfield 251, 3) := by decide +kernel
theorem dX11_follow_38 : decode cX11_follow 38 = .ok (.if_icmp .ge 80, 3) := by decide +kernel
theorem dX11_follow_41 : decode cX11_follow 41 = .ok (.iload 5, 2) := by decide +kernel
theorem dX11_follow_43 : decode cX11_follow 43 = .ok (.ifCond .ge 75, 3) := by decide +kernel
theorem dX11_follow_46 : decode cX11_follow 46 = .ok (.aload_n 0, 1) := by decide +kernel
theorem dX11_follow_47 : decode cX11_follow 47 = .ok (.iload_n 3, 1) := by decide +kernel
theorem dX11_follow_48 : decode cX11_follow 48 = .ok (.iload_n 1, 1) := by decide +kernel
theorem dX11_follow_49 : decode cX11_follow 49 = .ok (.invokevirtual 322, 3) := by decide +kernel
theorem dX11_follow_52 : decode cX11_follow 52 = .ok (.ifCond .eq 66, 3) := by decide +kernel
theorem dX11_follow_55 : decode cX11_follow 55 = .ok (.iload_n 1, 1) := by decide +kernel
theorem dX11_follow_56 : decode cX11_follow 56 = .ok (.iload 6, 2) := by decide +kernel
theorem dX11_follow_58 : decode cX11_follow 58 = .ok (.ishr, 1) := by decide +kernel
theorem dX11_follow_59 : decode cX11_follow 59 = .ok (.iconst 1, 1) := by decide +kernel
theorem dX11_follow_60 : decode cX11_follow 60 = .ok (.iand, 1) := by decide +kernel
theorem dX11_follow_61 : decode cX11_follow 61 = .ok (.iconst 1, 1) := by decide +kernel
theorem dX11_follow_62 : decode cX11_follow 62 = .ok (.if_icmp .ne 50, 3) := by decide +kernel
theorem dX11_follow_65 : decode cX11_follow 65 = .ok (.iload_n 2, 1) := by decide +kernel
theorem dX11_follow_66 : decode cX11_follow 66 = .ok (.iload 6, 2) := by decide +kernel
theorem dX11_follow_68 : decode cX11_follow 68 = .ok (.ishr, 1) := by decide +kernel
theorem dX11_follow_69 : decode cX11_follow 69 = .ok (.iconst 1, 1) := by decide +kernel
theorem dX11_follow_70 : decode cX11_follow 70 = .ok (.iand, 1) := by decide +kernel
theorem dX11_follow_71 : decode cX11_follow 71 = .ok (.ifCond .ne 41, 3) := by decide +kernel
theorem dX11_follow_74 : decode cX11_follow 74 = .ok (.aload_n 0, 1) := by decide +kernel
theorem dX11_follow_75 : decode cX11_follow 75 = .ok (.iload_n 3, 1) := by decide +kernel
theorem dX11_follow_76 : decode cX11_follow 76 = .ok (.iload 6, 2) := by decide +kernel
theorem dX11_follow_78 : decode cX11_follow 78 = .ok (.invokevirtual 315, 3) := by decide +kernel
theorem dX11_follow_81 : decode cX11_follow 81 = .ok (.aload_n 0, 1) := by decide +kernel
theorem dX11_follow_82 : decode cX11_follow 82 = .ok (.getfield 108, 3) := by decide +kernel
theorem dX11_follow_85 : decode cX11_follow 85 = .ok (.sipush 4096, 3) := by decide +kernel
theorem dX11_follow_88 : decode cX11_follow 88 = .ok (.iload_n 3, 1) := by decide +kernel
theorem dX11_follow_89 : decode cX11_follow 89 = .ok (.iconst 1, 1) := by decide +kernel
theorem dX11_follow_90 : decode cX11_follow 90 = .ok (.iadd, 1) := by decide +kernel
theorem dX11_follow_91 : decode cX11_follow 91 = .ok (.imul, 1) := by decide +kernel
theorem dX11_follow_92 : decode cX11_follow 92 = .ok (.iload_n 2, 1) := by decide +kernel
theorem dX11_follow_93 : decode cX11_follow 93 = .ok (.iconst 1, 1) := by decide +kernel
theorem dX11_follow_94 : decode cX11_follow 94 = .ok (.iload 6, 2) := by decide +kernel
theorem dX11_follow_96 : decode cX11_follow 96 = .ok (.ishl, 1) := by decide +kernel
theorem dX11_follow_97 : decode cX11_follow 97 = .ok (.ior, 1) := by decide +kernel
theorem dX11_follow_98 : decode cX11_follow 98 = .ok (.iadd, 1) := by decide +kernel
theorem dX11_follow_99 : decode cX11_follow 99 = .ok (.iaload, 1) := by decide +kernel
theorem dX11_follow_100 : decode cX11_follow 100 = .ok (.invokestatic 319, 3) := by decide +kernel
theorem dX11_follow_103 : decode cX11_follow 103 = .ok (.iload 4, 2) := by decide +kernel
theorem dX11_follow_105 : decode cX11_follow 105 = .ok (.if_icmp .ne 7, 3) := by decide +kernel
theorem dX11_follow_108 : decode cX11_follow 108 = .ok (.iload 6, 2) := by decide +kernel
theorem dX11_follow_110 : decode cX11_follow 110 = .ok (.istore 5, 2) := by decide +kernel
theorem dX11_follow_112 : decode cX11_follow 112 = .ok (.iinc 6 1, 3) := by decide +kernel
theorem dX11_follow_115 : decode cX11_follow 115 = .ok (.goto (-83), 3) := by decide +kernel
theorem dX11_follow_118 : decode cX11_follow 118 = .ok (.aload_n 0, 1) := by decide +kernel
theorem dX11_follow_119 : decode cX11_follow 119 = .ok (.getfield 111, 3) := by decide +kernel
theorem dX11_follow_122 : decode cX11_follow 122 = .ok (.iload_n 3, 1) := by decide +kernel
theorem dX11_follow_123 : decode cX11_follow 123 = .ok (.iload 5, 2) := by decide +kernel
theorem dX11_follow_125 : decode cX11_follow 125 = .ok (.iastore, 1) := by decide +kernel
theorem dX11_follow_126 : decode cX11_follow 126 = .ok (.iload 5, 2) := by decide +kernel
theorem dX11_follow_128 : decode cX11_follow 128 = .ok (.ifCond .ge 7, 3) := by decide +kernel
theorem dX11_follow_131 : decode cX11_follow 131 = .ok (.iload_n 2, 1) := by decide +kernel
theorem dX11_follow_132 : decode cX11_follow 132 = .ok (.goto 9, 3) := by decide +kernel
theorem dX11_follow_135 : decode cX11_follow 135 = .ok (.iload_n 2, 1) := by decide +kernel
theorem dX11_follow_136 : decode cX11_follow 136 = .ok (.iconst 1, 1) := by decide +kernel
theorem dX11_follow_137 : decode cX11_follow 137 = .ok (.iload 5, 2) := by decide +kernel
theorem dX11_follow_139 : decode cX11_follow 139 = .ok (.ishl, 1) := by decide +kernel
theorem dX11_follow_140 : decode cX11_follow 140 = .ok (.ior, 1) := by decide +kernel
theorem dX11_follow_141 : decode cX11_follow 141 = .ok (.istore_n 2, 1) := by decide +kernel
theorem dX11_follow_142 : decode cX11_follow 142 = .ok (.iinc 3 1, 3) := by decide +kernel
theorem dX11_follow_145 : decode cX11_follow 145 = .ok (.goto (-141), 3) := by decide +kernel
theorem dX11_follow_148 : decode cX11_follow 148 = .ok (.return_, 1) := by decide +kernel
theorem dX11_isAhead_0 : decode cX11_isAhead 0 = .ok (.iconst 0, 1) := by decide +kernel
theorem dX11_isAhead_1 : decode cX11_isAhead 1 = .ok (.istore_n 1, 1) := by decide +kernel
theorem dX11_isAhead_2 : decode cX11_isAhead 2 = .ok (.iload_n 1, 1) := by decide +kernel
theorem dX11_isAhead_3 : decode cX11_isAhead 3 = .ok (.aload_n 0, 1) := by decide +kernel
theorem dX11_isAhead_4 : decode cX11_isAhead 4 = .ok (.getfield 251, 3) := by decide +kernel
theorem dX11_isAhead_7 : decode cX11_isAhead 7 = .ok (.if_icmp .ge 63, 3) := by decide +kernel
theorem dX11_isAhead_10 : decode cX11_isAhead 10 = .ok (.aload_n 0, 1) := by decide +kernel
theorem dX11_isAhead_11 : decode cX11_isAhead 11 = .ok (.getfield 111, 3) := by decide +kernel
theorem dX11_isAhead_14 : decode cX11_isAhead 14 = .ok (.iload_n 1, 1) := by decide +kernel
theorem dX11_isAhead_15 : decode cX11_isAhead 15 = .ok (.iaload, 1) := by decide +kernel
theorem dX11_isAhead_16 : decode cX11_isAhead 16 = .ok (.aload_n 0, 1) := by decide +kernel
theorem dX11_isAhead_17 : decode cX11_isAhead 17 = .ok (.getfield 114, 3) := by decide +kernel
theorem dX11_isAhead_20 : decode cX11_isAhead 20 = .ok (.iload_n 1, 1) := by decide +kernel
theorem dX11_isAhead_21 : decode cX11_isAhead 21 = .ok (.iaload, 1) := by decide +kernel
theorem dX11_isAhead_22 : decode cX11_isAhead 22 = .ok (.if_icmp .eq 42, 3) := by decide +kernel
theorem dX11_isAhead_25 : decode cX11_isAhead 25 = .ok (.aload_n 0, 1) := by decide +kernel
theorem dX11_isAhead_26 : decode cX11_isAhead 26 = .ok (.getfield 114, 3) := by decide +kernel
theorem dX11_isAhead_29 : decode cX11_isAhead 29 = .ok (.iload_n 1, 1) := by decide +kernel
theorem dX11_isAhead_30 : decode cX11_isAhead 30 = .ok (.iaload, 1) := by decide +kernel
theorem dX11_isAhead_31 : decode cX11_isAhead 31 = .ok (.ifCond .lt 27, 3) := by decide +kernel
theorem dX11_isAhead_34 : decode cX11_isAhead 34 = .ok (.aload_n 0, 1) := by decide +kernel
theorem dX11_isAhead_35 : decode cX11_isAhead 35 = .ok (.getfield 111, 3) := by decide +kernel
theorem dX11_isAhead_38 : decode cX11_isAhead 38 = .ok (.iload_n 1, 1) := by decide +kernel
theorem dX11_isAhead_39 : decode cX11_isAhead 39 = .ok (.iaload, 1) := by decide +kernel
theorem dX11_isAhead_40 : decode cX11_isAhead 40 = .ok (.ifCond .lt 22, 3) := by decide +kernel
theorem dX11_isAhead_43 : decode cX11_isAhead 43 = .ok (.aload_n 0, 1) := by decide +kernel
theorem dX11_isAhead_44 : decode cX11_isAhead 44 = .ok (.getfield 111, 3) := by decide +kernel
theorem dX11_isAhead_47 : decode cX11_isAhead 47 = .ok (.iload_n 1, 1) := by decide +kernel
theorem dX11_isAhead_48 : decode cX11_isAhead 48 = .ok (.iaload, 1) := by decide +kernel
theorem dX11_isAhead_49 : decode cX11_isAhead 49 = .ok (.aload_n 0, 1) := by decide +kernel
theorem dX11_isAhead_50 : decode cX11_isAhead 50 = .ok (.getfield 114, 3) := by decide +kernel
theorem dX11_isAhead_53 : decode cX11_isAhead 53 = .ok (.iload_n 1, 1) := by decide +kernel
theorem dX11_isAhead_54 : decode cX11_isAhead 54 = .ok (.iaload, 1) := by decide +kernel
theorem dX11_isAhead_55 : decode cX11_isAhead 55 = .ok (.if_icmp .ge 7, 3) := by decide +kernel
theorem dX11_isAhead_58 : decode cX11_isAhead 58 = .ok (.iconst 1, 1) := by decide +kernel
theorem dX11_isAhead_59 : decode cX11_isAhead 59 = .ok (.goto 4, 3) := by decide +kernel
theorem dX11_isAhead_62 : decode cX11_isAhead 62 = .ok (.iconst 0, 1) := by decide +kernel
theorem dX11_isAhead_63 : decode cX11_isAhead 63 = .ok (.ireturn, 1) := by decide +kernel
theorem dX11_isAhead_64 : decode cX11_isAhead 64 = .ok (.iinc 1 1, 3) := by decide +kernel
theorem dX11_isAhead_67 : decode cX11_isAhead 67 = .ok (.goto (-65), 3) := by decide +kernel
theorem dX11_isAhead_70 : decode cX11_isAhead 70 = .ok (.iconst 0, 1) := by decide +kernel
theorem dX11_isAhead_71 : decode cX11_isAhead 71 = .ok (.ireturn, 1) := by decide +kernel
theorem dX11_bits_0 : decode cX11_bits 0 = .ok (.iconst 0, 1) := by decide +kernel
theorem dX11_bits_1 : decode cX11_bits 1 = .ok (.istore_n 1, 1) := by decide +kernel
theorem dX11_bits_2 : decode cX11_bits 2 = .ok (.iconst 0, 1) := by decide +kernel
theorem dX11_bits_3 : decode cX11_bits 3 = .ok (.istore_n 2, 1) := by decide +kernel
theorem dX11_bits_4 : decode cX11_bits 4 = .ok (.iload_n 2, 1) := by decide +kernel
theorem dX11_bits_5 : decode cX11_bits 5 = .ok (.bipush 12, 2) := by decide +kernel
theorem dX11_bits_7 : decode cX11_bits 7 = .ok (.if_icmp .ge 17, 3) := by decide +kernel
theorem dX11_bits_10 : decode cX11_bits 10 = .ok (.iload_n 1, 1) := by decide +kernel
theorem dX11_bits_11 : decode cX11_bits 11 = .ok (.iload_n 0, 1) := by decide +kernel
theorem dX11_bits_12 : decode cX11_bits 12 = .ok (.iload_n 2, 1) := by decide +kernel
theorem dX11_bits_13 : decode cX11_bits 13 = .ok (.ishr, 1) := by decide +kernel
theorem dX11_bits_14 : decode cX11_bits 14 = .ok (.iconst 1, 1) := by decide +kernel
theorem dX11_bits_15 : decode cX11_bits 15 = .ok (.iand, 1) := by decide +kernel
theorem dX11_bits_16 : decode cX11_bits 16 = .ok (.iadd, 1) := by decide +kernel
theorem dX11_bits_17 : decode cX11_bits 17 = .ok (.istore_n 1, 1) := by decide +kernel
theorem dX11_bits_18 : decode cX11_bits 18 = .ok (.iinc 2 1, 3) := by decide +kernel
theorem dX11_bits_21 : decode cX11_bits 21 = .ok (.goto (-17), 3) := by decide +kernel
theorem dX11_bits_24 : decode cX11_bits 24 = .ok (.iload_n 1, 1) := by decide +kernel
theorem dX11_bits_25 : decode cX11_bits 25 = .ok (.ireturn, 1) := by decide +kernel
theorem dX11_against_0 : decode cX11_against 0 = .ok (.iload_n 1, 1) := by decide +kernel
theorem dX11_against_1 : decode cX11_against 1 = .ok (.ldc_w 308, 3) := by decide +kernel
theorem dX11_against_4 : decode cX11_against 4 = .ok (.idiv, 1) := by decide +kernel
theorem dX11_against_5 : decode cX11_against 5 = .ok (.aload_n 0, 1) := by decide +kernel
theorem dX11_against_6 : decode cX11_against 6 = .ok (.getfield 325, 3) := by decide +kernel
theorem dX11_against_9 : decode cX11_against 9 = .ok (.ldc_w 308, 3) := by decide +kernel
theorem dX11_against_12 : decode cX11_against 12 = .ok (.idiv, 1) := by decide +kernel
theorem dX11_against_13 : decode cX11_against 13 = .ok (.if_icmp .eq 18, 3) := by decide +kernel
theorem dX11_against_16 : decode cX11_against 16 = .ok (.iload_n 1, 1) := by decide +kernel
theorem dX11_against_17 : decode cX11_against 17 = .ok (.ldc_w 308, 3) := by decide +kernel
theorem dX11_against_20 : decode cX11_against 20 = .ok (.idiv, 1) := by decide +kernel
theorem dX11_against_21 : decode cX11_against 21 = .ok (.aload_n 0, 1) := by decide +kernel
theorem dX11_against_22 : decode cX11_against 22 = .ok (.getfield 325, 3) := by decide +kernel
theorem dX11_against_25 : decode cX11_against 25 = .ok (.ldc_w 308, 3) := by decide +kernel
theorem dX11_against_28 : decode cX11_against 28 = .ok (.idiv, 1) := by decide +kernel
theorem dX11_against_29 : decode cX11_against 29 = .ok (.isub, 1) := by decide +kernel
theorem dX11_against_30 : decode cX11_against 30 = .ok (.ireturn, 1) := by decide +kernel
theorem dX11_against_31 : decode cX11_against 31 = .ok (.iload_n 2, 1) := by decide +kernel
theorem dX11_against_32 : decode cX11_against 32 = .ok (.aload_n 0, 1) := by decide +kernel
theorem dX11_against_33 : decode cX11_against 33 = .ok (.getfield 328, 3) := by decide +kernel
theorem dX11_against_36 : decode cX11_against 36 = .ok (.if_icmp .eq 12, 3) := by decide +kernel
theorem dX11_against_39 : decode cX11_against 39 = .ok (.aload_n 0, 1) := by decide +kernel
theorem dX11_against_40 : decode cX11_against 40 = .ok (.getfield 328, 3) := by decide +kernel
theorem dX11_against_43 : decode cX11_against 43 = .ok (.iload_n 2, 1) := by decide +kernel
theorem dX11_against_44 : decode cX11_against 44 = .ok (.isub, 1) := by decide +kernel
theorem dX11_against_45 : decode cX11_against 45 = .ok (.goto 17, 3) := by decide +kernel
theorem dX11_against_48 : decode cX11_against 48 = .ok (.iload_n 1, 1) := by decide +kernel
theorem dX11_against_49 : decode cX11_against 49 = .ok (.ldc_w 308, 3) := by decide +kernel
theorem dX11_against_52 : decode cX11_against 52 = .ok (.irem, 1) := by decide +kernel
theorem dX11_against_53 : decode cX11_against 53 = .ok (.aload_n 0, 1) := by decide +kernel
theorem dX11_against_54 : decode cX11_against 54 = .ok (.getfield 325, 3) := by decide +kernel
theorem dX11_against_57 : decode cX11_against 57 = .ok (.ldc_w 308, 3) := by decide +kernel
theorem dX11_against_60 : decode cX11_against 60 = .ok (.irem, 1) := by decide +kernel
theorem dX11_against_61 : decode cX11_against 61 = .ok (.isub, 1) := by decide +kernel
theorem dX11_against_62 : decode cX11_against 62 = .ok (.ireturn, 1) := by decide +kernel
theorem dX11_search_0 : decode cX11_search 0 = .ok (.aload_n 0, 1) := by decide +kernel
theorem dX11_search_1 : decode cX11_search 1 = .ok (.ldc_w 303, 3) := by decide +kernel
theorem dX11_search_4 : decode cX11_search 4 = .ok (.putfield 325, 3) := by decide +kernel
theorem dX11_search_7 : decode cX11_search 7 = .ok (.aload_n 0, 1) := by decide +kernel
theorem dX11_search_8 : decode cX11_search 8 = .ok (.iconst 0, 1) := by decide +kernel
theorem dX11_search_9 : decode cX11_search 9 = .ok (.putfield 328, 3) := by decide +kernel
theorem dX11_search_12 : decode cX11_search 12 = .ok (.iconst 0, 1) := by decide +kernel
theorem dX11_search_13 : decode cX11_search 13 = .ok (.istore_n 1, 1) := by decide +kernel
theorem dX11_search_14 : decode cX11_search 14 = .ok (.iconst 0, 1) := by decide +kernel
theorem dX11_search_15 : decode cX11_search 15 = .ok (.istore_n 2, 1) := by decide +kernel
theorem dX11_search_16 : decode cX11_search 16 = .ok (.iload_n 2, 1) := by decide +kernel
theorem dX11_search_17 : decode cX11_search 17 = .ok (.bipush 12, 2) := by decide +kernel
theorem dX11_search_19 : decode cX11_search 19 = .ok (.aload_n 0, 1) := by decide +kernel
theorem dX11_search_20 : decode cX11_search 20 = .ok (.getfield 251, 3) := by decide +kernel
theorem dX11_search_23 : decode cX11_search 23 = .ok (.imul, 1) := by decide +kernel
theorem dX11_search_24 : decode cX11_search 24 = .ok (.if_icmp .ge 45, 3) := by decide +kernel
theorem dX11_search_27 : decode cX11_search 27 = .ok (.iload_n 2, 1) := by decide +kernel
theorem dX11_search_28 : decode cX11_search 28 = .ok (.bipush 12, 2) := by decide +kernel
theorem dX11_search_30 : decode cX11_search 30 = .ok (.irem, 1) := by decide +kernel
theorem dX11_search_31 : decode cX11_search 31 = .ok (.aload_n 0, 1) := by decide +kernel
theorem dX11_search_32 : decode cX11_search 32 = .ok (.getfield 251, 3) := by decide +kernel
theorem dX11_search_35 : decode cX11_search 35 = .ok (.if_icmp .ge 26, 3) := by decide +kernel
theorem dX11_search_38 : decode cX11_search 38 = .ok (.aload_n 0, 1) := by decide +kernel
theorem dX11_search_39 : decode cX11_search 39 = .ok (.getfield 95, 3) := by decide +kernel
theorem dX11_search_42 : decode cX11_search 42 = .ok (.iload_n 2, 1) := by decide +kernel
theorem dX11_search_43 : decode cX11_search 43 = .ok (.iaload, 1) := by decide +kernel
theorem dX11_search_44 : decode cX11_search 44 = .ok (.ldc_w 303, 3) := by decide +kernel
theorem dX11_search_47 : decode cX11_search 47 = .ok (.if_icmp .ge 14, 3) := by decide +kernel
theorem dX11_search_50 : decode cX11_search 50 = .ok (.iload_n 1, 1) := by decide +kernel
theorem dX11_search_51 : decode cX11_search 51 = .ok (.iconst 1, 1) := by decide +kernel
theorem dX11_search_52 : decode cX11_search 52 = .ok (.iload_n 2, 1) := by decide +kernel
theorem dX11_search_53 : decode cX11_search 53 = .ok (.bipush 12, 2) := by decide +kernel
theorem dX11_search_55 : decode cX11_search 55 = .ok (.irem, 1) := by decide +kernel
theorem dX11_search_56 : decode cX11_search 56 = .ok (.ishl, 1) := by decide +kernel
theorem dX11_search_57 : decode cX11_search 57 = .ok (.ior, 1) := by decide +kernel
theorem dX11_search_58 : decode cX11_search 58 = .ok (.goto 4, 3) := by decide +kernel
theorem dX11_search_61 : decode cX11_search 61 = .ok (.iload_n 1, 1) := by decide +kernel
theorem dX11_search_62 : decode cX11_search 62 = .ok (.istore_n 1, 1) := by decide +kernel
theorem dX11_search_63 : decode cX11_search 63 = .ok (.iinc 2 1, 3) := by decide +kernel
theorem dX11_search_66 : decode cX11_search 66 = .ok (.goto (-50), 3) := by decide +kernel
theorem dX11_search_69 : decode cX11_search 69 = .ok (.iconst 0, 1) := by decide +kernel
theorem dX11_search_70 : decode cX11_search 70 = .ok (.istore_n 2, 1) := by decide +kernel
theorem dX11_search_71 : decode cX11_search 71 = .ok (.iload_n 2, 1) := by decide +kernel
theorem dX11_search_72 : decode cX11_search 72 = .ok (.iconst 1, 1) := by decide +kernel
theorem dX11_search_73 : decode cX11_search 73 = .ok (.aload_n 0, 1) := by decide +kernel
theorem dX11_search_74 : decode cX11_search 74 = .ok (.getfield 251, 3) := by decide +kernel
theorem dX11_search_77 : decode cX11_search 77 = .ok (.ishl, 1) := by decide +kernel
theorem dX11_search_78 : decode cX11_search 78 = .ok (.if_icmp .ge 158, 3) := by decide +kernel
theorem dX11_search_81 : decode cX11_search 81 = .ok (.iload_n 2, 1) := by decide +kernel
theorem dX11_search_82 : decode cX11_search 82 = .ok (.iload_n 1, 1) := by decide +kernel
theorem dX11_search_83 : decode cX11_search 83 = .ok (.iconst (-1), 1) := by decide +kernel
theorem dX11_search_84 : decode cX11_search 84 = .ok (.ixor, 1) := by decide +kernel
theorem dX11_search_85 : decode cX11_search 85 = .ok (.iand, 1) := by decide +kernel
theorem dX11_search_86 : decode cX11_search 86 = .ok (.ifCond .ne 7, 3) := by decide +kernel
theorem dX11_search_89 : decode cX11_search 89 = .ok (.iconst 1, 1) := by decide +kernel
theorem dX11_search_90 : decode cX11_search 90 = .ok (.goto 4, 3) := by decide +kernel
theorem dX11_search_93 : decode cX11_search 93 = .ok (.iconst 0, 1) := by decide +kernel
theorem dX11_search_94 : decode cX11_search 94 = .ok (.istore_n 3, 1) := by decide +kernel
theorem dX11_search_95 : decode cX11_search 95 = .ok (.iload_n 3, 1) := by decide +kernel
theorem dX11_search_96 : decode cX11_search 96 = .ok (.ifCond .eq 8, 3) := by decide +kernel
theorem dX11_search_99 : decode cX11_search 99 = .ok (.aload_n 0, 1) := by decide +kernel
theorem dX11_search_100 : decode cX11_search 100 = .ok (.iload_n 2, 1) := by decide +kernel
theorem dX11_search_101 : decode cX11_search 101 = .ok (.invokevirtual 331, 3) := by decide +kernel
theorem dX11_search_104 : decode cX11_search 104 = .ok (.iload_n 3, 1) := by decide +kernel
theorem dX11_search_105 : decode cX11_search 105 = .ok (.ifCond .eq 12, 3) := by decide +kernel
theorem dX11_search_108 : decode cX11_search 108 = .ok (.aload_n 0, 1) := by decide +kernel
theorem dX11_search_109 : decode cX11_search 109 = .ok (.getfield 108, 3) := by decide +kernel
theorem dX11_search_112 : decode cX11_search 112 = .ok (.iconst 0, 1) := by decide +kernel
theorem dX11_search_113 : decode cX11_search 113 = .ok (.iaload, 1) := by decide +kernel
theorem dX11_search_114 : decode cX11_search 114 = .ok (.goto 6, 3) := by decide +kernel
theorem dX11_search_117 : decode cX11_search 117 = .ok (.ldc_w 303, 3) := by decide +kernel
theorem dX11_search_120 : decode cX11_search 120 = .ok (.istore 4, 2) := by decide +kernel
theorem dX11_search_122 : decode cX11_search 122 = .ok (.iload_n 2, 1) := by decide +kernel
theorem dX11_search_123 : decode cX11_search 123 = .ok (.invokestatic 334, 3) := by decide +kernel
theorem dX11_search_126 : decode cX11_search 126 = .ok (.istore 5, 2) := by decide +kernel
theorem dX11_search_128 : decode cX11_search 128 = .ok (.iload 4, 2) := by decide +kernel
theorem dX11_search_130 : decode cX11_search 130 = .ok (.ldc_w 303, 3) := by decide +kernel
theorem dX11_search_133 : decode cX11_search 133 = .ok (.if_icmp .lt 7, 3) := by decide +kernel
theorem dX11_search_136 : decode cX11_search 136 = .ok (.iconst 1, 1) := by decide +kernel
theorem dX11_search_137 : decode cX11_search 137 = .ok (.goto 25, 3) := by decide +kernel
theorem dX11_search_140 : decode cX11_search 140 = .ok (.aload_n 0, 1) := by decide +kernel
theorem dX11_search_141 : decode cX11_search 141 = .ok (.getfield 325, 3) := by decide +kernel
theorem dX11_search_144 : decode cX11_search 144 = .ok (.ldc_w 303, 3) := by decide +kernel
theorem dX11_search_147 : decode cX11_search 147 = .ok (.if_icmp .lt 7, 3) := by decide +kernel
theorem dX11_search_150 : decode cX11_search 150 = .ok (.iconst (-1), 1) := by decide +kernel
theorem dX11_search_151 : decode cX11_search 151 = .ok (.goto 11, 3) := by decide +kernel
theorem dX11_search_154 : decode cX11_search 154 = .ok (.aload_n 0, 1) := by decide +kernel
theorem dX11_search_155 : decode cX11_search 155 = .ok (.iload 4, 2) := by decide +kernel
theorem dX11_search_157 : decode cX11_search 157 = .ok (.iload 5, 2) := by decide +kernel
theorem dX11_search_159 : decode cX11_search 159 = .ok (.invokevirtual 337, 3) := by decide +kernel
theorem dX11_search_162 : decode cX11_search 162 = .ok (.istore 6, 2) := by decide +kernel
theorem dX11_search_164 : decode cX11_search 164 = .ok (.iload 6, 2) := by decide +kernel
theorem dX11_search_166 : decode cX11_search 166 = .ok (.ifCond .gt 64, 3) := by decide +kernel
theorem dX11_search_169 : decode cX11_search 169 = .ok (.aload_n 0, 1) := by decide +kernel
theorem dX11_search_170 : decode cX11_search 170 = .ok (.iload_n 2, 1) := by decide +kernel
theorem dX11_search_171 : decode cX11_search 171 = .ok (.invokevirtual 340, 3) := by decide +kernel
theorem dX11_search_174 : decode cX11_search 174 = .ok (.iload 6, 2) := by decide +kernel
theorem dX11_search_176 : decode cX11_search 176 = .ok (.ifCond .lt 10, 3) := by decide +kernel
theorem dX11_search_179 : decode cX11_search 179 = .ok (.aload_n 0, 1) := by decide +kernel
theorem dX11_search_180 : decode cX11_search 180 = .ok (.invokevirtual 343, 3) := by decide +kernel
theorem dX11_search_183 : decode cX11_search 183 = .ok (.ifCond .eq 47, 3) := by decide +kernel
theorem dX11_search_186 : decode cX11_search 186 = .ok (.aload_n 0, 1) := by decide +kernel
theorem dX11_search_187 : decode cX11_search 187 = .ok (.iload 4, 2) := by decide +kernel
theorem dX11_search_189 : decode cX11_search 189 = .ok (.putfield 325, 3) := by decide +kernel
theorem dX11_search_192 : decode cX11_search 192 = .ok (.aload_n 0, 1) := by decide +kernel
theorem dX11_search_193 : decode cX11_search 193 = .ok (.iload 5, 2) := by decide +kernel
theorem dX11_search_195 : decode cX11_search 195 = .ok (.putfield 328, 3) := by decide +kernel
theorem dX11_search_198 : decode cX11_search 198 = .ok (.iconst 0, 1) := by decide +kernel
theorem dX11_search_199 : decode cX11_search 199 = .ok (.istore 7, 2) := by decide +kernel
theorem dX11_search_201 : decode cX11_search 201 = .ok (.iload 7, 2) := by decide +kernel
theorem dX11_search_203 : decode cX11_search 203 = .ok (.aload_n 0, 1) := by decide +kernel
theorem dX11_search_204 : decode cX11_search 204 = .ok (.getfield 251, 3) := by decide +kernel
theorem dX11_search_207 : decode cX11_search 207 = .ok (.if_icmp .ge 23, 3) := by decide +kernel
theorem dX11_search_210 : decode cX11_search 210 = .ok (.aload_n 0, 1) := by decide +kernel
theorem dX11_search_211 : decode cX11_search 211 = .ok (.getfield 114, 3) := by decide +kernel
theorem dX11_search_214 : decode cX11_search 214 = .ok (.iload 7, 2) := by decide +kernel
theorem dX11_search_216 : decode cX11_search 216 = .ok (.aload_n 0, 1) := by decide +kernel
theorem dX11_search_217 : decode cX11_search 217 = .ok (.getfield 111, 3) := by decide +kernel
theorem dX11_search_220 : decode cX11_search 220 = .ok (.iload 7, 2) := by decide +kernel
theorem dX11_search_222 : decode cX11_search 222 = .ok (.iaload, 1) := by decide +kernel
theorem dX11_search_223 : decode cX11_search 223 = .ok (.iastore, 1) := by decide +kernel
theorem dX11_search_224 : decode cX11_search 224 = .ok (.iinc 7 1, 3) := by decide +kernel
theorem dX11_search_227 : decode cX11_search 227 = .ok (.goto (-26), 3) := by decide +kernel
theorem dX11_search_230 : decode cX11_search 230 = .ok (.iinc 2 1, 3) := by decide +kernel
theorem dX11_search_233 : decode cX11_search 233 = .ok (.goto (-162), 3) := by decide +kernel
theorem dX11_search_236 : decode cX11_search 236 = .ok (.return_, 1) := by decide +kernel
theorem dX11_round_0 : decode cX11_round 0 = .ok (.iload_n 1, 1) := by decide +kernel
theorem dX11_round_1 : decode cX11_round 1 = .ok (.ifCond .lt 15, 3) := by decide +kernel
theorem dX11_round_4 : decode cX11_round 4 = .ok (.iload_n 1, 1) := by decide +kernel
theorem dX11_round_5 : decode cX11_round 5 = .ok (.iconst 1, 1) := by decide +kernel
theorem dX11_round_6 : decode cX11_round 6 = .ok (.if_icmp .gt 10, 3) := by decide +kernel
theorem dX11_round_9 : decode cX11_round 9 = .ok (.iload_n 2, 1) := by decide +kernel
theorem dX11_round_10 : decode cX11_round 10 = .ok (.invokestatic 258, 3) := by decide +kernel
theorem dX11_round_13 : decode cX11_round 13 = .ok (.ifCond .ne 5, 3) := by decide +kernel
theorem dX11_round_16 : decode cX11_round 16 = .ok (.iconst (-1), 1) := by decide +kernel
theorem dX11_round_17 : decode cX11_round 17 = .ok (.ireturn, 1) := by decide +kernel
theorem dX11_round_18 : decode cX11_round 18 = .ok (.aload_n 0, 1) := by decide +kernel
theorem dX11_round_19 : decode cX11_round 19 = .ok (.iload_n 1, 1) := by decide +kernel
theorem dX11_round_20 : decode cX11_round 20 = .ok (.iload_n 2, 1) := by decide +kernel
theorem dX11_round_21 : decode cX11_round 21 = .ok (.invokevirtual 346, 3) := by decide +kernel
theorem dX11_round_24 : decode cX11_round 24 = .ok (.aload_n 0, 1) := by decide +kernel
theorem dX11_round_25 : decode cX11_round 25 = .ok (.iconst 0, 1) := by decide +kernel
theorem dX11_round_26 : decode cX11_round 26 = .ok (.putfield 304, 3) := by decide +kernel
theorem dX11_round_29 : decode cX11_round 29 = .ok (.aload_n 0, 1) := by decide +kernel
theorem dX11_round_30 : decode cX11_round 30 = .ok (.invokevirtual 349, 3) := by decide +kernel
theorem dX11_round_33 : decode cX11_round 33 = .ok (.iconst 0, 1) := by decide +kernel
theorem dX11_round_34 : decode cX11_round 34 = .ok (.istore_n 3, 1) := by decide +kernel
theorem dX11_round_35 : decode cX11_round 35 = .ok (.iload_n 3, 1) := by decide +kernel
theorem dX11_round_36 : decode cX11_round 36 = .ok (.bipush 12, 2) := by decide +kernel
theorem dX11_round_38 : decode cX11_round 38 = .ok (.if_icmp .ge 33, 3) := by decide +kernel
theorem dX11_round_41 : decode cX11_round 41 = .ok (.aload_n 0, 1) := by decide +kernel
theorem dX11_round_42 : decode cX11_round 42 = .ok (.getfield 77, 3) := by decide +kernel
theorem dX11_round_45 : decode cX11_round 45 = .ok (.iload_n 3, 1) := by decide +kernel
theorem dX11_round_46 : decode cX11_round 46 = .ok (.iload_n 3, 1) := by decide +kernel
theorem dX11_round_47 : decode cX11_round 47 = .ok (.aload_n 0, 1) := by decide +kernel
theorem dX11_round_48 : decode cX11_round 48 = .ok (.getfield 251, 3) := by decide +kernel
theorem dX11_round_51 : decode cX11_round 51 = .ok (.if_icmp .ge 12, 3) := by decide +kernel
theorem dX11_round_54 : decode cX11_round 54 = .ok (.aload_n 0, 1) := by decide +kernel
theorem dX11_round_55 : decode cX11_round 55 = .ok (.getfield 114, 3) := by decide +kernel
theorem dX11_round_58 : decode cX11_round 58 = .ok (.iload_n 3, 1) := by decide +kernel
theorem dX11_round_59 : decode cX11_round 59 = .ok (.iaload, 1) := by decide +kernel
theorem dX11_round_60 : decode cX11_round 60 = .ok (.goto 4, 3) := by decide +kernel
theorem dX11_round_63 : decode cX11_round 63 = .ok (.iconst (-1), 1) := by decide +kernel
theorem dX11_round_64 : decode cX11_round 64 = .ok (.iastore, 1) := by decide +kernel
theorem dX11_round_65 : decode cX11_round 65 = .ok (.iinc 3 1, 3) := by decide +kernel
theorem dX11_round_68 : decode cX11_round 68 = .ok (.goto (-33), 3) := by decide +kernel
theorem dX11_round_71 : decode cX11_round 71 = .ok (.aload_n 0, 1) := by decide +kernel
theorem dX11_round_72 : decode cX11_round 72 = .ok (.aload_n 0, 1) := by decide +kernel
theorem dX11_round_73 : decode cX11_round 73 = .ok (.getfield 325, 3) := by decide +kernel
theorem dX11_round_76 : decode cX11_round 76 = .ok (.putfield 352, 3) := by decide +kernel
theorem dX11_round_79 : decode cX11_round 79 = .ok (.aload_n 0, 1) := by decide +kernel
theorem dX11_round_80 : decode cX11_round 80 = .ok (.iconst 1, 1) := by decide +kernel
theorem dX11_round_81 : decode cX11_round 81 = .ok (.putfield 355, 3) := by decide +kernel
theorem dX11_round_84 : decode cX11_round 84 = .ok (.aload_n 0, 1) := by decide +kernel
theorem dX11_round_85 : decode cX11_round 85 = .ok (.getfield 328, 3) := by decide +kernel
theorem dX11_round_88 : decode cX11_round 88 = .ok (.ireturn, 1) := by decide +kernel
theorem dX11_goes_0 : decode cX11_goes 0 = .ok (.aload_n 0, 1) := by decide +kernel
theorem dX11_goes_1 : decode cX11_goes 1 = .ok (.getfield 355, 3) := by decide +kernel
theorem dX11_goes_4 : decode cX11_goes 4 = .ok (.ifCond .eq 20, 3) := by decide +kernel
theorem dX11_goes_7 : decode cX11_goes 7 = .ok (.aload_n 0, 1) := by decide +kernel
theorem dX11_goes_8 : decode cX11_goes 8 = .ok (.iload_n 1, 1) := by decide +kernel
theorem dX11_goes_9 : decode cX11_goes 9 = .ok (.invokevirtual 264, 3) := by decide +kernel
theorem dX11_goes_12 : decode cX11_goes 12 = .ok (.ifCond .eq 12, 3) := by decide +kernel
theorem dX11_goes_15 : decode cX11_goes 15 = .ok (.aload_n 0, 1) := by decide +kernel
theorem dX11_goes_16 : decode cX11_goes 16 = .ok (.getfield 77, 3) := by decide +kernel
theorem dX11_goes_19 : decode cX11_goes 19 = .ok (.iload_n 1, 1) := by decide +kernel
theorem dX11_goes_20 : decode cX11_goes 20 = .ok (.iaload, 1) := by decide +kernel
theorem dX11_goes_21 : decode cX11_goes 21 = .ok (.goto 4, 3) := by decide +kernel
theorem dX11_goes_24 : decode cX11_goes 24 = .ok (.iconst (-1), 1) := by decide +kernel
theorem dX11_goes_25 : decode cX11_goes 25 = .ok (.ireturn, 1) := by decide +kernel
theorem dX11_costs_0 : decode cX11_costs 0 = .ok (.aload_n 0, 1) := by decide +kernel
theorem dX11_costs_1 : decode cX11_costs 1 = .ok (.getfield 355, 3) := by decide +kernel
theorem dX11_costs_4 : decode cX11_costs 4 = .ok (.ifCond .eq 10, 3) := by decide +kernel
theorem dX11_costs_7 : decode cX11_costs 7 = .ok (.aload_n 0, 1) := by decide +kernel
theorem dX11_costs_8 : decode cX11_costs 8 = .ok (.getfield 352, 3) := by decide +kernel
theorem dX11_costs_11 : decode cX11_costs 11 = .ok (.goto 4, 3) := by decide +kernel
theorem dX11_costs_14 : decode cX11_costs 14 = .ok (.iconst (-1), 1) := by decide +kernel
theorem dX11_costs_15 : decode cX11_costs 15 = .ok (.ireturn, 1) := by decide +kernel
theorem dX11_guest_0 : decode cX11_guest 0 = .ok (.iconst 0, 1) := by decide +kernel
theorem dX11_guest_1 : decode cX11_guest 1 = .ok (.istore_n 3, 1) := by decide +kernel
theorem dX11_guest_2 : decode cX11_guest 2 = .ok (.iload_n 3, 1) := by decide +kernel
theorem dX11_guest_3 : decode cX11_guest 3 = .ok (.aload_n 0, 1) := by decide +kernel
theorem dX11_guest_4 : decode cX11_guest 4 = .ok (.getfield 251, 3) := by decide +kernel
theorem dX11_guest_7 : decode cX11_guest 7 = .ok (.if_icmp .ge 18, 3) := by decide +kernel
theorem dX11_guest_10 : decode cX11_guest 10 = .ok (.aload_n 1, 1) := by decide +kernel
theorem dX11_guest_11 : decode cX11_guest 11 = .ok (.iload_n 3, 1) := by decide +kernel
theorem dX11_guest_12 : decode cX11_guest 12 = .ok (.iaload, 1) := by decide +kernel
theorem dX11_guest_13 : decode cX11_guest 13 = .ok (.iload_n 2, 1) := by decide +kernel
theorem dX11_guest_14 : decode cX11_guest 14 = .ok (.if_icmp .ne 5, 3) := by decide +kernel
theorem dX11_guest_17 : decode cX11_guest 17 = .ok (.iload_n 3, 1) := by decide +kernel
theorem dX11_guest_18 : decode cX11_guest 18 = .ok (.ireturn, 1) := by decide +kernel
theorem dX11_guest_19 : decode cX11_guest 19 = .ok (.iinc 3 1, 3) := by decide +kernel
theorem dX11_guest_22 : decode cX11_guest 22 = .ok (.goto (-20), 3) := by decide +kernel
theorem dX11_guest_25 : decode cX11_guest 25 = .ok (.iconst (-1), 1) := by decide +kernel
theorem dX11_guest_26 : decode cX11_guest 26 = .ok (.ireturn, 1) := by decide +kernel
theorem dX11_isClosed_0 : decode cX11_isClosed 0 = .ok (.iconst 0, 1) := by decide +kernel
theorem dX11_isClosed_1 : decode cX11_isClosed 1 = .ok (.istore_n 1, 1) := by decide +kernel
theorem dX11_isClosed_2 : decode cX11_isClosed 2 = .ok (.iload_n 1, 1) := by decide +kernel
theorem dX11_isClosed_3 : decode cX11_isClosed 3 = .ok (.aload_n 0, 1) := by decide +kernel
theorem dX11_isClosed_4 : decode cX11_isClosed 4 = .ok (.getfield 251, 3) := by decide +kernel
theorem dX11_isClosed_7 : decode cX11_isClosed 7 = .ok (.if_icmp .ge 102, 3) := by decide +kernel
theorem dX11_isClosed_10 : decode cX11_isClosed 10 = .ok (.aload_n 0, 1) := by decide +kernel
theorem dX11_isClosed_11 : decode cX11_isClosed 11 = .ok (.aload_n 0, 1) := by decide +kernel
theorem dX11_isClosed_12 : decode cX11_isClosed 12 = .ok (.getfield 77, 3) := by decide +kernel
theorem dX11_isClosed_15 : decode cX11_isClosed 15 = .ok (.iload_n 1, 1) := by decide +kernel
theorem dX11_isClosed_16 : decode cX11_isClosed 16 = .ok (.invokevirtual 358, 3) := by decide +kernel
theorem dX11_isClosed_19 : decode cX11_isClosed 19 = .ok (.ifCond .lt 7, 3) := by decide +kernel
theorem dX11_isClosed_22 : decode cX11_isClosed 22 = .ok (.iconst 1, 1) := by decide +kernel
theorem dX11_isClosed_23 : decode cX11_isClosed 23 = .ok (.goto 4, 3) := by decide +kernel
theorem dX11_isClosed_26 : decode cX11_isClosed 26 = .ok (.iconst 0, 1) := by decide +kernel
theorem dX11_isClosed_27 : decode cX11_isClosed 27 = .ok (.istore_n 2, 1) := by decide +kernel
theorem dX11_isClosed_28 : decode cX11_isClosed 28 = .ok (.aload_n 0, 1) := by decide +kernel
theorem dX11_isClosed_29 : decode cX11_isClosed 29 = .ok (.getfield 77, 3) := by decide +kernel
theorem dX11_isClosed_32 : decode cX11_isClosed 32 = .ok (.iload_n 1, 1) := by decide +kernel
theorem dX11_isClosed_33 : decode cX11_isClosed 33 = .ok (.iaload, 1) := by decide +kernel
theorem dX11_isClosed_34 : decode cX11_isClosed 34 = .ok (.ifCond .lt 7, 3) := by decide +kernel
theorem dX11_isClosed_37 : decode cX11_isClosed 37 = .ok (.iconst 1, 1) := by decide +kernel
theorem dX11_isClosed_38 : decode cX11_isClosed 38 = .ok (.goto 4, 3) := by decide +kernel
theorem dX11_isClosed_41 : decode cX11_isClosed 41 = .ok (.iconst 0, 1) := by decide +kernel
theorem dX11_isClosed_42 : decode cX11_isClosed 42 = .ok (.istore_n 3, 1) := by decide +kernel
theorem dX11_isClosed_43 : decode cX11_isClosed 43 = .ok (.iload_n 3, 1) := by decide +kernel
theorem dX11_isClosed_44 : decode cX11_isClosed 44 = .ok (.ifCond .eq 40, 3) := by decide +kernel
theorem dX11_isClosed_47 : decode cX11_isClosed 47 = .ok (.aload_n 0, 1) := by decide +kernel
theorem dX11_isClosed_48 : decode cX11_isClosed 48 = .ok (.getfield 95, 3) := by decide +kernel
theorem dX11_isClosed_51 : decode cX11_isClosed 51 = .ok (.bipush 12, 2) := by decide +kernel
theorem dX11_isClosed_53 : decode cX11_isClosed 53 = .ok (.iload_n 1, 1) := by decide +kernel
theorem dX11_isClosed_54 : decode cX11_isClosed 54 = .ok (.imul, 1) := by decide +kernel
theorem dX11_isClosed_55 : decode cX11_isClosed 55 = .ok (.aload_n 0, 1) := by decide +kernel
theorem dX11_isClosed_56 : decode cX11_isClosed 56 = .ok (.getfield 77, 3) := by decide +kernel
theorem dX11_isClosed_59 : decode cX11_isClosed 59 = .ok (.iload_n 1, 1) := by decide +kernel
theorem dX11_isClosed_60 : decode cX11_isClosed 60 = .ok (.iaload, 1) := by decide +kernel
theorem dX11_isClosed_61 : decode cX11_isClosed 61 = .ok (.iadd, 1) := by decide +kernel
theorem dX11_isClosed_62 : decode cX11_isClosed 62 = .ok (.iaload, 1) := by decide +kernel
theorem dX11_isClosed_63 : decode cX11_isClosed 63 = .ok (.ldc_w 303, 3) := by decide +kernel
theorem dX11_isClosed_66 : decode cX11_isClosed 66 = .ok (.if_icmp .eq 16, 3) := by decide +kernel
theorem dX11_isClosed_69 : decode cX11_isClosed 69 = .ok (.iload_n 2, 1) := by decide +kernel
theorem dX11_isClosed_70 : decode cX11_isClosed 70 = .ok (.ifCond .ne 14, 3) := by decide +kernel
theorem dX11_isClosed_73 : decode cX11_isClosed 73 = .ok (.aload_n 0, 1) := by decide +kernel
theorem dX11_isClosed_74 : decode cX11_isClosed 74 = .ok (.getfield 98, 3) := by decide +kernel
theorem dX11_isClosed_77 : decode cX11_isClosed 77 = .ok (.iload_n 1, 1) := by decide +kernel
theorem dX11_isClosed_78 : decode cX11_isClosed 78 = .ok (.baload, 1) := by decide +kernel
theorem dX11_isClosed_79 : decode cX11_isClosed 79 = .ok (.ifCond .ne 5, 3) := by decide +kernel
theorem dX11_isClosed_82 : decode cX11_isClosed 82 = .ok (.iconst 0, 1) := by decide +kernel
theorem dX11_isClosed_83 : decode cX11_isClosed 83 = .ok (.ireturn, 1) := by decide +kernel
theorem dX11_isClosed_84 : decode cX11_isClosed 84 = .ok (.iload_n 2, 1) := by decide +kernel
theorem dX11_isClosed_85 : decode cX11_isClosed 85 = .ok (.ifCond .eq 18, 3) := by decide +kernel
theorem dX11_isClosed_88 : decode cX11_isClosed 88 = .ok (.iload_n 3, 1) := by decide +kernel
theorem dX11_isClosed_89 : decode cX11_isClosed 89 = .ok (.ifCond .ne 14, 3) := by decide +kernel
theorem dX11_isClosed_92 : decode cX11_isClosed 92 = .ok (.aload_n 0, 1) := by decide +kernel
theorem dX11_isClosed_93 : decode cX11_isClosed 93 = .ok (.getfield 101, 3) := by decide +kernel
theorem dX11_isClosed_96 : decode cX11_isClosed 96 = .ok (.iload_n 1, 1) := by decide +kernel
theorem dX11_isClosed_97 : decode cX11_isClosed 97 = .ok (.baload, 1) := by decide +kernel
theorem dX11_isClosed_98 : decode cX11_isClosed 98 = .ok (.ifCond .ne 5, 3) := by decide +kernel
theorem dX11_isClosed_101 : decode cX11_isClosed 101 = .ok (.iconst 0, 1) := by decide +kernel
theorem dX11_isClosed_102 : decode cX11_isClosed 102 = .ok (.ireturn, 1) := by decide +kernel
theorem dX11_isClosed_103 : decode cX11_isClosed 103 = .ok (.iinc 1 1, 3) := by decide +kernel
theorem dX11_isClosed_106 : decode cX11_isClosed 106 = .ok (.goto (-104), 3) := by decide +kernel
theorem dX11_isClosed_109 : decode cX11_isClosed 109 = .ok (.iconst 1, 1) := by decide +kernel
theorem dX11_isClosed_110 : decode cX11_isClosed 110 = .ok (.ireturn, 1) := by decide +kernel
theorem dX11_going_0 : decode cX11_going 0 = .ok (.iconst 0, 1) := by decide +kernel
theorem dX11_going_1 : decode cX11_going 1 = .ok (.istore_n 1, 1) := by decide +kernel
theorem dX11_going_2 : decode cX11_going 2 = .ok (.iconst 0, 1) := by decide +kernel
theorem dX11_going_3 : decode cX11_going 3 = .ok (.istore_n 2, 1) := by decide +kernel
theorem dX11_going_4 : decode cX11_going 4 = .ok (.iload_n 2, 1) := by decide +kernel
theorem dX11_going_5 : decode cX11_going 5 = .ok (.aload_n 0, 1) := by decide +kernel
theorem dX11_going_6 : decode cX11_going 6 = .ok (.getfield 251, 3) := by decide +kernel
theorem dX11_going_9 : decode cX11_going 9 = .ok (.if_icmp .ge 26, 3) := by decide +kernel
theorem dX11_going_12 : decode cX11_going 12 = .ok (.aload_n 0, 1) := by decide +kernel
theorem dX11_going_13 : decode cX11_going 13 = .ok (.getfield 62, 3) := by decide +kernel
theorem dX11_going_16 : decode cX11_going 16 = .ok (.iload_n 2, 1) := by decide +kernel
theorem dX11_going_17 : decode cX11_going 17 = .ok (.iaload, 1) := by decide +kernel
theorem dX11_going_18 : decode cX11_going 18 = .ok (.ifCond .lt 9, 3) := by decide +kernel
theorem dX11_going_21 : decode cX11_going 21 = .ok (.iload_n 1, 1) := by decide +kernel
theorem dX11_going_22 : decode cX11_going 22 = .ok (.iconst 1, 1) := by decide +kernel
theorem dX11_going_23 : decode cX11_going 23 = .ok (.iadd, 1) := by decide +kernel
theorem dX11_going_24 : decode cX11_going 24 = .ok (.goto 4, 3) := by decide +kernel
theorem dX11_going_27 : decode cX11_going 27 = .ok (.iload_n 1, 1) := by decide +kernel
theorem dX11_going_28 : decode cX11_going 28 = .ok (.istore_n 1, 1) := by decide +kernel
theorem dX11_going_29 : decode cX11_going 29 = .ok (.iinc 2 1, 3) := by decide +kernel
theorem dX11_going_32 : decode cX11_going 32 = .ok (.goto (-28), 3) := by decide +kernel
theorem dX11_going_35 : decode cX11_going 35 = .ok (.iload_n 1, 1) := by decide +kernel
theorem dX11_going_36 : decode cX11_going 36 = .ok (.ireturn, 1) := by decide +kernel
theorem dX11_take_0 : decode cX11_take 0 = .ok (.aload_n 0, 1) := by decide +kernel
theorem dX11_take_1 : decode cX11_take 1 = .ok (.getfield 355, 3) := by decide +kernel
theorem dX11_take_4 : decode cX11_take 4 = .ok (.ifCond .ne 5, 3) := by decide +kernel
theorem dX11_take_7 : decode cX11_take 7 = .ok (.iconst (-1), 1) := by decide +kernel
theorem dX11_take_8 : decode cX11_take 8 = .ok (.ireturn, 1) := by decide +kernel
theorem dX11_take_9 : decode cX11_take 9 = .ok (.aload_n 0, 1) := by decide +kernel
theorem dX11_take_10 : decode cX11_take 10 = .ok (.getfield 362, 3) := by decide +kernel
theorem dX11_take_13 : decode cX11_take 13 = .ok (.ifCond .eq 6, 3) := by decide +kernel
theorem dX11_take_16 : decode cX11_take 16 = .ok (.bipush (-2), 2) := by decide +kernel
theorem dX11_take_18 : decode cX11_take 18 = .ok (.ireturn, 1) := by decide +kernel
theorem dX11_take_19 : decode cX11_take 19 = .ok (.aload_n 0, 1) := by decide +kernel
theorem dX11_take_20 : decode cX11_take 20 = .ok (.iconst 0, 1) := by decide +kernel
theorem dX11_take_21 : decode cX11_take 21 = .ok (.aload_n 0, 1) := by decide +kernel
theorem dX11_take_22 : decode cX11_take 22 = .ok (.getfield 255, 3) := by decide +kernel
theorem dX11_take_25 : decode cX11_take 25 = .ok (.invokevirtual 346, 3) := by decide +kernel
theorem dX11_take_28 : decode cX11_take 28 = .ok (.aload_n 0, 1) := by decide +kernel
theorem dX11_take_29 : decode cX11_take 29 = .ok (.invokevirtual 365, 3) := by decide +kernel
theorem dX11_take_32 : decode cX11_take 32 = .ok (.ifCond .ne 6, 3) := by decide +kernel
theorem dX11_take_35 : decode cX11_take 35 = .ok (.bipush (-3), 2) := by decide +kernel
theorem dX11_take_37 : decode cX11_take 37 = .ok (.ireturn, 1) := by decide +kernel
theorem dX11_take_38 : decode cX11_take 38 = .ok (.iconst 0, 1) := by decide +kernel
theorem dX11_take_39 : decode cX11_take 39 = .ok (.istore_n 1, 1) := by decide +kernel
theorem dX11_take_40 : decode cX11_take 40 = .ok (.iload_n 1, 1) := by decide +kernel
theorem dX11_take_41 : decode cX11_take 41 = .ok (.bipush 12, 2) := by decide +kernel
theorem dX11_take_43 : decode cX11_take 43 = .ok (.if_icmp .ge 21, 3) := by decide +kernel
theorem dX11_take_46 : decode cX11_take 46 = .ok (.aload_n 0, 1) := by decide +kernel
theorem dX11_take_47 : decode cX11_take 47 = .ok (.getfield 62, 3) := by decide +kernel
theorem dX11_take_50 : decode cX11_take 50 = .ok (.iload_n 1, 1) := by decide +kernel
theorem dX11_take_51 : decode cX11_take 51 = .ok (.aload_n 0, 1) := by decide +kernel
theorem dX11_take_52 : decode cX11_take 52 = .ok (.getfield 77, 3) := by decide +kernel
theorem dX11_take_55 : decode cX11_take 55 = .ok (.iload_n 1, 1) := by decide +kernel
theorem dX11_take_56 : decode cX11_take 56 = .ok (.iaload, 1) := by decide +kernel
theorem dX11_take_57 : decode cX11_take 57 = .ok (.iastore, 1) := by decide +kernel
theorem dX11_take_58 : decode cX11_take 58 = .ok (.iinc 1 1, 3) := by decide +kernel
theorem dX11_take_61 : decode cX11_take 61 = .ok (.goto (-21), 3) := by decide +kernel
theorem dX11_take_64 : decode cX11_take 64 = .ok (.aload_n 0, 1) := by decide +kernel
theorem dX11_take_65 : decode cX11_take 65 = .ok (.iconst 1, 1) := by decide +kernel
theorem dX11_take_66 : decode cX11_take 66 = .ok (.putfield 362, 3) := by decide +kernel
theorem dX11_take_69 : decode cX11_take 69 = .ok (.aload_n 0, 1) := by decide +kernel
theorem dX11_take_70 : decode cX11_take 70 = .ok (.invokevirtual 368, 3) := by decide +kernel
theorem dX11_take_73 : decode cX11_take 73 = .ok (.ireturn, 1) := by decide +kernel
theorem dX11_fall_0 : decode cX11_fall 0 = .ok (.aload_n 0, 1) := by decide +kernel
theorem dX11_fall_1 : decode cX11_fall 1 = .ok (.iload_n 1, 1) := by decide +kernel
theorem dX11_fall_2 : decode cX11_fall 2 = .ok (.invokevirtual 264, 3) := by decide +kernel
theorem dX11_fall_5 : decode cX11_fall 5 = .ok (.ifCond .eq 12, 3) := by decide +kernel
theorem dX11_fall_8 : decode cX11_fall 8 = .ok (.aload_n 0, 1) := by decide +kernel
theorem dX11_fall_9 : decode cX11_fall 9 = .ok (.getfield 62, 3) := by decide +kernel
theorem dX11_fall_12 : decode cX11_fall 12 = .ok (.iload_n 1, 1) := by decide +kernel
theorem dX11_fall_13 : decode cX11_fall 13 = .ok (.iaload, 1) := by decide +kernel
theorem dX11_fall_14 : decode cX11_fall 14 = .ok (.ifCond .ge 5, 3) := by decide +kernel
theorem dX11_fall_17 : decode cX11_fall 17 = .ok (.iconst (-1), 1) := by decide +kernel
theorem dX11_fall_18 : decode cX11_fall 18 = .ok (.ireturn, 1) := by decide +kernel
theorem dX11_fall_19 : decode cX11_fall 19 = .ok (.aload_n 0, 1) := by decide +kernel
theorem dX11_fall_20 : decode cX11_fall 20 = .ok (.getfield 65, 3) := by decide +kernel
theorem dX11_fall_23 : decode cX11_fall 23 = .ok (.iload_n 1, 1) := by decide +kernel
theorem dX11_fall_24 : decode cX11_fall 24 = .ok (.iconst 1, 1) := by decide +kernel
theorem dX11_fall_25 : decode cX11_fall 25 = .ok (.bastore, 1) := by decide +kernel
theorem dX11_fall_26 : decode cX11_fall 26 = .ok (.aload_n 0, 1) := by decide +kernel
theorem dX11_fall_27 : decode cX11_fall 27 = .ok (.iconst 0, 1) := by decide +kernel
theorem dX11_fall_28 : decode cX11_fall 28 = .ok (.aload_n 0, 1) := by decide +kernel
theorem dX11_fall_29 : decode cX11_fall 29 = .ok (.getfield 255, 3) := by decide +kernel
theorem dX11_fall_32 : decode cX11_fall 32 = .ok (.invokevirtual 346, 3) := by decide +kernel
theorem dX11_fall_35 : decode cX11_fall 35 = .ok (.iconst 0, 1) := by decide +kernel
theorem dX11_fall_36 : decode cX11_fall 36 = .ok (.istore_n 2, 1) := by decide +kernel
theorem dX11_fall_37 : decode cX11_fall 37 = .ok (.iload_n 2, 1) := by decide +kernel
theorem dX11_fall_38 : decode cX11_fall 38 = .ok (.aload_n 0, 1) := by decide +kernel
theorem dX11_fall_39 : decode cX11_fall 39 = .ok (.getfield 251, 3) := by decide +kernel
theorem dX11_fall_42 : decode cX11_fall 42 = .ok (.if_icmp .ge 73, 3) := by decide +kernel
theorem dX11_fall_45 : decode cX11_fall 45 = .ok (.aload_n 0, 1) := by decide +kernel
theorem dX11_fall_46 : decode cX11_fall 46 = .ok (.getfield 104, 3) := by decide +kernel
theorem dX11_fall_49 : decode cX11_fall 49 = .ok (.iload_n 2, 1) := by decide +kernel
theorem dX11_fall_50 : decode cX11_fall 50 = .ok (.aload_n 0, 1) := by decide +kernel
theorem dX11_fall_51 : decode cX11_fall 51 = .ok (.getfield 65, 3) := by decide +kernel
theorem dX11_fall_54 : decode cX11_fall 54 = .ok (.iload_n 2, 1) := by decide +kernel
theorem dX11_fall_55 : decode cX11_fall 55 = .ok (.baload, 1) := by decide +kernel
theorem dX11_fall_56 : decode cX11_fall 56 = .ok (.ifCond .eq 7, 3) := by decide +kernel
theorem dX11_fall_59 : decode cX11_fall 59 = .ok (.iconst (-1), 1) := by decide +kernel
theorem dX11_fall_60 : decode cX11_fall 60 = .ok (.goto 9, 3) := by decide +kernel
theorem dX11_fall_63 : decode cX11_fall 63 = .ok (.aload_n 0, 1) := by decide +kernel
theorem dX11_fall_64 : decode cX11_fall 64 = .ok (.getfield 62, 3) := by decide +kernel
theorem dX11_fall_67 : decode cX11_fall 67 = .ok (.iload_n 2, 1) := by decide +kernel
theorem dX11_fall_68 : decode cX11_fall 68 = .ok (.iaload, 1) := by decide +kernel
theorem dX11_fall_69 : decode cX11_fall 69 = .ok (.iastore, 1) := by decide +kernel
theorem dX11_fall_70 : decode cX11_fall 70 = .ok (.iconst 0, 1) := by decide +kernel
theorem dX11_fall_71 : decode cX11_fall 71 = .ok (.istore_n 3, 1) := by decide +kernel
theorem dX11_fall_72 : decode cX11_fall 72 = .ok (.iload_n 3, 1) := by decide +kernel
theorem dX11_fall_73 : decode cX11_fall 73 = .ok (.aload_n 0, 1) := by decide +kernel
theorem dX11_fall_74 : decode cX11_fall 74 = .ok (.getfield 251, 3) := by decide +kernel
theorem dX11_fall_77 : decode cX11_fall 77 = .ok (.if_icmp .ge 32, 3) := by decide +kernel
theorem dX11_fall_80 : decode cX11_fall 80 = .ok (.aload_n 0, 1) := by decide +kernel
theorem dX11_fall_81 : decode cX11_fall 81 = .ok (.getfield 65, 3) := by decide +kernel
theorem dX11_fall_84 : decode cX11_fall 84 = .ok (.iload_n 2, 1) := by decide +kernel
theorem dX11_fall_85 : decode cX11_fall 85 = .ok (.baload, 1) := by decide +kernel
theorem dX11_fall_86 : decode cX11_fall 86 = .ok (.ifCond .eq 23, 3) := by decide +kernel
theorem dX11_fall_89 : decode cX11_fall 89 = .ok (.aload_n 0, 1) := by decide +kernel
theorem dX11_fall_90 : decode cX11_fall 90 = .ok (.getfield 95, 3) := by decide +kernel
theorem dX11_fall_93 : decode cX11_fall 93 = .ok (.bipush 12, 2) := by decide +kernel
theorem dX11_fall_95 : decode cX11_fall 95 = .ok (.iload_n 2, 1) := by decide +kernel
theorem dX11_fall_96 : decode cX11_fall 96 = .ok (.imul, 1) := by decide +kernel
theorem dX11_fall_97 : decode cX11_fall 97 = .ok (.iload_n 3, 1) := by decide +kernel
theorem dX11_fall_98 : decode cX11_fall 98 = .ok (.iadd, 1) := by decide +kernel
theorem dX11_fall_99 : decode cX11_fall 99 = .ok (.ldc_w 303, 3) := by decide +kernel
theorem dX11_fall_102 : decode cX11_fall 102 = .ok (.iastore, 1) := by decide +kernel
theorem dX11_fall_103 : decode cX11_fall 103 = .ok (.iinc 3 1, 3) := by decide +kernel
theorem dX11_fall_106 : decode cX11_fall 106 = .ok (.goto (-34), 3) := by decide +kernel
theorem dX11_fall_109 : decode cX11_fall 109 = .ok (.iinc 2 1, 3) := by decide +kernel
theorem dX11_fall_112 : decode cX11_fall 112 = .ok (.goto (-75), 3) := by decide +kernel
theorem dX11_fall_115 : decode cX11_fall 115 = .ok (.aload_n 0, 1) := by decide +kernel
theorem dX11_fall_116 : decode cX11_fall 116 = .ok (.iconst 1, 1) := by decide +kernel
theorem dX11_fall_117 : decode cX11_fall 117 = .ok (.putfield 304, 3) := by decide +kernel
theorem dX11_fall_120 : decode cX11_fall 120 = .ok (.aload_n 0, 1) := by decide +kernel
theorem dX11_fall_121 : decode cX11_fall 121 = .ok (.invokevirtual 349, 3) := by decide +kernel
theorem dX11_fall_124 : decode cX11_fall 124 = .ok (.aload_n 0, 1) := by decide +kernel
theorem dX11_fall_125 : decode cX11_fall 125 = .ok (.iconst 0, 1) := by decide +kernel
theorem dX11_fall_126 : decode cX11_fall 126 = .ok (.putfield 372, 3) := by decide +kernel
theorem dX11_fall_129 : decode cX11_fall 129 = .ok (.iconst 0, 1) := by decide +kernel
theorem dX11_fall_130 : decode cX11_fall 130 = .ok (.istore_n 2, 1) := by decide +kernel
theorem dX11_fall_131 : decode cX11_fall 131 = .ok (.iload_n 2, 1) := by decide +kernel
theorem dX11_fall_132 : decode cX11_fall 132 = .ok (.aload_n 0, 1) := by decide +kernel
theorem dX11_fall_133 : decode cX11_fall 133 = .ok (.getfield 251, 3) := by decide +kernel
theorem dX11_fall_136 : decode cX11_fall 136 = .ok (.if_icmp .ge 65, 3) := by decide +kernel
theorem dX11_fall_139 : decode cX11_fall 139 = .ok (.aload_n 0, 1) := by decide +kernel
theorem dX11_fall_140 : decode cX11_fall 140 = .ok (.getfield 104, 3) := by decide +kernel
theorem dX11_fall_143 : decode cX11_fall 143 = .ok (.iload_n 2, 1) := by decide +kernel
theorem dX11_fall_144 : decode cX11_fall 144 = .ok (.iaload, 1) := by decide +kernel
theorem dX11_fall_145 : decode cX11_fall 145 = .ok (.ifCond .lt 38, 3) := by decide +kernel
theorem dX11_fall_148 : decode cX11_fall 148 = .ok (.aload_n 0, 1) := by decide +kernel
theorem dX11_fall_149 : decode cX11_fall 149 = .ok (.getfield 104, 3) := by decide +kernel
theorem dX11_fall_152 : decode cX11_fall 152 = .ok (.iload_n 2, 1) := by decide +kernel
theorem dX11_fall_153 : decode cX11_fall 153 = .ok (.iaload, 1) := by decide +kernel
theorem dX11_fall_154 : decode cX11_fall 154 = .ok (.aload_n 0, 1) := by decide +kernel
theorem dX11_fall_155 : decode cX11_fall 155 = .ok (.getfield 114, 3) := by decide +kernel
theorem dX11_fall_158 : decode cX11_fall 158 = .ok (.iload_n 2, 1) := by decide +kernel
theorem dX11_fall_159 : decode cX11_fall 159 = .ok (.iaload, 1) := by decide +kernel
theorem dX11_fall_160 : decode cX11_fall 160 = .ok (.if_icmp .eq 23, 3) := by decide +kernel
theorem dX11_fall_163 : decode cX11_fall 163 = .ok (.aload_n 0, 1) := by decide +kernel
theorem dX11_fall_164 : decode cX11_fall 164 = .ok (.getfield 80, 3) := by decide +kernel
theorem dX11_fall_167 : decode cX11_fall 167 = .ok (.aload_n 0, 1) := by decide +kernel
theorem dX11_fall_168 : decode cX11_fall 168 = .ok (.getfield 372, 3) := by decide +kernel
theorem dX11_fall_171 : decode cX11_fall 171 = .ok (.iload_n 2, 1) := by decide +kernel
theorem dX11_fall_172 : decode cX11_fall 172 = .ok (.iastore, 1) := by decide +kernel
theorem dX11_fall_173 : decode cX11_fall 173 = .ok (.aload_n 0, 1) := by decide +kernel
theorem dX11_fall_174 : decode cX11_fall 174 = .ok (.dup, 1) := by decide +kernel
theorem dX11_fall_175 : decode cX11_fall 175 = .ok (.getfield 372, 3) := by decide +kernel
theorem dX11_fall_178 : decode cX11_fall 178 = .ok (.iconst 1, 1) := by decide +kernel
theorem dX11_fall_179 : decode cX11_fall 179 = .ok (.iadd, 1) := by decide +kernel
theorem dX11_fall_180 : decode cX11_fall 180 = .ok (.putfield 372, 3) := by decide +kernel
theorem dX11_fall_183 : decode cX11_fall 183 = .ok (.aload_n 0, 1) := by decide +kernel
theorem dX11_fall_184 : decode cX11_fall 184 = .ok (.getfield 62, 3) := by decide +kernel
theorem dX11_fall_187 : decode cX11_fall 187 = .ok (.iload_n 2, 1) := by decide +kernel
theorem dX11_fall_188 : decode cX11_fall 188 = .ok (.aload_n 0, 1) := by decide +kernel
theorem dX11_fall_189 : decode cX11_fall 189 = .ok (.getfield 114, 3) := by decide +kernel
theorem dX11_fall_192 : decode cX11_fall 192 = .ok (.iload_n 2, 1) := by decide +kernel
theorem dX11_fall_193 : decode cX11_fall 193 = .ok (.iaload, 1) := by decide +kernel
theorem dX11_fall_194 : decode cX11_fall 194 = .ok (.iastore, 1) := by decide +kernel
theorem dX11_fall_195 : decode cX11_fall 195 = .ok (.iinc 2 1, 3) := by decide +kernel
theorem dX11_fall_198 : decode cX11_fall 198 = .ok (.goto (-67), 3) := by decide +kernel
theorem dX11_fall_201 : decode cX11_fall 201 = .ok (.aload_n 0, 1) := by decide +kernel
theorem dX11_fall_202 : decode cX11_fall 202 = .ok (.getfield 372, 3) := by decide +kernel
theorem dX11_fall_205 : decode cX11_fall 205 = .ok (.ireturn, 1) := by decide +kernel
theorem dX11_moved_0 : decode cX11_moved 0 = .ok (.iload_n 1, 1) := by decide +kernel
theorem dX11_moved_1 : decode cX11_moved 1 = .ok (.ifCond .lt 20, 3) := by decide +kernel
theorem dX11_moved_4 : decode cX11_moved 4 = .ok (.iload_n 1, 1) := by decide +kernel
theorem dX11_moved_5 : decode cX11_moved 5 = .ok (.aload_n 0, 1) := by decide +kernel
theorem dX11_moved_6 : decode cX11_moved 6 = .ok (.getfield 372, 3) := by decide +kernel
theorem dX11_moved_9 : decode cX11_moved 9 = .ok (.if_icmp .ge 12, 3) := by decide +kernel
theorem dX11_moved_12 : decode cX11_moved 12 = .ok (.aload_n 0, 1) := by decide +kernel
theorem dX11_moved_13 : decode cX11_moved 13 = .ok (.getfield 80, 3) := by decide +kernel
theorem dX11_moved_16 : decode cX11_moved 16 = .ok (.iload_n 1, 1) := by decide +kernel
theorem dX11_moved_17 : decode cX11_moved 17 = .ok (.iaload, 1) := by decide +kernel
theorem dX11_moved_18 : decode cX11_moved 18 = .ok (.goto 4, 3) := by decide +kernel
theorem dX11_moved_21 : decode cX11_moved 21 = .ok (.iconst (-1), 1) := by decide +kernel
theorem dX11_moved_22 : decode cX11_moved 22 = .ok (.ireturn, 1) := by decide +kernel
theorem dX11_close_0 : decode cX11_close 0 = .ok (.aload_n 0, 1) := by decide +kernel
theorem dX11_close_1 : decode cX11_close 1 = .ok (.invokevirtual 368, 3) := by decide +kernel
theorem dX11_close_4 : decode cX11_close 4 = .ok (.istore_n 1, 1) := by decide +kernel
theorem dX11_close_5 : decode cX11_close 5 = .ok (.iconst 0, 1) := by decide +kernel
theorem dX11_close_6 : decode cX11_close 6 = .ok (.istore_n 2, 1) := by decide +kernel
theorem dX11_close_7 : decode cX11_close 7 = .ok (.iload_n 2, 1) := by decide +kernel
theorem dX11_close_8 : decode cX11_close 8 = .ok (.aload_n 0, 1) := by decide +kernel
theorem dX11_close_9 : decode cX11_close 9 = .ok (.getfield 251, 3) := by decide +kernel
theorem dX11_close_12 : decode cX11_close 12 = .ok (.if_icmp .ge 164, 3) := by decide +kernel
theorem dX11_close_15 : decode cX11_close 15 = .ok (.aload_n 0, 1) := by decide +kernel
theorem dX11_close_16 : decode cX11_close 16 = .ok (.aload_n 0, 1) := by decide +kernel
theorem dX11_close_17 : decode cX11_close 17 = .ok (.getfield 62, 3) := by decide +kernel
theorem dX11_close_20 : decode cX11_close 20 = .ok (.iload_n 2, 1) := by decide +kernel
theorem dX11_close_21 : decode cX11_close 21 = .ok (.invokevirtual 358, 3) := by decide +kernel
theorem dX11_close_24 : decode cX11_close 24 = .ok (.ifCond .lt 7, 3) := by decide +kernel
theorem dX11_close_27 : decode cX11_close 27 = .ok (.iconst 1, 1) := by decide +kernel
theorem dX11_close_28 : decode cX11_close 28 = .ok (.goto 4, 3) := by decide +kernel
theorem dX11_close_31 : decode cX11_close 31 = .ok (.iconst 0, 1) := by decide +kernel
theorem dX11_close_32 : decode cX11_close 32 = .ok (.istore_n 3, 1) := by decide +kernel
theorem dX11_close_33 : decode cX11_close 33 = .ok (.aload_n 0, 1) := by decide +kernel
theorem dX11_close_34 : decode cX11_close 34 = .ok (.getfield 62, 3) := by decide +kernel
theorem dX11_close_37 : decode cX11_close 37 = .ok (.iload_n 2, 1) := by decide +kernel
theorem dX11_close_38 : decode cX11_close 38 = .ok (.iaload, 1) := by decide +kernel
theorem dX11_close_39 : decode cX11_close 39 = .ok (.ifCond .lt 7, 3) := by decide +kernel
theorem dX11_close_42 : decode cX11_close 42 = .ok (.iconst 1, 1) := by decide +kernel
theorem dX11_close_43 : decode cX11_close 43 = .ok (.goto 4, 3) := by decide +kernel
theorem dX11_close_46 : decode cX11_close 46 = .ok (.iconst 0, 1) := by decide +kernel
theorem dX11_close_47 : decode cX11_close 47 = .ok (.istore 4, 2) := by decide +kernel
theorem dX11_close_49 : decode cX11_close 49 = .ok (.iload 4, 2) := by decide +kernel
theorem dX11_close_51 : decode cX11_close 51 = .ok (.ifCond .eq 20, 3) := by decide +kernel
theorem dX11_close_54 : decode cX11_close 54 = .ok (.iload_n 3, 1) := by decide +kernel
theorem dX11_close_55 : decode cX11_close 55 = .ok (.ifCond .ne 16, 3) := by decide +kernel
theorem dX11_close_58 : decode cX11_close 58 = .ok (.aload_n 0, 1) := by decide +kernel
theorem dX11_close_59 : decode cX11_close 59 = .ok (.getfield 68, 3) := by decide +kernel
theorem dX11_close_62 : decode cX11_close 62 = .ok (.iload_n 2, 1) := by decide +kernel
theorem dX11_close_63 : decode cX11_close 63 = .ok (.dup2, 1) := by decide +kernel
theorem dX11_close_64 : decode cX11_close 64 = .ok (.iaload, 1) := by decide +kernel
theorem dX11_close_65 : decode cX11_close 65 = .ok (.iconst 1, 1) := by decide +kernel
theorem dX11_close_66 : decode cX11_close 66 = .ok (.iadd, 1) := by decide +kernel
theorem dX11_close_67 : decode cX11_close 67 = .ok (.iastore, 1) := by decide +kernel
theorem dX11_close_68 : decode cX11_close 68 = .ok (.goto 53, 3) := by decide +kernel
theorem dX11_close_71 : decode cX11_close 71 = .ok (.iload_n 3, 1) := by decide +kernel
theorem dX11_close_72 : decode cX11_close 72 = .ok (.ifCond .eq 30, 3) := by decide +kernel
theorem dX11_close_75 : decode cX11_close 75 = .ok (.iload 4, 2) := by decide +kernel
theorem dX11_close_77 : decode cX11_close 77 = .ok (.ifCond .ne 25, 3) := by decide +kernel
theorem dX11_close_80 : decode cX11_close 80 = .ok (.aload_n 0, 1) := by decide +kernel
theorem dX11_close_81 : decode cX11_close 81 = .ok (.getfield 68, 3) := by decide +kernel
theorem dX11_close_84 : decode cX11_close 84 = .ok (.iload_n 2, 1) := by decide +kernel
theorem dX11_close_85 : decode cX11_close 85 = .ok (.iaload, 1) := by decide +kernel
theorem dX11_close_86 : decode cX11_close 86 = .ok (.ifCond .le 16, 3) := by decide +kernel
theorem dX11_close_89 : decode cX11_close 89 = .ok (.aload_n 0, 1) := by decide +kernel
theorem dX11_close_90 : decode cX11_close 90 = .ok (.getfield 68, 3) := by decide +kernel
theorem dX11_close_93 : decode cX11_close 93 = .ok (.iload_n 2, 1) := by decide +kernel
theorem dX11_close_94 : decode cX11_close 94 = .ok (.dup2, 1) := by decide +kernel
theorem dX11_close_95 : decode cX11_close 95 = .ok (.iaload, 1) := by decide +kernel
theorem dX11_close_96 : decode cX11_close 96 = .ok (.iconst 1, 1) := by decide +kernel
theorem dX11_close_97 : decode cX11_close 97 = .ok (.isub, 1) := by decide +kernel
theorem dX11_close_98 : decode cX11_close 98 = .ok (.iastore, 1) := by decide +kernel
theorem dX11_close_99 : decode cX11_close 99 = .ok (.goto 22, 3) := by decide +kernel
theorem dX11_close_102 : decode cX11_close 102 = .ok (.iload_n 3, 1) := by decide +kernel
theorem dX11_close_103 : decode cX11_close 103 = .ok (.ifCond .eq 18, 3) := by decide +kernel
theorem dX11_close_106 : decode cX11_close 106 = .ok (.iload 4, 2) := by decide +kernel
theorem dX11_close_108 : decode cX11_close 108 = .ok (.ifCond .ne 13, 3) := by decide +kernel
theorem dX11_close_111 : decode cX11_close 111 = .ok (.aload_n 0, 1) := by decide +kernel
theorem dX11_close_112 : decode cX11_close 112 = .ok (.getfield 71, 3) := by decide +kernel
theorem dX11_close_115 : decode cX11_close 115 = .ok (.iload_n 2, 1) := by decide +kernel
theorem dX11_close_116 : decode cX11_close 116 = .ok (.dup2, 1) := by decide +kernel
theorem dX11_close_117 : decode cX11_close 117 = .ok (.iaload, 1) := by decide +kernel
theorem dX11_close_118 : decode cX11_close 118 = .ok (.iconst 1, 1) := by decide +kernel
theorem dX11_close_119 : decode cX11_close 119 = .ok (.iadd, 1) := by decide +kernel
theorem dX11_close_120 : decode cX11_close 120 = .ok (.iastore, 1) := by decide +kernel
theorem dX11_close_121 : decode cX11_close 121 = .ok (.iload 4, 2) := by decide +kernel
theorem dX11_close_123 : decode cX11_close 123 = .ok (.ifCond .eq 47, 3) := by decide +kernel
theorem dX11_close_126 : decode cX11_close 126 = .ok (.aload_n 0, 1) := by decide +kernel
theorem dX11_close_127 : decode cX11_close 127 = .ok (.aload_n 0, 1) := by decide +kernel
theorem dX11_close_128 : decode cX11_close 128 = .ok (.getfield 62, 3) := by decide +kernel
theorem dX11_close_131 : decode cX11_close 131 = .ok (.iload_n 2, 1) := by decide +kernel
theorem dX11_close_132 : decode cX11_close 132 = .ok (.iaload, 1) := by decide +kernel
theorem dX11_close_133 : decode cX11_close 133 = .ok (.iconst 5, 1) := by decide +kernel
theorem dX11_close_134 : decode cX11_close 134 = .ok (.aload_n 0, 1) := by decide +kernel
theorem dX11_close_135 : decode cX11_close 135 = .ok (.getfield 255, 3) := by decide +kernel
theorem dX11_close_138 : decode cX11_close 138 = .ok (.invokevirtual 276, 3) := by decide +kernel
theorem dX11_close_141 : decode cX11_close 141 = .ok (.istore 5, 2) := by decide +kernel
theorem dX11_close_143 : decode cX11_close 143 = .ok (.aload_n 0, 1) := by decide +kernel
theorem dX11_close_144 : decode cX11_close 144 = .ok (.getfield 74, 3) := by decide +kernel
theorem dX11_close_147 : decode cX11_close 147 = .ok (.iload_n 2, 1) := by decide +kernel
theorem dX11_close_148 : decode cX11_close 148 = .ok (.dup2, 1) := by decide +kernel
theorem dX11_close_149 : decode cX11_close 149 = .ok (.iaload, 1) := by decide +kernel
theorem dX11_close_150 : decode cX11_close 150 = .ok (.iload 5, 2) := by decide +kernel
theorem dX11_close_152 : decode cX11_close 152 = .ok (.isub, 1) := by decide +kernel
theorem dX11_close_153 : decode cX11_close 153 = .ok (.iastore, 1) := by decide +kernel
theorem dX11_close_154 : decode cX11_close 154 = .ok (.aload_n 0, 1) := by decide +kernel
theorem dX11_close_155 : decode cX11_close 155 = .ok (.getfield 74, 3) := by decide +kernel
theorem dX11_close_158 : decode cX11_close 158 = .ok (.aload_n 0, 1) := by decide +kernel
theorem dX11_close_159 : decode cX11_close 159 = .ok (.getfield 62, 3) := by decide +kernel
theorem dX11_close_162 : decode cX11_close 162 = .ok (.iload_n 2, 1) := by decide +kernel
theorem dX11_close_163 : decode cX11_close 163 = .ok (.iaload, 1) := by decide +kernel
theorem dX11_close_164 : decode cX11_close 164 = .ok (.dup2, 1) := by decide +kernel
theorem dX11_close_165 : decode cX11_close 165 = .ok (.iaload, 1) := by decide +kernel
theorem dX11_close_166 : decode cX11_close 166 = .ok (.iload 5, 2) := by decide +kernel
theorem dX11_close_168 : decode cX11_close 168 = .ok (.iadd, 1) := by decide +kernel
theorem dX11_close_169 : decode cX11_close 169 = .ok (.iastore, 1) := by decide +kernel
theorem dX11_close_170 : decode cX11_close 170 = .ok (.iinc 2 1, 3) := by decide +kernel
theorem dX11_close_173 : decode cX11_close 173 = .ok (.goto (-166), 3) := by decide +kernel
theorem dX11_close_176 : decode cX11_close 176 = .ok (.iconst 0, 1) := by decide +kernel
theorem dX11_close_177 : decode cX11_close 177 = .ok (.istore_n 2, 1) := by decide +kernel
theorem dX11_close_178 : decode cX11_close 178 = .ok (.iload_n 2, 1) := by decide +kernel
theorem dX11_close_179 : decode cX11_close 179 = .ok (.bipush 12, 2) := by decide +kernel
theorem dX11_close_181 : decode cX11_close 181 = .ok (.if_icmp .ge 23, 3) := by decide +kernel
theorem dX11_close_184 : decode cX11_close 184 = .ok (.aload_n 0, 1) := by decide +kernel
theorem dX11_close_185 : decode cX11_close 185 = .ok (.getfield 62, 3) := by decide +kernel
theorem dX11_close_188 : decode cX11_close 188 = .ok (.iload_n 2, 1) := by decide +kernel
theorem dX11_close_189 : decode cX11_close 189 = .ok (.iconst (-1), 1) := by decide +kernel
theorem dX11_close_190 : decode cX11_close 190 = .ok (.iastore, 1) := by decide +kernel
theorem dX11_close_191 : decode cX11_close 191 = .ok (.aload_n 0, 1) := by decide +kernel
theorem dX11_close_192 : decode cX11_close 192 = .ok (.getfield 65, 3) := by decide +kernel
theorem dX11_close_195 : decode cX11_close 195 = .ok (.iload_n 2, 1) := by decide +kernel
theorem dX11_close_196 : decode cX11_close 196 = .ok (.iconst 0, 1) := by decide +kernel
theorem dX11_close_197 : decode cX11_close 197 = .ok (.bastore, 1) := by decide +kernel
theorem dX11_close_198 : decode cX11_close 198 = .ok (.iinc 2 1, 3) := by decide +kernel
theorem dX11_close_201 : decode cX11_close 201 = .ok (.goto (-23), 3) := by decide +kernel
theorem dX11_close_204 : decode cX11_close 204 = .ok (.aload_n 0, 1) := by decide +kernel
theorem dX11_close_205 : decode cX11_close 205 = .ok (.iconst 0, 1) := by decide +kernel
theorem dX11_close_206 : decode cX11_close 206 = .ok (.putfield 362, 3) := by decide +kernel
theorem dX11_close_209 : decode cX11_close 209 = .ok (.aload_n 0, 1) := by decide +kernel
theorem dX11_close_210 : decode cX11_close 210 = .ok (.iconst 0, 1) := by decide +kernel
theorem dX11_close_211 : decode cX11_close 211 = .ok (.putfield 372, 3) := by decide +kernel
theorem dX11_close_214 : decode cX11_close 214 = .ok (.aload_n 0, 1) := by decide +kernel
theorem dX11_close_215 : decode cX11_close 215 = .ok (.dup, 1) := by decide +kernel
theorem dX11_close_216 : decode cX11_close 216 = .ok (.getfield 375, 3) := by decide +kernel
theorem dX11_close_219 : decode cX11_close 219 = .ok (.iconst 1, 1) := by decide +kernel
theorem dX11_close_220 : decode cX11_close 220 = .ok (.iadd, 1) := by decide +kernel
theorem dX11_close_221 : decode cX11_close 221 = .ok (.putfield 375, 3) := by decide +kernel
theorem dX11_close_224 : decode cX11_close 224 = .ok (.iload_n 1, 1) := by decide +kernel
theorem dX11_close_225 : decode cX11_close 225 = .ok (.ireturn, 1) := by decide +kernel
theorem dX11_link_0 : decode cX11_link 0 = .ok (.aload_n 0, 1) := by decide +kernel
theorem dX11_link_1 : decode cX11_link 1 = .ok (.iload_n 1, 1) := by decide +kernel
theorem dX11_link_2 : decode cX11_link 2 = .ok (.invokevirtual 264, 3) := by decide +kernel
theorem dX11_link_5 : decode cX11_link 5 = .ok (.ifCond .eq 7, 3) := by decide +kernel
theorem dX11_link_8 : decode cX11_link 8 = .ok (.iload_n 2, 1) := by decide +kernel
theorem dX11_link_9 : decode cX11_link 9 = .ok (.ifCond .ge 5, 3) := by decide +kernel
theorem dX11_link_12 : decode cX11_link 12 = .ok (.iconst (-1), 1) := by decide +kernel
theorem dX11_link_13 : decode cX11_link 13 = .ok (.ireturn, 1) := by decide +kernel
theorem dX11_link_14 : decode cX11_link 14 = .ok (.iload_n 1, 1) := by decide +kernel
theorem dX11_link_15 : decode cX11_link 15 = .ok (.istore_n 3, 1) := by decide +kernel
theorem dX11_link_16 : decode cX11_link 16 = .ok (.iconst 0, 1) := by decide +kernel
theorem dX11_link_17 : decode cX11_link 17 = .ok (.istore 4, 2) := by decide +kernel
theorem dX11_link_19 : decode cX11_link 19 = .ok (.iload 4, 2) := by decide +kernel
theorem dX11_link_21 : decode cX11_link 21 = .ok (.iload_n 2, 1) := by decide +kernel
theorem dX11_link_22 : decode cX11_link 22 = .ok (.if_icmp .ge 31, 3) := by decide +kernel
theorem dX11_link_25 : decode cX11_link 25 = .ok (.iload_n 3, 1) := by decide +kernel
theorem dX11_link_26 : decode cX11_link 26 = .ok (.ifCond .lt 27, 3) := by decide +kernel
theorem dX11_link_29 : decode cX11_link 29 = .ok (.aload_n 0, 1) := by decide +kernel
theorem dX11_link_30 : decode cX11_link 30 = .ok (.getfield 62, 3) := by decide +kernel
theorem dX11_link_33 : decode cX11_link 33 = .ok (.iload_n 3, 1) := by decide +kernel
theorem dX11_link_34 : decode cX11_link 34 = .ok (.iaload, 1) := by decide +kernel
theorem dX11_link_35 : decode cX11_link 35 = .ok (.istore_n 3, 1) := by decide +kernel
theorem dX11_link_36 : decode cX11_link 36 = .ok (.iload_n 3, 1) := by decide +kernel
theorem dX11_link_37 : decode cX11_link 37 = .ok (.iload_n 1, 1) := by decide +kernel
theorem dX11_link_38 : decode cX11_link 38 = .ok (.if_icmp .ne 7, 3) := by decide +kernel
theorem dX11_link_41 : decode cX11_link 41 = .ok (.iconst (-1), 1) := by decide +kernel
theorem dX11_link_42 : decode cX11_link 42 = .ok (.goto 4, 3) := by decide +kernel
theorem dX11_link_45 : decode cX11_link 45 = .ok (.iload_n 3, 1) := by decide +kernel
theorem dX11_link_46 : decode cX11_link 46 = .ok (.istore_n 3, 1) := by decide +kernel
theorem dX11_link_47 : decode cX11_link 47 = .ok (.iinc 4 1, 3) := by decide +kernel
theorem dX11_link_50 : decode cX11_link 50 = .ok (.goto (-31), 3) := by decide +kernel
theorem dX11_link_53 : decode cX11_link 53 = .ok (.iload_n 3, 1) := by decide +kernel
theorem dX11_link_54 : decode cX11_link 54 = .ok (.ireturn, 1) := by decide +kernel
theorem dX11_of_0 : decode cX11_of 0 = .ok (.aload_n 0, 1) := by decide +kernel
theorem dX11_of_1 : decode cX11_of 1 = .ok (.iload_n 1, 1) := by decide +kernel
theorem dX11_of_2 : decode cX11_of 2 = .ok (.invokevirtual 264, 3) := by decide +kernel
theorem dX11_of_5 : decode cX11_of 5 = .ok (.ifCond .ne 5, 3) := by decide +kernel
theorem dX11_of_8 : decode cX11_of 8 = .ok (.iconst (-1), 1) := by decide +kernel
theorem dX11_of_9 : decode cX11_of 9 = .ok (.ireturn, 1) := by decide +kernel
theorem dX11_of_10 : decode cX11_of 10 = .ok (.iload_n 2, 1) := by decide +kernel
theorem dX11_of_11 : decode cX11_of 11 = .ok (.tableswitch 90 0 5 #[37, 44, 54, 69, 76, 83], 37) := by decide +kernel
theorem dX11_of_48 : decode cX11_of 48 = .ok (.aload_n 0, 1) := by decide +kernel
theorem dX11_of_49 : decode cX11_of 49 = .ok (.getfield 62, 3) := by decide +kernel
theorem dX11_of_52 : decode cX11_of 52 = .ok (.iload_n 1, 1) := by decide +kernel
theorem dX11_of_53 : decode cX11_of 53 = .ok (.iaload, 1) := by decide +kernel
theorem dX11_of_54 : decode cX11_of 54 = .ok (.ireturn, 1) := by decide +kernel
theorem dX11_of_55 : decode cX11_of 55 = .ok (.aload_n 0, 1) := by decide +kernel
theorem dX11_of_56 : decode cX11_of 56 = .ok (.aload_n 0, 1) := by decide +kernel
theorem dX11_of_57 : decode cX11_of 57 = .ok (.getfield 62, 3) := by decide +kernel
theorem dX11_of_60 : decode cX11_of 60 = .ok (.iload_n 1, 1) := by decide +kernel
theorem dX11_of_61 : decode cX11_of 61 = .ok (.invokevirtual 358, 3) := by decide +kernel
theorem dX11_of_64 : decode cX11_of 64 = .ok (.ireturn, 1) := by decide +kernel
theorem dX11_of_65 : decode cX11_of 65 = .ok (.aload_n 0, 1) := by decide +kernel
theorem dX11_of_66 : decode cX11_of 66 = .ok (.getfield 65, 3) := by decide +kernel
theorem dX11_of_69 : decode cX11_of 69 = .ok (.iload_n 1, 1) := by decide +kernel
theorem dX11_of_70 : decode cX11_of 70 = .ok (.baload, 1) := by decide +kernel
theorem dX11_of_71 : decode cX11_of 71 = .ok (.ifCond .eq 7, 3) := by decide +kernel
theorem dX11_of_74 : decode cX11_of 74 = .ok (.iconst 1, 1) := by decide +kernel
theorem dX11_of_75 : decode cX11_of 75 = .ok (.goto 4, 3) := by decide +kernel
theorem dX11_of_78 : decode cX11_of 78 = .ok (.iconst 0, 1) := by decide +kernel
theorem dX11_of_79 : decode cX11_of 79 = .ok (.ireturn, 1) := by decide +kernel
theorem dX11_of_80 : decode cX11_of 80 = .ok (.aload_n 0, 1) := by decide +kernel
theorem dX11_of_81 : decode cX11_of 81 = .ok (.getfield 68, 3) := by decide +kernel
theorem dX11_of_84 : decode cX11_of 84 = .ok (.iload_n 1, 1) := by decide +kernel
theorem dX11_of_85 : decode cX11_of 85 = .ok (.iaload, 1) := by decide +kernel
theorem dX11_of_86 : decode cX11_of 86 = .ok (.ireturn, 1) := by decide +kernel
theorem dX11_of_87 : decode cX11_of 87 = .ok (.aload_n 0, 1) := by decide +kernel
theorem dX11_of_88 : decode cX11_of 88 = .ok (.getfield 71, 3) := by decide +kernel
theorem dX11_of_91 : decode cX11_of 91 = .ok (.iload_n 1, 1) := by decide +kernel
theorem dX11_of_92 : decode cX11_of 92 = .ok (.iaload, 1) := by decide +kernel
theorem dX11_of_93 : decode cX11_of 93 = .ok (.ireturn, 1) := by decide +kernel
theorem dX11_of_94 : decode cX11_of 94 = .ok (.aload_n 0, 1) := by decide +kernel
theorem dX11_of_95 : decode cX11_of 95 = .ok (.getfield 74, 3) := by decide +kernel
theorem dX11_of_98 : decode cX11_of 98 = .ok (.iload_n 1, 1) := by decide +kernel
theorem dX11_of_99 : decode cX11_of 99 = .ok (.iaload, 1) := by decide +kernel
theorem dX11_of_100 : decode cX11_of 100 = .ok (.ireturn, 1) := by decide +kernel
theorem dX11_of_101 : decode cX11_of 101 = .ok (.iconst (-1), 1) := by decide +kernel
theorem dX11_of_102 : decode cX11_of 102 = .ok (.ireturn, 1) := by decide +kernel
theorem dX11_count_0 : decode cX11_count 0 = .ok (.iload_n 1, 1) := by decide +kernel
theorem dX11_count_1 : decode cX11_count 1 = .ok (.tableswitch 100 0 8 #[51, 56, 61, 66, 71, 76, 81, 88, 95], 51) := by decide +kernel
theorem dX11_count_52 : decode cX11_count 52 = .ok (.aload_n 0, 1) := by decide +kernel
theorem dX11_count_53 : decode cX11_count 53 = .ok (.getfield 251, 3) := by decide +kernel
theorem dX11_count_56 : decode cX11_count 56 = .ok (.ireturn, 1) := by decide +kernel
theorem dX11_count_57 : decode cX11_count 57 = .ok (.aload_n 0, 1) := by decide +kernel
theorem dX11_count_58 : decode cX11_count 58 = .ok (.getfield 267, 3) := by decide +kernel
theorem dX11_count_61 : decode cX11_count 61 = .ok (.ireturn, 1) := by decide +kernel
theorem dX11_count_62 : decode cX11_count 62 = .ok (.aload_n 0, 1) := by decide +kernel
theorem dX11_count_63 : decode cX11_count 63 = .ok (.getfield 255, 3) := by decide +kernel
theorem dX11_count_66 : decode cX11_count 66 = .ok (.ireturn, 1) := by decide +kernel
theorem dX11_count_67 : decode cX11_count 67 = .ok (.aload_n 0, 1) := by decide +kernel
theorem dX11_count_68 : decode cX11_count 68 = .ok (.getfield 261, 3) := by decide +kernel
theorem dX11_count_71 : decode cX11_count 71 = .ok (.ireturn, 1) := by decide +kernel
theorem dX11_count_72 : decode cX11_count 72 = .ok (.aload_n 0, 1) := by decide +kernel
theorem dX11_count_73 : decode cX11_count 73 = .ok (.getfield 375, 3) := by decide +kernel
theorem dX11_count_76 : decode cX11_count 76 = .ok (.ireturn, 1) := by decide +kernel
theorem dX11_count_77 : decode cX11_count 77 = .ok (.aload_n 0, 1) := by decide +kernel
theorem dX11_count_78 : decode cX11_count 78 = .ok (.invokevirtual 368, 3) := by decide +kernel
theorem dX11_count_81 : decode cX11_count 81 = .ok (.ireturn, 1) := by decide +kernel
theorem dX11_count_82 : decode cX11_count 82 = .ok (.aload_n 0, 1) := by decide +kernel
theorem dX11_count_83 : decode cX11_count 83 = .ok (.getfield 27, 3) := by decide +kernel
theorem dX11_count_86 : decode cX11_count 86 = .ok (.iconst 0, 1) := by decide +kernel
theorem dX11_count_87 : decode cX11_count 87 = .ok (.iaload, 1) := by decide +kernel
theorem dX11_count_88 : decode cX11_count 88 = .ok (.ireturn, 1) := by decide +kernel
theorem dX11_count_89 : decode cX11_count 89 = .ok (.aload_n 0, 1) := by decide +kernel
theorem dX11_count_90 : decode cX11_count 90 = .ok (.getfield 27, 3) := by decide +kernel
theorem dX11_count_93 : decode cX11_count 93 = .ok (.iconst 1, 1) := by decide +kernel
theorem dX11_count_94 : decode cX11_count 94 = .ok (.iaload, 1) := by decide +kernel
theorem dX11_count_95 : decode cX11_count 95 = .ok (.ireturn, 1) := by decide +kernel
theorem dX11_count_96 : decode cX11_count 96 = .ok (.aload_n 0, 1) := by decide +kernel
theorem dX11_count_97 : decode cX11_count 97 = .ok (.getfield 117, 3) := by decide +kernel
theorem dX11_count_100 : decode cX11_count 100 = .ok (.ireturn, 1) := by decide +kernel
theorem dX11_count_101 : decode cX11_count 101 = .ok (.iconst (-1), 1) := by decide +kernel
theorem dX11_count_102 : decode cX11_count 102 = .ok (.ireturn, 1) := by decide +kernel
