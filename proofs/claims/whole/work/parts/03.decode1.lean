theorem dX0_init_0 : decode cX0_init 0 = .ok (.aload_n 0, 1) := by decide +kernel
theorem dX0_init_1 : decode cX0_init 1 = .ok (.invokespecial 3, 3) := by decide +kernel
theorem dX0_init_4 : decode cX0_init 4 = .ok (.aload_n 0, 1) := by decide +kernel
theorem dX0_init_5 : decode cX0_init 5 = .ok (.new 9, 3) := by decide +kernel
theorem dX0_init_8 : decode cX0_init 8 = .ok (.dup, 1) := by decide +kernel
theorem dX0_init_9 : decode cX0_init 9 = .ok (.sipush 192, 3) := by decide +kernel
theorem dX0_init_12 : decode cX0_init 12 = .ok (.invokespecial 11, 3) := by decide +kernel
theorem dX0_init_15 : decode cX0_init 15 = .ok (.putfield 14, 3) := by decide +kernel
theorem dX0_init_18 : decode cX0_init 18 = .ok (.aload_n 0, 1) := by decide +kernel
theorem dX0_init_19 : decode cX0_init 19 = .ok (.aload_n 1, 1) := by decide +kernel
theorem dX0_init_20 : decode cX0_init 20 = .ok (.putfield 20, 3) := by decide +kernel
theorem dX0_init_23 : decode cX0_init 23 = .ok (.return_, 1) := by decide +kernel
theorem dX0_gather_0 : decode cX0_gather 0 = .ok (.aload_n 0, 1) := by decide +kernel
theorem dX0_gather_1 : decode cX0_gather 1 = .ok (.getfield 14, 3) := by decide +kernel
theorem dX0_gather_4 : decode cX0_gather 4 = .ok (.invokevirtual 24, 3) := by decide +kernel
theorem dX0_gather_7 : decode cX0_gather 7 = .ok (.iconst 0, 1) := by decide +kernel
theorem dX0_gather_8 : decode cX0_gather 8 = .ok (.istore_n 3, 1) := by decide +kernel
theorem dX0_gather_9 : decode cX0_gather 9 = .ok (.iload_n 3, 1) := by decide +kernel
theorem dX0_gather_10 : decode cX0_gather 10 = .ok (.aload_n 0, 1) := by decide +kernel
theorem dX0_gather_11 : decode cX0_gather 11 = .ok (.getfield 20, 3) := by decide +kernel
theorem dX0_gather_14 : decode cX0_gather 14 = .ok (.getfield 27, 3) := by decide +kernel
theorem dX0_gather_17 : decode cX0_gather 17 = .ok (.if_icmp .ge 28, 3) := by decide +kernel
theorem dX0_gather_20 : decode cX0_gather 20 = .ok (.aload_n 0, 1) := by decide +kernel
theorem dX0_gather_21 : decode cX0_gather 21 = .ok (.getfield 20, 3) := by decide +kernel
theorem dX0_gather_24 : decode cX0_gather 24 = .ok (.iload_n 3, 1) := by decide +kernel
theorem dX0_gather_25 : decode cX0_gather 25 = .ok (.iload_n 2, 1) := by decide +kernel
theorem dX0_gather_26 : decode cX0_gather 26 = .ok (.invokevirtual 33, 3) := by decide +kernel
theorem dX0_gather_29 : decode cX0_gather 29 = .ok (.ifCond .eq 10, 3) := by decide +kernel
theorem dX0_gather_32 : decode cX0_gather 32 = .ok (.aload_n 0, 1) := by decide +kernel
theorem dX0_gather_33 : decode cX0_gather 33 = .ok (.iload_n 3, 1) := by decide +kernel
theorem dX0_gather_34 : decode cX0_gather 34 = .ok (.iload_n 1, 1) := by decide +kernel
theorem dX0_gather_35 : decode cX0_gather 35 = .ok (.iload_n 2, 1) := by decide +kernel
theorem dX0_gather_36 : decode cX0_gather 36 = .ok (.invokevirtual 37, 3) := by decide +kernel
theorem dX0_gather_39 : decode cX0_gather 39 = .ok (.iinc 3 1, 3) := by decide +kernel
theorem dX0_gather_42 : decode cX0_gather 42 = .ok (.goto (-33), 3) := by decide +kernel
theorem dX0_gather_45 : decode cX0_gather 45 = .ok (.aload_n 0, 1) := by decide +kernel
theorem dX0_gather_46 : decode cX0_gather 46 = .ok (.getfield 14, 3) := by decide +kernel
theorem dX0_gather_49 : decode cX0_gather 49 = .ok (.getfield 41, 3) := by decide +kernel
theorem dX0_gather_52 : decode cX0_gather 52 = .ok (.ireturn, 1) := by decide +kernel
theorem dX0_of_0 : decode cX0_of 0 = .ok (.aload_n 0, 1) := by decide +kernel
theorem dX0_of_1 : decode cX0_of 1 = .ok (.getfield 14, 3) := by decide +kernel
theorem dX0_of_4 : decode cX0_of 4 = .ok (.iload_n 1, 1) := by decide +kernel
theorem dX0_of_5 : decode cX0_of 5 = .ok (.invokevirtual 42, 3) := by decide +kernel
theorem dX0_of_8 : decode cX0_of 8 = .ok (.bipush 8, 2) := by decide +kernel
theorem dX0_of_10 : decode cX0_of 10 = .ok (.idiv, 1) := by decide +kernel
theorem dX0_of_11 : decode cX0_of 11 = .ok (.bipush 24, 2) := by decide +kernel
theorem dX0_of_13 : decode cX0_of 13 = .ok (.irem, 1) := by decide +kernel
theorem dX0_of_14 : decode cX0_of 14 = .ok (.istore 4, 2) := by decide +kernel
theorem dX0_of_16 : decode cX0_of 16 = .ok (.aload_n 0, 1) := by decide +kernel
theorem dX0_of_17 : decode cX0_of 17 = .ok (.getfield 14, 3) := by decide +kernel
theorem dX0_of_20 : decode cX0_of 20 = .ok (.iload_n 1, 1) := by decide +kernel
theorem dX0_of_21 : decode cX0_of 21 = .ok (.invokevirtual 42, 3) := by decide +kernel
theorem dX0_of_24 : decode cX0_of 24 = .ok (.bipush 8, 2) := by decide +kernel
theorem dX0_of_26 : decode cX0_of 26 = .ok (.irem, 1) := by decide +kernel
theorem dX0_of_27 : decode cX0_of 27 = .ok (.istore 5, 2) := by decide +kernel
theorem dX0_of_29 : decode cX0_of 29 = .ok (.iload_n 3, 1) := by decide +kernel
theorem dX0_of_30 : decode cX0_of 30 = .ok (.tableswitch 51 0 2 #[26, 29, 32], 26) := by decide +kernel
theorem dX0_of_56 : decode cX0_of 56 = .ok (.iload 4, 2) := by decide +kernel
theorem dX0_of_58 : decode cX0_of 58 = .ok (.ireturn, 1) := by decide +kernel
theorem dX0_of_59 : decode cX0_of 59 = .ok (.iload 5, 2) := by decide +kernel
theorem dX0_of_61 : decode cX0_of 61 = .ok (.ireturn, 1) := by decide +kernel
theorem dX0_of_62 : decode cX0_of 62 = .ok (.aload_n 0, 1) := by decide +kernel
theorem dX0_of_63 : decode cX0_of 63 = .ok (.getfield 20, 3) := by decide +kernel
theorem dX0_of_66 : decode cX0_of 66 = .ok (.iload 4, 2) := by decide +kernel
theorem dX0_of_68 : decode cX0_of 68 = .ok (.iload_n 2, 1) := by decide +kernel
theorem dX0_of_69 : decode cX0_of 69 = .ok (.iload 5, 2) := by decide +kernel
theorem dX0_of_71 : decode cX0_of 71 = .ok (.invokevirtual 46, 3) := by decide +kernel
theorem dX0_of_74 : decode cX0_of 74 = .ok (.sipush 1440, 3) := by decide +kernel
theorem dX0_of_77 : decode cX0_of 77 = .ok (.iload_n 2, 1) := by decide +kernel
theorem dX0_of_78 : decode cX0_of 78 = .ok (.imul, 1) := by decide +kernel
theorem dX0_of_79 : decode cX0_of 79 = .ok (.isub, 1) := by decide +kernel
theorem dX0_of_80 : decode cX0_of 80 = .ok (.ireturn, 1) := by decide +kernel
theorem dX0_of_81 : decode cX0_of 81 = .ok (.aload_n 0, 1) := by decide +kernel
theorem dX0_of_82 : decode cX0_of 82 = .ok (.getfield 20, 3) := by decide +kernel
theorem dX0_of_85 : decode cX0_of 85 = .ok (.iload 4, 2) := by decide +kernel
theorem dX0_of_87 : decode cX0_of 87 = .ok (.iload_n 2, 1) := by decide +kernel
theorem dX0_of_88 : decode cX0_of 88 = .ok (.iload 5, 2) := by decide +kernel
theorem dX0_of_90 : decode cX0_of 90 = .ok (.invokevirtual 50, 3) := by decide +kernel
theorem dX0_of_93 : decode cX0_of 93 = .ok (.sipush 1440, 3) := by decide +kernel
theorem dX0_of_96 : decode cX0_of 96 = .ok (.iload_n 2, 1) := by decide +kernel
theorem dX0_of_97 : decode cX0_of 97 = .ok (.imul, 1) := by decide +kernel
theorem dX0_of_98 : decode cX0_of 98 = .ok (.isub, 1) := by decide +kernel
theorem dX0_of_99 : decode cX0_of 99 = .ok (.ireturn, 1) := by decide +kernel
theorem dX0_gatherTrip_0 : decode cX0_gatherTrip 0 = .ok (.iconst 0, 1) := by decide +kernel
theorem dX0_gatherTrip_1 : decode cX0_gatherTrip 1 = .ok (.istore 4, 2) := by decide +kernel
theorem dX0_gatherTrip_3 : decode cX0_gatherTrip 3 = .ok (.iload 4, 2) := by decide +kernel
theorem dX0_gatherTrip_5 : decode cX0_gatherTrip 5 = .ok (.aload_n 0, 1) := by decide +kernel
theorem dX0_gatherTrip_6 : decode cX0_gatherTrip 6 = .ok (.getfield 20, 3) := by decide +kernel
theorem dX0_gatherTrip_9 : decode cX0_gatherTrip 9 = .ok (.getfield 53, 3) := by decide +kernel
theorem dX0_gatherTrip_12 : decode cX0_gatherTrip 12 = .ok (.iload_n 1, 1) := by decide +kernel
theorem dX0_gatherTrip_13 : decode cX0_gatherTrip 13 = .ok (.iaload, 1) := by decide +kernel
theorem dX0_gatherTrip_14 : decode cX0_gatherTrip 14 = .ok (.if_icmp .ge 80, 3) := by decide +kernel
theorem dX0_gatherTrip_17 : decode cX0_gatherTrip 17 = .ok (.aload_n 0, 1) := by decide +kernel
theorem dX0_gatherTrip_18 : decode cX0_gatherTrip 18 = .ok (.getfield 20, 3) := by decide +kernel
theorem dX0_gatherTrip_21 : decode cX0_gatherTrip 21 = .ok (.getfield 57, 3) := by decide +kernel
theorem dX0_gatherTrip_24 : decode cX0_gatherTrip 24 = .ok (.iload_n 1, 1) := by decide +kernel
theorem dX0_gatherTrip_25 : decode cX0_gatherTrip 25 = .ok (.bipush 8, 2) := by decide +kernel
theorem dX0_gatherTrip_27 : decode cX0_gatherTrip 27 = .ok (.imul, 1) := by decide +kernel
theorem dX0_gatherTrip_28 : decode cX0_gatherTrip 28 = .ok (.iload 4, 2) := by decide +kernel
theorem dX0_gatherTrip_30 : decode cX0_gatherTrip 30 = .ok (.iadd, 1) := by decide +kernel
theorem dX0_gatherTrip_31 : decode cX0_gatherTrip 31 = .ok (.iaload, 1) := by decide +kernel
theorem dX0_gatherTrip_32 : decode cX0_gatherTrip 32 = .ok (.iload_n 2, 1) := by decide +kernel
theorem dX0_gatherTrip_33 : decode cX0_gatherTrip 33 = .ok (.if_icmp .ne 55, 3) := by decide +kernel
theorem dX0_gatherTrip_36 : decode cX0_gatherTrip 36 = .ok (.aload_n 0, 1) := by decide +kernel
theorem dX0_gatherTrip_37 : decode cX0_gatherTrip 37 = .ok (.getfield 20, 3) := by decide +kernel
theorem dX0_gatherTrip_40 : decode cX0_gatherTrip 40 = .ok (.iload_n 1, 1) := by decide +kernel
theorem dX0_gatherTrip_41 : decode cX0_gatherTrip 41 = .ok (.iload 4, 2) := by decide +kernel
theorem dX0_gatherTrip_43 : decode cX0_gatherTrip 43 = .ok (.invokevirtual 60, 3) := by decide +kernel
theorem dX0_gatherTrip_46 : decode cX0_gatherTrip 46 = .ok (.ifCond .eq 42, 3) := by decide +kernel
theorem dX0_gatherTrip_49 : decode cX0_gatherTrip 49 = .ok (.aload_n 0, 1) := by decide +kernel
theorem dX0_gatherTrip_50 : decode cX0_gatherTrip 50 = .ok (.getfield 20, 3) := by decide +kernel
theorem dX0_gatherTrip_53 : decode cX0_gatherTrip 53 = .ok (.iload_n 1, 1) := by decide +kernel
theorem dX0_gatherTrip_54 : decode cX0_gatherTrip 54 = .ok (.iload_n 3, 1) := by decide +kernel
theorem dX0_gatherTrip_55 : decode cX0_gatherTrip 55 = .ok (.iload 4, 2) := by decide +kernel
theorem dX0_gatherTrip_57 : decode cX0_gatherTrip 57 = .ok (.invokevirtual 50, 3) := by decide +kernel
theorem dX0_gatherTrip_60 : decode cX0_gatherTrip 60 = .ok (.sipush 1440, 3) := by decide +kernel
theorem dX0_gatherTrip_63 : decode cX0_gatherTrip 63 = .ok (.iload_n 3, 1) := by decide +kernel
theorem dX0_gatherTrip_64 : decode cX0_gatherTrip 64 = .ok (.imul, 1) := by decide +kernel
theorem dX0_gatherTrip_65 : decode cX0_gatherTrip 65 = .ok (.isub, 1) := by decide +kernel
theorem dX0_gatherTrip_66 : decode cX0_gatherTrip 66 = .ok (.istore 5, 2) := by decide +kernel
theorem dX0_gatherTrip_68 : decode cX0_gatherTrip 68 = .ok (.aload_n 0, 1) := by decide +kernel
theorem dX0_gatherTrip_69 : decode cX0_gatherTrip 69 = .ok (.getfield 14, 3) := by decide +kernel
theorem dX0_gatherTrip_72 : decode cX0_gatherTrip 72 = .ok (.iload 5, 2) := by decide +kernel
theorem dX0_gatherTrip_74 : decode cX0_gatherTrip 74 = .ok (.bipush 24, 2) := by decide +kernel
theorem dX0_gatherTrip_76 : decode cX0_gatherTrip 76 = .ok (.imul, 1) := by decide +kernel
theorem dX0_gatherTrip_77 : decode cX0_gatherTrip 77 = .ok (.iload_n 1, 1) := by decide +kernel
theorem dX0_gatherTrip_78 : decode cX0_gatherTrip 78 = .ok (.iadd, 1) := by decide +kernel
theorem dX0_gatherTrip_79 : decode cX0_gatherTrip 79 = .ok (.bipush 8, 2) := by decide +kernel
theorem dX0_gatherTrip_81 : decode cX0_gatherTrip 81 = .ok (.imul, 1) := by decide +kernel
theorem dX0_gatherTrip_82 : decode cX0_gatherTrip 82 = .ok (.iload 4, 2) := by decide +kernel
theorem dX0_gatherTrip_84 : decode cX0_gatherTrip 84 = .ok (.iadd, 1) := by decide +kernel
theorem dX0_gatherTrip_85 : decode cX0_gatherTrip 85 = .ok (.invokevirtual 63, 3) := by decide +kernel
theorem dX0_gatherTrip_88 : decode cX0_gatherTrip 88 = .ok (.iinc 4 1, 3) := by decide +kernel
theorem dX0_gatherTrip_91 : decode cX0_gatherTrip 91 = .ok (.goto (-88), 3) := by decide +kernel
theorem dX0_gatherTrip_94 : decode cX0_gatherTrip 94 = .ok (.return_, 1) := by decide +kernel
theorem dX1_init_0 : decode cX1_init 0 = .ok (.aload_n 0, 1) := by decide +kernel
theorem dX1_init_1 : decode cX1_init 1 = .ok (.invokespecial 3, 3) := by decide +kernel
theorem dX1_init_4 : decode cX1_init 4 = .ok (.aload_n 0, 1) := by decide +kernel
theorem dX1_init_5 : decode cX1_init 5 = .ok (.bipush 60, 2) := by decide +kernel
theorem dX1_init_7 : decode cX1_init 7 = .ok (.newarray .int, 2) := by decide +kernel
theorem dX1_init_9 : decode cX1_init 9 = .ok (.putfield 9, 3) := by decide +kernel
theorem dX1_init_12 : decode cX1_init 12 = .ok (.aload_n 0, 1) := by decide +kernel
theorem dX1_init_13 : decode cX1_init 13 = .ok (.bipush 60, 2) := by decide +kernel
theorem dX1_init_15 : decode cX1_init 15 = .ok (.newarray .int, 2) := by decide +kernel
theorem dX1_init_17 : decode cX1_init 17 = .ok (.putfield 15, 3) := by decide +kernel
theorem dX1_init_20 : decode cX1_init 20 = .ok (.aload_n 0, 1) := by decide +kernel
theorem dX1_init_21 : decode cX1_init 21 = .ok (.bipush 60, 2) := by decide +kernel
theorem dX1_init_23 : decode cX1_init 23 = .ok (.newarray .int, 2) := by decide +kernel
theorem dX1_init_25 : decode cX1_init 25 = .ok (.putfield 18, 3) := by decide +kernel
theorem dX1_init_28 : decode cX1_init 28 = .ok (.aload_n 0, 1) := by decide +kernel
theorem dX1_init_29 : decode cX1_init 29 = .ok (.bipush 60, 2) := by decide +kernel
theorem dX1_init_31 : decode cX1_init 31 = .ok (.newarray .int, 2) := by decide +kernel
theorem dX1_init_33 : decode cX1_init 33 = .ok (.putfield 21, 3) := by decide +kernel
theorem dX1_init_36 : decode cX1_init 36 = .ok (.return_, 1) := by decide +kernel
theorem dX1_tell_0 : decode cX1_tell 0 = .ok (.aload_n 0, 1) := by decide +kernel
theorem dX1_tell_1 : decode cX1_tell 1 = .ok (.getfield 24, 3) := by decide +kernel
theorem dX1_tell_4 : decode cX1_tell 4 = .ok (.bipush 60, 2) := by decide +kernel
theorem dX1_tell_6 : decode cX1_tell 6 = .ok (.if_icmp .lt 6, 3) := by decide +kernel
theorem dX1_tell_9 : decode cX1_tell 9 = .ok (.bipush (-2), 2) := by decide +kernel
theorem dX1_tell_11 : decode cX1_tell 11 = .ok (.ireturn, 1) := by decide +kernel
theorem dX1_tell_12 : decode cX1_tell 12 = .ok (.aload_n 0, 1) := by decide +kernel
theorem dX1_tell_13 : decode cX1_tell 13 = .ok (.getfield 9, 3) := by decide +kernel
theorem dX1_tell_16 : decode cX1_tell 16 = .ok (.aload_n 0, 1) := by decide +kernel
theorem dX1_tell_17 : decode cX1_tell 17 = .ok (.getfield 24, 3) := by decide +kernel
theorem dX1_tell_20 : decode cX1_tell 20 = .ok (.iload_n 1, 1) := by decide +kernel
theorem dX1_tell_21 : decode cX1_tell 21 = .ok (.iastore, 1) := by decide +kernel
theorem dX1_tell_22 : decode cX1_tell 22 = .ok (.aload_n 0, 1) := by decide +kernel
theorem dX1_tell_23 : decode cX1_tell 23 = .ok (.getfield 15, 3) := by decide +kernel
theorem dX1_tell_26 : decode cX1_tell 26 = .ok (.aload_n 0, 1) := by decide +kernel
theorem dX1_tell_27 : decode cX1_tell 27 = .ok (.getfield 24, 3) := by decide +kernel
theorem dX1_tell_30 : decode cX1_tell 30 = .ok (.iload_n 2, 1) := by decide +kernel
theorem dX1_tell_31 : decode cX1_tell 31 = .ok (.iastore, 1) := by decide +kernel
theorem dX1_tell_32 : decode cX1_tell 32 = .ok (.aload_n 0, 1) := by decide +kernel
theorem dX1_tell_33 : decode cX1_tell 33 = .ok (.getfield 18, 3) := by decide +kernel
theorem dX1_tell_36 : decode cX1_tell 36 = .ok (.aload_n 0, 1) := by decide +kernel
theorem dX1_tell_37 : decode cX1_tell 37 = .ok (.getfield 24, 3) := by decide +kernel
theorem dX1_tell_40 : decode cX1_tell 40 = .ok (.iload_n 3, 1) := by decide +kernel
theorem dX1_tell_41 : decode cX1_tell 41 = .ok (.iastore, 1) := by decide +kernel
theorem dX1_tell_42 : decode cX1_tell 42 = .ok (.aload_n 0, 1) := by decide +kernel
theorem dX1_tell_43 : decode cX1_tell 43 = .ok (.getfield 21, 3) := by decide +kernel
theorem dX1_tell_46 : decode cX1_tell 46 = .ok (.aload_n 0, 1) := by decide +kernel
theorem dX1_tell_47 : decode cX1_tell 47 = .ok (.getfield 24, 3) := by decide +kernel
theorem dX1_tell_50 : decode cX1_tell 50 = .ok (.iload 4, 2) := by decide +kernel
theorem dX1_tell_52 : decode cX1_tell 52 = .ok (.iastore, 1) := by decide +kernel
theorem dX1_tell_53 : decode cX1_tell 53 = .ok (.aload_n 0, 1) := by decide +kernel
theorem dX1_tell_54 : decode cX1_tell 54 = .ok (.dup, 1) := by decide +kernel
theorem dX1_tell_55 : decode cX1_tell 55 = .ok (.getfield 24, 3) := by decide +kernel
theorem dX1_tell_58 : decode cX1_tell 58 = .ok (.iconst 1, 1) := by decide +kernel
theorem dX1_tell_59 : decode cX1_tell 59 = .ok (.iadd, 1) := by decide +kernel
theorem dX1_tell_60 : decode cX1_tell 60 = .ok (.putfield 24, 3) := by decide +kernel
theorem dX1_tell_63 : decode cX1_tell 63 = .ok (.aload_n 0, 1) := by decide +kernel
theorem dX1_tell_64 : decode cX1_tell 64 = .ok (.dup, 1) := by decide +kernel
theorem dX1_tell_65 : decode cX1_tell 65 = .ok (.getfield 28, 3) := by decide +kernel
theorem dX1_tell_68 : decode cX1_tell 68 = .ok (.iload 4, 2) := by decide +kernel
theorem dX1_tell_70 : decode cX1_tell 70 = .ok (.iadd, 1) := by decide +kernel
theorem dX1_tell_71 : decode cX1_tell 71 = .ok (.putfield 28, 3) := by decide +kernel
theorem dX1_tell_74 : decode cX1_tell 74 = .ok (.aload_n 0, 1) := by decide +kernel
theorem dX1_tell_75 : decode cX1_tell 75 = .ok (.iload_n 1, 1) := by decide +kernel
theorem dX1_tell_76 : decode cX1_tell 76 = .ok (.iload_n 2, 1) := by decide +kernel
theorem dX1_tell_77 : decode cX1_tell 77 = .ok (.iload_n 3, 1) := by decide +kernel
theorem dX1_tell_78 : decode cX1_tell 78 = .ok (.invokevirtual 31, 3) := by decide +kernel
theorem dX1_tell_81 : decode cX1_tell 81 = .ok (.ireturn, 1) := by decide +kernel
theorem dX1_sum_0 : decode cX1_sum 0 = .ok (.iconst 0, 1) := by decide +kernel
theorem dX1_sum_1 : decode cX1_sum 1 = .ok (.istore 4, 2) := by decide +kernel
theorem dX1_sum_3 : decode cX1_sum 3 = .ok (.iconst 0, 1) := by decide +kernel
theorem dX1_sum_4 : decode cX1_sum 4 = .ok (.istore 5, 2) := by decide +kernel
theorem dX1_sum_6 : decode cX1_sum 6 = .ok (.iload 5, 2) := by decide +kernel
theorem dX1_sum_8 : decode cX1_sum 8 = .ok (.aload_n 0, 1) := by decide +kernel
theorem dX1_sum_9 : decode cX1_sum 9 = .ok (.getfield 24, 3) := by decide +kernel
theorem dX1_sum_12 : decode cX1_sum 12 = .ok (.if_icmp .ge 54, 3) := by decide +kernel
theorem dX1_sum_15 : decode cX1_sum 15 = .ok (.aload_n 0, 1) := by decide +kernel
theorem dX1_sum_16 : decode cX1_sum 16 = .ok (.getfield 9, 3) := by decide +kernel
theorem dX1_sum_19 : decode cX1_sum 19 = .ok (.iload 5, 2) := by decide +kernel
theorem dX1_sum_21 : decode cX1_sum 21 = .ok (.iaload, 1) := by decide +kernel
theorem dX1_sum_22 : decode cX1_sum 22 = .ok (.iload_n 1, 1) := by decide +kernel
theorem dX1_sum_23 : decode cX1_sum 23 = .ok (.if_icmp .ne 37, 3) := by decide +kernel
theorem dX1_sum_26 : decode cX1_sum 26 = .ok (.aload_n 0, 1) := by decide +kernel
theorem dX1_sum_27 : decode cX1_sum 27 = .ok (.getfield 15, 3) := by decide +kernel
theorem dX1_sum_30 : decode cX1_sum 30 = .ok (.iload 5, 2) := by decide +kernel
theorem dX1_sum_32 : decode cX1_sum 32 = .ok (.iaload, 1) := by decide +kernel
theorem dX1_sum_33 : decode cX1_sum 33 = .ok (.iload_n 2, 1) := by decide +kernel
theorem dX1_sum_34 : decode cX1_sum 34 = .ok (.if_icmp .ne 26, 3) := by decide +kernel
theorem dX1_sum_37 : decode cX1_sum 37 = .ok (.aload_n 0, 1) := by decide +kernel
theorem dX1_sum_38 : decode cX1_sum 38 = .ok (.getfield 18, 3) := by decide +kernel
theorem dX1_sum_41 : decode cX1_sum 41 = .ok (.iload 5, 2) := by decide +kernel
theorem dX1_sum_43 : decode cX1_sum 43 = .ok (.iaload, 1) := by decide +kernel
theorem dX1_sum_44 : decode cX1_sum 44 = .ok (.iload_n 3, 1) := by decide +kernel
theorem dX1_sum_45 : decode cX1_sum 45 = .ok (.if_icmp .gt 15, 3) := by decide +kernel
theorem dX1_sum_48 : decode cX1_sum 48 = .ok (.iload 4, 2) := by decide +kernel
theorem dX1_sum_50 : decode cX1_sum 50 = .ok (.aload_n 0, 1) := by decide +kernel
theorem dX1_sum_51 : decode cX1_sum 51 = .ok (.getfield 21, 3) := by decide +kernel
theorem dX1_sum_54 : decode cX1_sum 54 = .ok (.iload 5, 2) := by decide +kernel
theorem dX1_sum_56 : decode cX1_sum 56 = .ok (.iaload, 1) := by decide +kernel
theorem dX1_sum_57 : decode cX1_sum 57 = .ok (.iadd, 1) := by decide +kernel
theorem dX1_sum_58 : decode cX1_sum 58 = .ok (.istore 4, 2) := by decide +kernel
theorem dX1_sum_60 : decode cX1_sum 60 = .ok (.iinc 5 1, 3) := by decide +kernel
theorem dX1_sum_63 : decode cX1_sum 63 = .ok (.goto (-57), 3) := by decide +kernel
theorem dX1_sum_66 : decode cX1_sum 66 = .ok (.iload 4, 2) := by decide +kernel
theorem dX1_sum_68 : decode cX1_sum 68 = .ok (.ireturn, 1) := by decide +kernel
theorem dX2_init_0 : decode cX2_init 0 = .ok (.aload_n 0, 1) := by decide +kernel
theorem dX2_init_1 : decode cX2_init 1 = .ok (.invokespecial 3, 3) := by decide +kernel
theorem dX2_init_4 : decode cX2_init 4 = .ok (.aload_n 0, 1) := by decide +kernel
theorem dX2_init_5 : decode cX2_init 5 = .ok (.sipush 290, 3) := by decide +kernel
theorem dX2_init_8 : decode cX2_init 8 = .ok (.newarray .int, 2) := by decide +kernel
theorem dX2_init_10 : decode cX2_init 10 = .ok (.putfield 9, 3) := by decide +kernel
theorem dX2_init_13 : decode cX2_init 13 = .ok (.aload_n 0, 1) := by decide +kernel
theorem dX2_init_14 : decode cX2_init 14 = .ok (.sipush 3654, 3) := by decide +kernel
theorem dX2_init_17 : decode cX2_init 17 = .ok (.newarray .int, 2) := by decide +kernel
theorem dX2_init_19 : decode cX2_init 19 = .ok (.putfield 15, 3) := by decide +kernel
theorem dX2_init_22 : decode cX2_init 22 = .ok (.aload_n 0, 1) := by decide +kernel
theorem dX2_init_23 : decode cX2_init 23 = .ok (.new 18, 3) := by decide +kernel
theorem dX2_init_26 : decode cX2_init 26 = .ok (.dup, 1) := by decide +kernel
theorem dX2_init_27 : decode cX2_init 27 = .ok (.bipush 58, 2) := by decide +kernel
theorem dX2_init_29 : decode cX2_init 29 = .ok (.invokespecial 20, 3) := by decide +kernel
theorem dX2_init_32 : decode cX2_init 32 = .ok (.putfield 23, 3) := by decide +kernel
theorem dX2_init_35 : decode cX2_init 35 = .ok (.aload_n 0, 1) := by decide +kernel
theorem dX2_init_36 : decode cX2_init 36 = .ok (.bipush 28, 2) := by decide +kernel
theorem dX2_init_38 : decode cX2_init 38 = .ok (.newarray .int, 2) := by decide +kernel
theorem dX2_init_40 : decode cX2_init 40 = .ok (.putfield 27, 3) := by decide +kernel
theorem dX2_init_43 : decode cX2_init 43 = .ok (.aload_n 0, 1) := by decide +kernel
theorem dX2_init_44 : decode cX2_init 44 = .ok (.iconst 4, 1) := by decide +kernel
theorem dX2_init_45 : decode cX2_init 45 = .ok (.newarray .int, 2) := by decide +kernel
theorem dX2_init_47 : decode cX2_init 47 = .ok (.putfield 30, 3) := by decide +kernel
theorem dX2_init_50 : decode cX2_init 50 = .ok (.aload_n 0, 1) := by decide +kernel
theorem dX2_init_51 : decode cX2_init 51 = .ok (.iconst 4, 1) := by decide +kernel
theorem dX2_init_52 : decode cX2_init 52 = .ok (.newarray .int, 2) := by decide +kernel
theorem dX2_init_54 : decode cX2_init 54 = .ok (.putfield 33, 3) := by decide +kernel
theorem dX2_init_57 : decode cX2_init 57 = .ok (.aload_n 0, 1) := by decide +kernel
theorem dX2_init_58 : decode cX2_init 58 = .ok (.iconst 4, 1) := by decide +kernel
theorem dX2_init_59 : decode cX2_init 59 = .ok (.newarray .int, 2) := by decide +kernel
theorem dX2_init_61 : decode cX2_init 61 = .ok (.putfield 36, 3) := by decide +kernel
theorem dX2_init_64 : decode cX2_init 64 = .ok (.aload_n 0, 1) := by decide +kernel
theorem dX2_init_65 : decode cX2_init 65 = .ok (.iconst 4, 1) := by decide +kernel
theorem dX2_init_66 : decode cX2_init 66 = .ok (.newarray .int, 2) := by decide +kernel
theorem dX2_init_68 : decode cX2_init 68 = .ok (.putfield 39, 3) := by decide +kernel
theorem dX2_init_71 : decode cX2_init 71 = .ok (.aload_n 0, 1) := by decide +kernel
theorem dX2_init_72 : decode cX2_init 72 = .ok (.aload_n 1, 1) := by decide +kernel
theorem dX2_init_73 : decode cX2_init 73 = .ok (.putfield 42, 3) := by decide +kernel
theorem dX2_init_76 : decode cX2_init 76 = .ok (.return_, 1) := by decide +kernel
theorem dX2_has_0 : decode cX2_has 0 = .ok (.iload_n 1, 1) := by decide +kernel
theorem dX2_has_1 : decode cX2_has 1 = .ok (.ifCond .lt 15, 3) := by decide +kernel
theorem dX2_has_4 : decode cX2_has 4 = .ok (.iload_n 1, 1) := by decide +kernel
theorem dX2_has_5 : decode cX2_has 5 = .ok (.aload_n 0, 1) := by decide +kernel
theorem dX2_has_6 : decode cX2_has 6 = .ok (.getfield 46, 3) := by decide +kernel
theorem dX2_has_9 : decode cX2_has 9 = .ok (.if_icmp .ge 7, 3) := by decide +kernel
theorem dX2_has_12 : decode cX2_has 12 = .ok (.iconst 1, 1) := by decide +kernel
theorem dX2_has_13 : decode cX2_has 13 = .ok (.goto 4, 3) := by decide +kernel
theorem dX2_has_16 : decode cX2_has 16 = .ok (.iconst 0, 1) := by decide +kernel
theorem dX2_has_17 : decode cX2_has 17 = .ok (.ireturn, 1) := by decide +kernel
theorem dX2_hasLeg_0 : decode cX2_hasLeg 0 = .ok (.aload_n 0, 1) := by decide +kernel
theorem dX2_hasLeg_1 : decode cX2_hasLeg 1 = .ok (.iload_n 1, 1) := by decide +kernel
theorem dX2_hasLeg_2 : decode cX2_hasLeg 2 = .ok (.invokevirtual 50, 3) := by decide +kernel
theorem dX2_hasLeg_5 : decode cX2_hasLeg 5 = .ok (.ifCond .eq 21, 3) := by decide +kernel
theorem dX2_hasLeg_8 : decode cX2_hasLeg 8 = .ok (.iload_n 2, 1) := by decide +kernel
theorem dX2_hasLeg_9 : decode cX2_hasLeg 9 = .ok (.ifCond .lt 17, 3) := by decide +kernel
theorem dX2_hasLeg_12 : decode cX2_hasLeg 12 = .ok (.iload_n 2, 1) := by decide +kernel
theorem dX2_hasLeg_13 : decode cX2_hasLeg 13 = .ok (.aload_n 0, 1) := by decide +kernel
theorem dX2_hasLeg_14 : decode cX2_hasLeg 14 = .ok (.iload_n 1, 1) := by decide +kernel
theorem dX2_hasLeg_15 : decode cX2_hasLeg 15 = .ok (.iconst 4, 1) := by decide +kernel
theorem dX2_hasLeg_16 : decode cX2_hasLeg 16 = .ok (.invokevirtual 54, 3) := by decide +kernel
theorem dX2_hasLeg_19 : decode cX2_hasLeg 19 = .ok (.if_icmp .ge 7, 3) := by decide +kernel
theorem dX2_hasLeg_22 : decode cX2_hasLeg 22 = .ok (.iconst 1, 1) := by decide +kernel
theorem dX2_hasLeg_23 : decode cX2_hasLeg 23 = .ok (.goto 4, 3) := by decide +kernel
theorem dX2_hasLeg_26 : decode cX2_hasLeg 26 = .ok (.iconst 0, 1) := by decide +kernel
theorem dX2_hasLeg_27 : decode cX2_hasLeg 27 = .ok (.ireturn, 1) := by decide +kernel
theorem dX2_ofWay_0 : decode cX2_ofWay 0 = .ok (.aload_n 0, 1) := by decide +kernel
theorem dX2_ofWay_1 : decode cX2_ofWay 1 = .ok (.getfield 9, 3) := by decide +kernel
theorem dX2_ofWay_4 : decode cX2_ofWay 4 = .ok (.iload_n 1, 1) := by decide +kernel
theorem dX2_ofWay_5 : decode cX2_ofWay 5 = .ok (.iconst 5, 1) := by decide +kernel
theorem dX2_ofWay_6 : decode cX2_ofWay 6 = .ok (.imul, 1) := by decide +kernel
theorem dX2_ofWay_7 : decode cX2_ofWay 7 = .ok (.iload_n 2, 1) := by decide +kernel
theorem dX2_ofWay_8 : decode cX2_ofWay 8 = .ok (.iadd, 1) := by decide +kernel
theorem dX2_ofWay_9 : decode cX2_ofWay 9 = .ok (.iaload, 1) := by decide +kernel
theorem dX2_ofWay_10 : decode cX2_ofWay 10 = .ok (.ireturn, 1) := by decide +kernel
theorem dX2_ofLeg_0 : decode cX2_ofLeg 0 = .ok (.aload_n 0, 1) := by decide +kernel
theorem dX2_ofLeg_1 : decode cX2_ofLeg 1 = .ok (.getfield 15, 3) := by decide +kernel
theorem dX2_ofLeg_4 : decode cX2_ofLeg 4 = .ok (.iload_n 1, 1) := by decide +kernel
theorem dX2_ofLeg_5 : decode cX2_ofLeg 5 = .ok (.bipush 7, 2) := by decide +kernel
theorem dX2_ofLeg_7 : decode cX2_ofLeg 7 = .ok (.imul, 1) := by decide +kernel
theorem dX2_ofLeg_8 : decode cX2_ofLeg 8 = .ok (.iload_n 2, 1) := by decide +kernel
theorem dX2_ofLeg_9 : decode cX2_ofLeg 9 = .ok (.iadd, 1) := by decide +kernel
theorem dX2_ofLeg_10 : decode cX2_ofLeg 10 = .ok (.bipush 9, 2) := by decide +kernel
theorem dX2_ofLeg_12 : decode cX2_ofLeg 12 = .ok (.imul, 1) := by decide +kernel
theorem dX2_ofLeg_13 : decode cX2_ofLeg 13 = .ok (.iload_n 3, 1) := by decide +kernel
theorem dX2_ofLeg_14 : decode cX2_ofLeg 14 = .ok (.iadd, 1) := by decide +kernel
theorem dX2_ofLeg_15 : decode cX2_ofLeg 15 = .ok (.iaload, 1) := by decide +kernel
theorem dX2_ofLeg_16 : decode cX2_ofLeg 16 = .ok (.ireturn, 1) := by decide +kernel
theorem dX2_ridesOver_0 : decode cX2_ridesOver 0 = .ok (.iconst 0, 1) := by decide +kernel
theorem dX2_ridesOver_1 : decode cX2_ridesOver 1 = .ok (.istore 5, 2) := by decide +kernel
theorem dX2_ridesOver_3 : decode cX2_ridesOver 3 = .ok (.iconst 0, 1) := by decide +kernel
theorem dX2_ridesOver_4 : decode cX2_ridesOver 4 = .ok (.istore 6, 2) := by decide +kernel
theorem dX2_ridesOver_6 : decode cX2_ridesOver 6 = .ok (.iload 6, 2) := by decide +kernel
theorem dX2_ridesOver_8 : decode cX2_ridesOver 8 = .ok (.aload_n 0, 1) := by decide +kernel
theorem dX2_ridesOver_9 : decode cX2_ridesOver 9 = .ok (.iload_n 1, 1) := by decide +kernel
theorem dX2_ridesOver_10 : decode cX2_ridesOver 10 = .ok (.iconst 4, 1) := by decide +kernel
theorem dX2_ridesOver_11 : decode cX2_ridesOver 11 = .ok (.invokevirtual 54, 3) := by decide +kernel
theorem dX2_ridesOver_14 : decode cX2_ridesOver 14 = .ok (.if_icmp .ge 65, 3) := by decide +kernel
theorem dX2_ridesOver_17 : decode cX2_ridesOver 17 = .ok (.aload_n 0, 1) := by decide +kernel
theorem dX2_ridesOver_18 : decode cX2_ridesOver 18 = .ok (.iload_n 1, 1) := by decide +kernel
theorem dX2_ridesOver_19 : decode cX2_ridesOver 19 = .ok (.iload 6, 2) := by decide +kernel
theorem dX2_ridesOver_21 : decode cX2_ridesOver 21 = .ok (.iconst 1, 1) := by decide +kernel
theorem dX2_ridesOver_22 : decode cX2_ridesOver 22 = .ok (.invokevirtual 58, 3) := by decide +kernel
theorem dX2_ridesOver_25 : decode cX2_ridesOver 25 = .ok (.iload_n 2, 1) := by decide +kernel
theorem dX2_ridesOver_26 : decode cX2_ridesOver 26 = .ok (.if_icmp .ne 47, 3) := by decide +kernel
theorem dX2_ridesOver_29 : decode cX2_ridesOver 29 = .ok (.aload_n 0, 1) := by decide +kernel
theorem dX2_ridesOver_30 : decode cX2_ridesOver 30 = .ok (.iload_n 1, 1) := by decide +kernel
theorem dX2_ridesOver_31 : decode cX2_ridesOver 31 = .ok (.iload 6, 2) := by decide +kernel
theorem dX2_ridesOver_33 : decode cX2_ridesOver 33 = .ok (.bipush 6, 2) := by decide +kernel
theorem dX2_ridesOver_35 : decode cX2_ridesOver 35 = .ok (.invokevirtual 58, 3) := by decide +kernel
theorem dX2_ridesOver_38 : decode cX2_ridesOver 38 = .ok (.iload_n 3, 1) := by decide +kernel
theorem dX2_ridesOver_39 : decode cX2_ridesOver 39 = .ok (.if_icmp .ne 34, 3) := by decide +kernel
theorem dX2_ridesOver_42 : decode cX2_ridesOver 42 = .ok (.aload_n 0, 1) := by decide +kernel
theorem dX2_ridesOver_43 : decode cX2_ridesOver 43 = .ok (.iload_n 1, 1) := by decide +kernel
theorem dX2_ridesOver_44 : decode cX2_ridesOver 44 = .ok (.iload 6, 2) := by decide +kernel
theorem dX2_ridesOver_46 : decode cX2_ridesOver 46 = .ok (.bipush 7, 2) := by decide +kernel
theorem dX2_ridesOver_48 : decode cX2_ridesOver 48 = .ok (.invokevirtual 58, 3) := by decide +kernel
theorem dX2_ridesOver_51 : decode cX2_ridesOver 51 = .ok (.iload 4, 2) := by decide +kernel
theorem dX2_ridesOver_53 : decode cX2_ridesOver 53 = .ok (.if_icmp .gt 20, 3) := by decide +kernel
theorem dX2_ridesOver_56 : decode cX2_ridesOver 56 = .ok (.iload 4, 2) := by decide +kernel
theorem dX2_ridesOver_58 : decode cX2_ridesOver 58 = .ok (.aload_n 0, 1) := by decide +kernel
theorem dX2_ridesOver_59 : decode cX2_ridesOver 59 = .ok (.iload_n 1, 1) := by decide +kernel
theorem dX2_ridesOver_60 : decode cX2_ridesOver 60 = .ok (.iload 6, 2) := by decide +kernel
theorem dX2_ridesOver_62 : decode cX2_ridesOver 62 = .ok (.bipush 8, 2) := by decide +kernel
theorem dX2_ridesOver_64 : decode cX2_ridesOver 64 = .ok (.invokevirtual 58, 3) := by decide +kernel
theorem dX2_ridesOver_67 : decode cX2_ridesOver 67 = .ok (.if_icmp .ge 6, 3) := by decide +kernel
theorem dX2_ridesOver_70 : decode cX2_ridesOver 70 = .ok (.iinc 5 1, 3) := by decide +kernel
theorem dX2_ridesOver_73 : decode cX2_ridesOver 73 = .ok (.iinc 6 1, 3) := by decide +kernel
theorem dX2_ridesOver_76 : decode cX2_ridesOver 76 = .ok (.goto (-70), 3) := by decide +kernel
theorem dX2_ridesOver_79 : decode cX2_ridesOver 79 = .ok (.iload 5, 2) := by decide +kernel
theorem dX2_ridesOver_81 : decode cX2_ridesOver 81 = .ok (.ireturn, 1) := by decide +kernel
theorem dX2_collect_0 : decode cX2_collect 0 = .ok (.aload_n 0, 1) := by decide +kernel
theorem dX2_collect_1 : decode cX2_collect 1 = .ok (.aload_n 0, 1) := by decide +kernel
theorem dX2_collect_2 : decode cX2_collect 2 = .ok (.getfield 42, 3) := by decide +kernel
theorem dX2_collect_5 : decode cX2_collect 5 = .ok (.getfield 62, 3) := by decide +kernel
theorem dX2_collect_8 : decode cX2_collect 8 = .ok (.putfield 67, 3) := by decide +kernel
theorem dX2_collect_11 : decode cX2_collect 11 = .ok (.aload_n 0, 1) := by decide +kernel
theorem dX2_collect_12 : decode cX2_collect 12 = .ok (.getfield 23, 3) := by decide +kernel
theorem dX2_collect_15 : decode cX2_collect 15 = .ok (.invokevirtual 68, 3) := by decide +kernel
theorem dX2_collect_18 : decode cX2_collect 18 = .ok (.aload_n 0, 1) := by decide +kernel
theorem dX2_collect_19 : decode cX2_collect 19 = .ok (.getfield 27, 3) := by decide +kernel
theorem dX2_collect_22 : decode cX2_collect 22 = .ok (.ldc 71, 2) := by decide +kernel
theorem dX2_collect_24 : decode cX2_collect 24 = .ok (.invokestatic 72, 3) := by decide +kernel
theorem dX2_collect_27 : decode cX2_collect 27 = .ok (.iconst 0, 1) := by decide +kernel
theorem dX2_collect_28 : decode cX2_collect 28 = .ok (.istore_n 2, 1) := by decide +kernel
theorem dX2_collect_29 : decode cX2_collect 29 = .ok (.iload_n 2, 1) := by decide +kernel
theorem dX2_collect_30 : decode cX2_collect 30 = .ok (.iconst 3, 1) := by decide +kernel
theorem dX2_collect_31 : decode cX2_collect 31 = .ok (.if_icmp .gt 74, 3) := by decide +kernel
theorem dX2_collect_34 : decode cX2_collect 34 = .ok (.iconst 0, 1) := by decide +kernel
theorem dX2_collect_35 : decode cX2_collect 35 = .ok (.istore_n 3, 1) := by decide +kernel
theorem dX2_collect_36 : decode cX2_collect 36 = .ok (.iload_n 3, 1) := by decide +kernel
theorem dX2_collect_37 : decode cX2_collect 37 = .ok (.aload_n 0, 1) := by decide +kernel
theorem dX2_collect_38 : decode cX2_collect 38 = .ok (.getfield 42, 3) := by decide +kernel
theorem dX2_collect_41 : decode cX2_collect 41 = .ok (.iload_n 2, 1) := by decide +kernel
theorem dX2_collect_42 : decode cX2_collect 42 = .ok (.invokevirtual 78, 3) := by decide +kernel
theorem dX2_collect_45 : decode cX2_collect 45 = .ok (.if_icmp .gt 54, 3) := by decide +kernel
theorem dX2_collect_48 : decode cX2_collect 48 = .ok (.aload_n 0, 1) := by decide +kernel
theorem dX2_collect_49 : decode cX2_collect 49 = .ok (.getfield 42, 3) := by decide +kernel
theorem dX2_collect_52 : decode cX2_collect 52 = .ok (.iload_n 2, 1) := by decide +kernel
theorem dX2_collect_53 : decode cX2_collect 53 = .ok (.iload_n 3, 1) := by decide +kernel
theorem dX2_collect_54 : decode cX2_collect 54 = .ok (.iload_n 1, 1) := by decide +kernel
theorem dX2_collect_55 : decode cX2_collect 55 = .ok (.invokevirtual 82, 3) := by decide +kernel
theorem dX2_collect_58 : decode cX2_collect 58 = .ok (.istore 4, 2) := by decide +kernel
theorem dX2_collect_60 : decode cX2_collect 60 = .ok (.aload_n 0, 1) := by decide +kernel
theorem dX2_collect_61 : decode cX2_collect 61 = .ok (.iload_n 3, 1) := by decide +kernel
theorem dX2_collect_62 : decode cX2_collect 62 = .ok (.iload 4, 2) := by decide +kernel
theorem dX2_collect_64 : decode cX2_collect 64 = .ok (.invokevirtual 85, 3) := by decide +kernel
theorem dX2_collect_67 : decode cX2_collect 67 = .ok (.ifCond .eq 26, 3) := by decide +kernel
theorem dX2_collect_70 : decode cX2_collect 70 = .ok (.aload_n 0, 1) := by decide +kernel
theorem dX2_collect_71 : decode cX2_collect 71 = .ok (.getfield 23, 3) := by decide +kernel
theorem dX2_collect_74 : decode cX2_collect 74 = .ok (.iload 4, 2) := by decide +kernel
theorem dX2_collect_76 : decode cX2_collect 76 = .ok (.aload_n 0, 1) := by decide +kernel
theorem dX2_collect_77 : decode cX2_collect 77 = .ok (.getfield 67, 3) := by decide +kernel
theorem dX2_collect_80 : decode cX2_collect 80 = .ok (.isub, 1) := by decide +kernel
theorem dX2_collect_81 : decode cX2_collect 81 = .ok (.iconst 4, 1) := by decide +kernel
theorem dX2_collect_82 : decode cX2_collect 82 = .ok (.imul, 1) := by decide +kernel
theorem dX2_collect_83 : decode cX2_collect 83 = .ok (.iload_n 2, 1) := by decide +kernel
theorem dX2_collect_84 : decode cX2_collect 84 = .ok (.iadd, 1) := by decide +kernel
theorem dX2_collect_85 : decode cX2_collect 85 = .ok (.bipush 28, 2) := by decide +kernel
theorem dX2_collect_87 : decode cX2_collect 87 = .ok (.imul, 1) := by decide +kernel
theorem dX2_collect_88 : decode cX2_collect 88 = .ok (.iload_n 3, 1) := by decide +kernel
theorem dX2_collect_89 : decode cX2_collect 89 = .ok (.iadd, 1) := by decide +kernel
theorem dX2_collect_90 : decode cX2_collect 90 = .ok (.invokevirtual 89, 3) := by decide +kernel
theorem dX2_collect_93 : decode cX2_collect 93 = .ok (.iinc 3 1, 3) := by decide +kernel
theorem dX2_collect_96 : decode cX2_collect 96 = .ok (.goto (-60), 3) := by decide +kernel
theorem dX2_collect_99 : decode cX2_collect 99 = .ok (.iinc 2 1, 3) := by decide +kernel
theorem dX2_collect_102 : decode cX2_collect 102 = .ok (.goto (-73), 3) := by decide +kernel
theorem dX2_collect_105 : decode cX2_collect 105 = .ok (.aload_n 0, 1) := by decide +kernel
theorem dX2_collect_106 : decode cX2_collect 106 = .ok (.aload_n 0, 1) := by decide +kernel
theorem dX2_collect_107 : decode cX2_collect 107 = .ok (.getfield 23, 3) := by decide +kernel
theorem dX2_collect_110 : decode cX2_collect 110 = .ok (.getfield 92, 3) := by decide +kernel
theorem dX2_collect_113 : decode cX2_collect 113 = .ok (.putfield 46, 3) := by decide +kernel
theorem dX2_collect_116 : decode cX2_collect 116 = .ok (.iconst 0, 1) := by decide +kernel
theorem dX2_collect_117 : decode cX2_collect 117 = .ok (.istore_n 2, 1) := by decide +kernel
theorem dX2_collect_118 : decode cX2_collect 118 = .ok (.iload_n 2, 1) := by decide +kernel
theorem dX2_collect_119 : decode cX2_collect 119 = .ok (.aload_n 0, 1) := by decide +kernel
theorem dX2_collect_120 : decode cX2_collect 120 = .ok (.getfield 46, 3) := by decide +kernel
theorem dX2_collect_123 : decode cX2_collect 123 = .ok (.if_icmp .ge 74, 3) := by decide +kernel
theorem dX2_collect_126 : decode cX2_collect 126 = .ok (.aload_n 0, 1) := by decide +kernel
theorem dX2_collect_127 : decode cX2_collect 127 = .ok (.getfield 23, 3) := by decide +kernel
theorem dX2_collect_130 : decode cX2_collect 130 = .ok (.iload_n 2, 1) := by decide +kernel
theorem dX2_collect_131 : decode cX2_collect 131 = .ok (.invokevirtual 93, 3) := by decide +kernel
theorem dX2_collect_134 : decode cX2_collect 134 = .ok (.bipush 28, 2) := by decide +kernel
theorem dX2_collect_136 : decode cX2_collect 136 = .ok (.irem, 1) := by decide +kernel
theorem dX2_collect_137 : decode cX2_collect 137 = .ok (.istore_n 3, 1) := by decide +kernel
theorem dX2_collect_138 : decode cX2_collect 138 = .ok (.aload_n 0, 1) := by decide +kernel
theorem dX2_collect_139 : decode cX2_collect 139 = .ok (.getfield 23, 3) := by decide +kernel
theorem dX2_collect_142 : decode cX2_collect 142 = .ok (.iload_n 2, 1) := by decide +kernel
theorem dX2_collect_143 : decode cX2_collect 143 = .ok (.invokevirtual 93, 3) := by decide +kernel
theorem dX2_collect_146 : decode cX2_collect 146 = .ok (.bipush 28, 2) := by decide +kernel
theorem dX2_collect_148 : decode cX2_collect 148 = .ok (.idiv, 1) := by decide +kernel
theorem dX2_collect_149 : decode cX2_collect 149 = .ok (.iconst 4, 1) := by decide +kernel
theorem dX2_collect_150 : decode cX2_collect 150 = .ok (.irem, 1) := by decide +kernel
theorem dX2_collect_151 : decode cX2_collect 151 = .ok (.istore 4, 2) := by decide +kernel
theorem dX2_collect_153 : decode cX2_collect 153 = .ok (.aload_n 0, 1) := by decide +kernel
theorem dX2_collect_154 : decode cX2_collect 154 = .ok (.getfield 67, 3) := by decide +kernel
theorem dX2_collect_157 : decode cX2_collect 157 = .ok (.aload_n 0, 1) := by decide +kernel
theorem dX2_collect_158 : decode cX2_collect 158 = .ok (.getfield 23, 3) := by decide +kernel
theorem dX2_collect_161 : decode cX2_collect 161 = .ok (.iload_n 2, 1) := by decide +kernel
theorem dX2_collect_162 : decode cX2_collect 162 = .ok (.invokevirtual 93, 3) := by decide +kernel
theorem dX2_collect_165 : decode cX2_collect 165 = .ok (.bipush 28, 2) := by decide +kernel
theorem dX2_collect_167 : decode cX2_collect 167 = .ok (.idiv, 1) := by decide +kernel
theorem dX2_collect_168 : decode cX2_collect 168 = .ok (.iconst 4, 1) := by decide +kernel
theorem dX2_collect_169 : decode cX2_collect 169 = .ok (.idiv, 1) := by decide +kernel
theorem dX2_collect_170 : decode cX2_collect 170 = .ok (.iadd, 1) := by decide +kernel
theorem dX2_collect_171 : decode cX2_collect 171 = .ok (.istore 5, 2) := by decide +kernel
theorem dX2_collect_173 : decode cX2_collect 173 = .ok (.aload_n 0, 1) := by decide +kernel
theorem dX2_collect_174 : decode cX2_collect 174 = .ok (.iload 4, 2) := by decide +kernel
theorem dX2_collect_176 : decode cX2_collect 176 = .ok (.iload_n 3, 1) := by decide +kernel
theorem dX2_collect_177 : decode cX2_collect 177 = .ok (.iload_n 1, 1) := by decide +kernel
theorem dX2_collect_178 : decode cX2_collect 178 = .ok (.iload 5, 2) := by decide +kernel
theorem dX2_collect_180 : decode cX2_collect 180 = .ok (.invokevirtual 96, 3) := by decide +kernel
theorem dX2_collect_183 : decode cX2_collect 183 = .ok (.aload_n 0, 1) := by decide +kernel
theorem dX2_collect_184 : decode cX2_collect 184 = .ok (.iload_n 2, 1) := by decide +kernel
theorem dX2_collect_185 : decode cX2_collect 185 = .ok (.iload 4, 2) := by decide +kernel
theorem dX2_collect_187 : decode cX2_collect 187 = .ok (.iload_n 3, 1) := by decide +kernel
theorem dX2_collect_188 : decode cX2_collect 188 = .ok (.invokevirtual 100, 3) := by decide +kernel
theorem dX2_collect_191 : decode cX2_collect 191 = .ok (.iinc 2 1, 3) := by decide +kernel
theorem dX2_collect_194 : decode cX2_collect 194 = .ok (.goto (-76), 3) := by decide +kernel
theorem dX2_collect_197 : decode cX2_collect 197 = .ok (.aload_n 0, 1) := by decide +kernel
theorem dX2_collect_198 : decode cX2_collect 198 = .ok (.getfield 46, 3) := by decide +kernel
theorem dX2_collect_201 : decode cX2_collect 201 = .ok (.ireturn, 1) := by decide +kernel
theorem dX2_isUnbeaten_0 : decode cX2_isUnbeaten 0 = .ok (.iload_n 2, 1) := by decide +kernel
theorem dX2_isUnbeaten_1 : decode cX2_isUnbeaten 1 = .ok (.aload_n 0, 1) := by decide +kernel
theorem dX2_isUnbeaten_2 : decode cX2_isUnbeaten 2 = .ok (.getfield 27, 3) := by decide +kernel
theorem dX2_isUnbeaten_5 : decode cX2_isUnbeaten 5 = .ok (.iload_n 1, 1) := by decide +kernel
theorem dX2_isUnbeaten_6 : decode cX2_isUnbeaten 6 = .ok (.iaload, 1) := by decide +kernel
theorem dX2_isUnbeaten_7 : decode cX2_isUnbeaten 7 = .ok (.if_icmp .lt 5, 3) := by decide +kernel
theorem dX2_isUnbeaten_10 : decode cX2_isUnbeaten 10 = .ok (.iconst 0, 1) := by decide +kernel
theorem dX2_isUnbeaten_11 : decode cX2_isUnbeaten 11 = .ok (.ireturn, 1) := by decide +kernel
theorem dX2_isUnbeaten_12 : decode cX2_isUnbeaten 12 = .ok (.iload_n 1, 1) := by decide +kernel
theorem dX2_isUnbeaten_13 : decode cX2_isUnbeaten 13 = .ok (.istore_n 3, 1) := by decide +kernel
theorem dX2_isUnbeaten_14 : decode cX2_isUnbeaten 14 = .ok (.iload_n 3, 1) := by decide +kernel
theorem dX2_isUnbeaten_15 : decode cX2_isUnbeaten 15 = .ok (.bipush 28, 2) := by decide +kernel
theorem dX2_isUnbeaten_17 : decode cX2_isUnbeaten 17 = .ok (.if_icmp .ge 25, 3) := by decide +kernel
theorem dX2_isUnbeaten_20 : decode cX2_isUnbeaten 20 = .ok (.aload_n 0, 1) := by decide +kernel
theorem dX2_isUnbeaten_21 : decode cX2_isUnbeaten 21 = .ok (.getfield 27, 3) := by decide +kernel
theorem dX2_isUnbeaten_24 : decode cX2_isUnbeaten 24 = .ok (.iload_n 3, 1) := by decide +kernel
theorem dX2_isUnbeaten_25 : decode cX2_isUnbeaten 25 = .ok (.aload_n 0, 1) := by decide +kernel
theorem dX2_isUnbeaten_26 : decode cX2_isUnbeaten 26 = .ok (.getfield 27, 3) := by decide +kernel
theorem dX2_isUnbeaten_29 : decode cX2_isUnbeaten 29 = .ok (.iload_n 3, 1) := by decide +kernel
theorem dX2_isUnbeaten_30 : decode cX2_isUnbeaten 30 = .ok (.iaload, 1) := by decide +kernel
theorem dX2_isUnbeaten_31 : decode cX2_isUnbeaten 31 = .ok (.iload_n 2, 1) := by decide +kernel
theorem dX2_isUnbeaten_32 : decode cX2_isUnbeaten 32 = .ok (.invokestatic 104, 3) := by decide +kernel
theorem dX2_isUnbeaten_35 : decode cX2_isUnbeaten 35 = .ok (.iastore, 1) := by decide +kernel
theorem dX2_isUnbeaten_36 : decode cX2_isUnbeaten 36 = .ok (.iinc 3 1, 3) := by decide +kernel
theorem dX2_isUnbeaten_39 : decode cX2_isUnbeaten 39 = .ok (.goto (-25), 3) := by decide +kernel
theorem dX2_isUnbeaten_42 : decode cX2_isUnbeaten 42 = .ok (.iconst 1, 1) := by decide +kernel
theorem dX2_isUnbeaten_43 : decode cX2_isUnbeaten 43 = .ok (.ireturn, 1) := by decide +kernel
theorem dX2_trace_0 : decode cX2_trace 0 = .ok (.iload_n 3, 1) := by decide +kernel
theorem dX2_trace_1 : decode cX2_trace 1 = .ok (.istore 5, 2) := by decide +kernel
theorem dX2_trace_3 : decode cX2_trace 3 = .ok (.iload 4, 2) := by decide +kernel
theorem dX2_trace_5 : decode cX2_trace 5 = .ok (.istore 6, 2) := by decide +kernel
theorem dX2_trace_7 : decode cX2_trace 7 = .ok (.iconst 0, 1) := by decide +kernel
theorem dX2_trace_8 : decode cX2_trace 8 = .ok (.istore 7, 2) := by decide +kernel
theorem dX2_trace_10 : decode cX2_trace 10 = .ok (.iload_n 2, 1) := by decide +kernel
theorem dX2_trace_11 : decode cX2_trace 11 = .ok (.istore 8, 2) := by decide +kernel
theorem dX2_trace_13 : decode cX2_trace 13 = .ok (.iload_n 1, 1) := by decide +kernel
theorem dX2_trace_14 : decode cX2_trace 14 = .ok (.istore 9, 2) := by decide +kernel
theorem dX2_trace_16 : decode cX2_trace 16 = .ok (.iload 9, 2) := by decide +kernel
theorem dX2_trace_18 : decode cX2_trace 18 = .ok (.ifCond .lt 207, 3) := by decide +kernel
theorem dX2_trace_21 : decode cX2_trace 21 = .ok (.aload_n 0, 1) := by decide +kernel
theorem dX2_trace_22 : decode cX2_trace 22 = .ok (.getfield 30, 3) := by decide +kernel
theorem dX2_trace_25 : decode cX2_trace 25 = .ok (.iload 9, 2) := by decide +kernel
theorem dX2_trace_27 : decode cX2_trace 27 = .ok (.aload_n 0, 1) := by decide +kernel
theorem dX2_trace_28 : decode cX2_trace 28 = .ok (.iload 9, 2) := by decide +kernel
theorem dX2_trace_30 : decode cX2_trace 30 = .ok (.iload 8, 2) := by decide +kernel
theorem dX2_trace_32 : decode cX2_trace 32 = .ok (.iload 5, 2) := by decide +kernel
theorem dX2_trace_34 : decode cX2_trace 34 = .ok (.iload 6, 2) := by decide +kernel
theorem dX2_trace_36 : decode cX2_trace 36 = .ok (.iload 7, 2) := by decide +kernel
theorem dX2_trace_38 : decode cX2_trace 38 = .ok (.invokevirtual 109, 3) := by decide +kernel
theorem dX2_trace_41 : decode cX2_trace 41 = .ok (.iastore, 1) := by decide +kernel
theorem dX2_trace_42 : decode cX2_trace 42 = .ok (.iload 9, 2) := by decide +kernel
theorem dX2_trace_44 : decode cX2_trace 44 = .ok (.ifCond .le 175, 3) := by decide +kernel
theorem dX2_trace_47 : decode cX2_trace 47 = .ok (.aload_n 0, 1) := by decide +kernel
theorem dX2_trace_48 : decode cX2_trace 48 = .ok (.iload 9, 2) := by decide +kernel
theorem dX2_trace_50 : decode cX2_trace 50 = .ok (.iload 8, 2) := by decide +kernel
theorem dX2_trace_52 : decode cX2_trace 52 = .ok (.aload_n 0, 1) := by decide +kernel
theorem dX2_trace_53 : decode cX2_trace 53 = .ok (.getfield 30, 3) := by decide +kernel
theorem dX2_trace_56 : decode cX2_trace 56 = .ok (.iload 9, 2) := by decide +kernel
theorem dX2_trace_58 : decode cX2_trace 58 = .ok (.iaload, 1) := by decide +kernel
theorem dX2_trace_59 : decode cX2_trace 59 = .ok (.iload 5, 2) := by decide +kernel
theorem dX2_trace_61 : decode cX2_trace 61 = .ok (.iload 6, 2) := by decide +kernel
theorem dX2_trace_63 : decode cX2_trace 63 = .ok (.iload 7, 2) := by decide +kernel
theorem dX2_trace_65 : decode cX2_trace 65 = .ok (.invokevirtual 113, 3) := by decide +kernel
theorem dX2_trace_68 : decode cX2_trace 68 = .ok (.aload_n 0, 1) := by decide +kernel
theorem dX2_trace_69 : decode cX2_trace 69 = .ok (.getfield 42, 3) := by decide +kernel
theorem dX2_trace_72 : decode cX2_trace 72 = .ok (.getfield 117, 3) := by decide +kernel
theorem dX2_trace_75 : decode cX2_trace 75 = .ok (.getfield 121, 3) := by decide +kernel
theorem dX2_trace_78 : decode cX2_trace 78 = .ok (.aload_n 0, 1) := by decide +kernel
theorem dX2_trace_79 : decode cX2_trace 79 = .ok (.getfield 33, 3) := by decide +kernel
theorem dX2_trace_82 : decode cX2_trace 82 = .ok (.iload 9, 2) := by decide +kernel
theorem dX2_trace_84 : decode cX2_trace 84 = .ok (.iaload, 1) := by decide +kernel
theorem dX2_trace_85 : decode cX2_trace 85 = .ok (.iaload, 1) := by decide +kernel
theorem dX2_trace_86 : decode cX2_trace 86 = .ok (.istore 10, 2) := by decide +kernel
theorem dX2_trace_88 : decode cX2_trace 88 = .ok (.aload_n 0, 1) := by decide +kernel
theorem dX2_trace_89 : decode cX2_trace 89 = .ok (.getfield 42, 3) := by decide +kernel
theorem dX2_trace_92 : decode cX2_trace 92 = .ok (.getfield 126, 3) := by decide +kernel
theorem dX2_trace_95 : decode cX2_trace 95 = .ok (.getfield 130, 3) := by decide +kernel
theorem dX2_trace_98 : decode cX2_trace 98 = .ok (.iload 10, 2) := by decide +kernel
theorem dX2_trace_100 : decode cX2_trace 100 = .ok (.bipush 8, 2) := by decide +kernel
theorem dX2_trace_102 : decode cX2_trace 102 = .ok (.imul, 1) := by decide +kernel
theorem dX2_trace_103 : decode cX2_trace 103 = .ok (.aload_n 0, 1) := by decide +kernel
theorem dX2_trace_104 : decode cX2_trace 104 = .ok (.getfield 36, 3) := by decide +kernel
theorem dX2_trace_107 : decode cX2_trace 107 = .ok (.iload 9, 2) := by decide +kernel
theorem dX2_trace_109 : decode cX2_trace 109 = .ok (.iaload, 1) := by decide +kernel
theorem dX2_trace_110 : decode cX2_trace 110 = .ok (.iadd, 1) := by decide +kernel
theorem dX2_trace_111 : decode cX2_trace 111 = .ok (.iaload, 1) := by decide +kernel
theorem dX2_trace_112 : decode cX2_trace 112 = .ok (.istore 11, 2) := by decide +kernel
theorem dX2_trace_114 : decode cX2_trace 114 = .ok (.aload_n 0, 1) := by decide +kernel
theorem dX2_trace_115 : decode cX2_trace 115 = .ok (.getfield 42, 3) := by decide +kernel
theorem dX2_trace_118 : decode cX2_trace 118 = .ok (.getfield 126, 3) := by decide +kernel
theorem dX2_trace_121 : decode cX2_trace 121 = .ok (.getfield 130, 3) := by decide +kernel
theorem dX2_trace_124 : decode cX2_trace 124 = .ok (.iload 10, 2) := by decide +kernel
theorem dX2_trace_126 : decode cX2_trace 126 = .ok (.bipush 8, 2) := by decide +kernel
theorem dX2_trace_128 : decode cX2_trace 128 = .ok (.imul, 1) := by decide +kernel
theorem dX2_trace_129 : decode cX2_trace 129 = .ok (.aload_n 0, 1) := by decide +kernel
theorem dX2_trace_130 : decode cX2_trace 130 = .ok (.getfield 39, 3) := by decide +kernel
theorem dX2_trace_133 : decode cX2_trace 133 = .ok (.iload 9, 2) := by decide +kernel
theorem dX2_trace_135 : decode cX2_trace 135 = .ok (.iaload, 1) := by decide +kernel
theorem dX2_trace_136 : decode cX2_trace 136 = .ok (.iadd, 1) := by decide +kernel
theorem dX2_trace_137 : decode cX2_trace 137 = .ok (.iaload, 1) := by decide +kernel
theorem dX2_trace_138 : decode cX2_trace 138 = .ok (.istore 12, 2) := by decide +kernel
theorem dX2_trace_140 : decode cX2_trace 140 = .ok (.iload 8, 2) := by decide +kernel
theorem dX2_trace_142 : decode cX2_trace 142 = .ok (.aload_n 0, 1) := by decide +kernel
theorem dX2_trace_143 : decode cX2_trace 143 = .ok (.getfield 42, 3) := by decide +kernel
theorem dX2_trace_146 : decode cX2_trace 146 = .ok (.getfield 135, 3) := by decide +kernel
theorem dX2_trace_149 : decode cX2_trace 149 = .ok (.iload 11, 2) := by decide +kernel
theorem dX2_trace_151 : decode cX2_trace 151 = .ok (.iload 12, 2) := by decide +kernel
theorem dX2_trace_153 : decode cX2_trace 153 = .ok (.invokevirtual 139, 3) := by decide +kernel
theorem dX2_trace_156 : decode cX2_trace 156 = .ok (.isub, 1) := by decide +kernel
theorem dX2_trace_157 : decode cX2_trace 157 = .ok (.istore 8, 2) := by decide +kernel
theorem dX2_trace_159 : decode cX2_trace 159 = .ok (.iload 11, 2) := by decide +kernel
theorem dX2_trace_161 : decode cX2_trace 161 = .ok (.istore 5, 2) := by decide +kernel
theorem dX2_trace_163 : decode cX2_trace 163 = .ok (.aload_n 0, 1) := by decide +kernel
theorem dX2_trace_164 : decode cX2_trace 164 = .ok (.getfield 42, 3) := by decide +kernel
theorem dX2_trace_167 : decode cX2_trace 167 = .ok (.getfield 117, 3) := by decide +kernel
theorem dX2_trace_170 : decode cX2_trace 170 = .ok (.getfield 144, 3) := by decide +kernel
theorem dX2_trace_173 : decode cX2_trace 173 = .ok (.aload_n 0, 1) := by decide +kernel
theorem dX2_trace_174 : decode cX2_trace 174 = .ok (.getfield 33, 3) := by decide +kernel
theorem dX2_trace_177 : decode cX2_trace 177 = .ok (.iload 9, 2) := by decide +kernel
theorem dX2_trace_179 : decode cX2_trace 179 = .ok (.iaload, 1) := by decide +kernel
theorem dX2_trace_180 : decode cX2_trace 180 = .ok (.bipush 8, 2) := by decide +kernel
theorem dX2_trace_182 : decode cX2_trace 182 = .ok (.imul, 1) := by decide +kernel
theorem dX2_trace_183 : decode cX2_trace 183 = .ok (.aload_n 0, 1) := by decide +kernel
theorem dX2_trace_184 : decode cX2_trace 184 = .ok (.getfield 36, 3) := by decide +kernel
theorem dX2_trace_187 : decode cX2_trace 187 = .ok (.iload 9, 2) := by decide +kernel
theorem dX2_trace_189 : decode cX2_trace 189 = .ok (.iaload, 1) := by decide +kernel
theorem dX2_trace_190 : decode cX2_trace 190 = .ok (.iadd, 1) := by decide +kernel
theorem dX2_trace_191 : decode cX2_trace 191 = .ok (.iaload, 1) := by decide +kernel
theorem dX2_trace_192 : decode cX2_trace 192 = .ok (.istore 6, 2) := by decide +kernel
theorem dX2_trace_194 : decode cX2_trace 194 = .ok (.iload 9, 2) := by decide +kernel
theorem dX2_trace_196 : decode cX2_trace 196 = .ok (.iconst 1, 1) := by decide +kernel
theorem dX2_trace_197 : decode cX2_trace 197 = .ok (.if_icmp .le 19, 3) := by decide +kernel
theorem dX2_trace_200 : decode cX2_trace 200 = .ok (.aload_n 0, 1) := by decide +kernel
theorem dX2_trace_201 : decode cX2_trace 201 = .ok (.getfield 42, 3) := by decide +kernel
theorem dX2_trace_204 : decode cX2_trace 204 = .ok (.getfield 135, 3) := by decide +kernel
theorem dX2_trace_207 : decode cX2_trace 207 = .ok (.getfield 147, 3) := by decide +kernel
theorem dX2_trace_210 : decode cX2_trace 210 = .ok (.iload 11, 2) := by decide +kernel
theorem dX2_trace_212 : decode cX2_trace 212 = .ok (.iaload, 1) := by decide +kernel
theorem dX2_trace_213 : decode cX2_trace 213 = .ok (.goto 4, 3) := by decide +kernel
theorem dX2_trace_216 : decode cX2_trace 216 = .ok (.iconst 0, 1) := by decide +kernel
theorem dX2_trace_217 : decode cX2_trace 217 = .ok (.istore 7, 2) := by decide +kernel
theorem dX2_trace_219 : decode cX2_trace 219 = .ok (.iinc 9 (-1), 3) := by decide +kernel
theorem dX2_trace_222 : decode cX2_trace 222 = .ok (.goto (-206), 3) := by decide +kernel
theorem dX2_trace_225 : decode cX2_trace 225 = .ok (.return_, 1) := by decide +kernel
theorem dX2_leastWalk_0 : decode cX2_leastWalk 0 = .ok (.aload_n 0, 1) := by decide +kernel
theorem dX2_leastWalk_1 : decode cX2_leastWalk 1 = .ok (.getfield 42, 3) := by decide +kernel
theorem dX2_leastWalk_4 : decode cX2_leastWalk 4 = .ok (.iload_n 1, 1) := by decide +kernel
theorem dX2_leastWalk_5 : decode cX2_leastWalk 5 = .ok (.iload_n 2, 1) := by decide +kernel
theorem dX2_leastWalk_6 : decode cX2_leastWalk 6 = .ok (.iload_n 3, 1) := by decide +kernel
theorem dX2_leastWalk_7 : decode cX2_leastWalk 7 = .ok (.invokevirtual 150, 3) := by decide +kernel
theorem dX2_leastWalk_10 : decode cX2_leastWalk 10 = .ok (.iload 5, 2) := by decide +kernel
theorem dX2_leastWalk_12 : decode cX2_leastWalk 12 = .ok (.iadd, 1) := by decide +kernel
theorem dX2_leastWalk_13 : decode cX2_leastWalk 13 = .ok (.iload 4, 2) := by decide +kernel
theorem dX2_leastWalk_15 : decode cX2_leastWalk 15 = .ok (.if_icmp .gt 5, 3) := by decide +kernel
theorem dX2_leastWalk_18 : decode cX2_leastWalk 18 = .ok (.iconst (-1), 1) := by decide +kernel
theorem dX2_leastWalk_19 : decode cX2_leastWalk 19 = .ok (.ireturn, 1) := by decide +kernel
theorem dX2_leastWalk_20 : decode cX2_leastWalk 20 = .ok (.aload_n 0, 1) := by decide +kernel
theorem dX2_leastWalk_21 : decode cX2_leastWalk 21 = .ok (.getfield 42, 3) := by decide +kernel
theorem dX2_leastWalk_24 : decode cX2_leastWalk 24 = .ok (.getfield 153, 3) := by decide +kernel
theorem dX2_leastWalk_27 : decode cX2_leastWalk 27 = .ok (.astore 6, 2) := by decide +kernel
theorem dX2_leastWalk_29 : decode cX2_leastWalk 29 = .ok (.iconst 0, 1) := by decide +kernel
theorem dX2_leastWalk_30 : decode cX2_leastWalk 30 = .ok (.istore 7, 2) := by decide +kernel
theorem dX2_leastWalk_32 : decode cX2_leastWalk 32 = .ok (.iload 7, 2) := by decide +kernel
theorem dX2_leastWalk_34 : decode cX2_leastWalk 34 = .ok (.aload 6, 2) := by decide +kernel
theorem dX2_leastWalk_36 : decode cX2_leastWalk 36 = .ok (.getfield 157, 3) := by decide +kernel
theorem dX2_leastWalk_39 : decode cX2_leastWalk 39 = .ok (.if_icmp .ge 57, 3) := by decide +kernel
theorem dX2_leastWalk_42 : decode cX2_leastWalk 42 = .ok (.aload 6, 2) := by decide +kernel
theorem dX2_leastWalk_44 : decode cX2_leastWalk 44 = .ok (.getfield 160, 3) := by decide +kernel
theorem dX2_leastWalk_47 : decode cX2_leastWalk 47 = .ok (.iload 7, 2) := by decide +kernel
theorem dX2_leastWalk_49 : decode cX2_leastWalk 49 = .ok (.iaload, 1) := by decide +kernel
theorem dX2_leastWalk_50 : decode cX2_leastWalk 50 = .ok (.iload_n 3, 1) := by decide +kernel
theorem dX2_leastWalk_51 : decode cX2_leastWalk 51 = .ok (.if_icmp .ne 39, 3) := by decide +kernel
theorem dX2_leastWalk_54 : decode cX2_leastWalk 54 = .ok (.aload 6, 2) := by decide +kernel
theorem dX2_leastWalk_56 : decode cX2_leastWalk 56 = .ok (.iload 7, 2) := by decide +kernel
theorem dX2_leastWalk_58 : decode cX2_leastWalk 58 = .ok (.aload_n 0, 1) := by decide +kernel
theorem dX2_leastWalk_59 : decode cX2_leastWalk 59 = .ok (.getfield 42, 3) := by decide +kernel
theorem dX2_leastWalk_62 : decode cX2_leastWalk 62 = .ok (.iload_n 1, 1) := by decide +kernel
theorem dX2_leastWalk_63 : decode cX2_leastWalk 63 = .ok (.iload_n 2, 1) := by decide +kernel
theorem dX2_leastWalk_64 : decode cX2_leastWalk 64 = .ok (.aload 6, 2) := by decide +kernel
theorem dX2_leastWalk_66 : decode cX2_leastWalk 66 = .ok (.getfield 163, 3) := by decide +kernel
theorem dX2_leastWalk_69 : decode cX2_leastWalk 69 = .ok (.iload 7, 2) := by decide +kernel
theorem dX2_leastWalk_71 : decode cX2_leastWalk 71 = .ok (.iaload, 1) := by decide +kernel
theorem dX2_leastWalk_72 : decode cX2_leastWalk 72 = .ok (.invokevirtual 150, 3) := by decide +kernel
theorem dX2_leastWalk_75 : decode cX2_leastWalk 75 = .ok (.aload_n 0, 1) := by decide +kernel
theorem dX2_leastWalk_76 : decode cX2_leastWalk 76 = .ok (.getfield 67, 3) := by decide +kernel
theorem dX2_leastWalk_79 : decode cX2_leastWalk 79 = .ok (.invokevirtual 166, 3) := by decide +kernel
theorem dX2_leastWalk_82 : decode cX2_leastWalk 82 = .ok (.iload 4, 2) := by decide +kernel
theorem dX2_leastWalk_84 : decode cX2_leastWalk 84 = .ok (.if_icmp .gt 6, 3) := by decide +kernel
theorem dX2_leastWalk_87 : decode cX2_leastWalk 87 = .ok (.iload 7, 2) := by decide +kernel
theorem dX2_leastWalk_89 : decode cX2_leastWalk 89 = .ok (.ireturn, 1) := by decide +kernel
theorem dX2_leastWalk_90 : decode cX2_leastWalk 90 = .ok (.iinc 7 1, 3) := by decide +kernel
theorem dX2_leastWalk_93 : decode cX2_leastWalk 93 = .ok (.goto (-61), 3) := by decide +kernel
theorem dX2_leastWalk_96 : decode cX2_leastWalk 96 = .ok (.iconst (-1), 1) := by decide +kernel
theorem dX2_leastWalk_97 : decode cX2_leastWalk 97 = .ok (.ireturn, 1) := by decide +kernel
theorem dX2_leastRide_0 : decode cX2_leastRide 0 = .ok (.iconst 0, 1) := by decide +kernel
theorem dX2_leastRide_1 : decode cX2_leastRide 1 = .ok (.istore 7, 2) := by decide +kernel
theorem dX2_leastRide_3 : decode cX2_leastRide 3 = .ok (.iload 7, 2) := by decide +kernel
theorem dX2_leastRide_5 : decode cX2_leastRide 5 = .ok (.aload_n 0, 1) := by decide +kernel
theorem dX2_leastRide_6 : decode cX2_leastRide 6 = .ok (.getfield 42, 3) := by decide +kernel
theorem dX2_leastRide_9 : decode cX2_leastRide 9 = .ok (.getfield 117, 3) := by decide +kernel
theorem dX2_leastRide_12 : decode cX2_leastRide 12 = .ok (.getfield 169, 3) := by decide +kernel
theorem dX2_leastRide_15 : decode cX2_leastRide 15 = .ok (.if_icmp .ge 104, 3) := by decide +kernel
theorem dX2_leastRide_18 : decode cX2_leastRide 18 = .ok (.aload_n 0, 1) := by decide +kernel
theorem dX2_leastRide_19 : decode cX2_leastRide 19 = .ok (.iload 7, 2) := by decide +kernel
theorem dX2_leastRide_21 : decode cX2_leastRide 21 = .ok (.iload_n 3, 1) := by decide +kernel
theorem dX2_leastRide_22 : decode cX2_leastRide 22 = .ok (.iload 4, 2) := by decide +kernel
theorem dX2_leastRide_24 : decode cX2_leastRide 24 = .ok (.iload 5, 2) := by decide +kernel
theorem dX2_leastRide_26 : decode cX2_leastRide 26 = .ok (.iload 6, 2) := by decide +kernel
theorem dX2_leastRide_28 : decode cX2_leastRide 28 = .ok (.invokevirtual 170, 3) := by decide +kernel
theorem dX2_leastRide_31 : decode cX2_leastRide 31 = .ok (.istore 8, 2) := by decide +kernel
theorem dX2_leastRide_33 : decode cX2_leastRide 33 = .ok (.iconst 0, 1) := by decide +kernel
theorem dX2_leastRide_34 : decode cX2_leastRide 34 = .ok (.istore 9, 2) := by decide +kernel
theorem dX2_leastRide_36 : decode cX2_leastRide 36 = .ok (.iload 8, 2) := by decide +kernel
theorem dX2_leastRide_38 : decode cX2_leastRide 38 = .ok (.ifCond .eq 75, 3) := by decide +kernel
theorem dX2_leastRide_41 : decode cX2_leastRide 41 = .ok (.iload 9, 2) := by decide +kernel
theorem dX2_leastRide_43 : decode cX2_leastRide 43 = .ok (.bipush 7, 2) := by decide +kernel
theorem dX2_leastRide_45 : decode cX2_leastRide 45 = .ok (.if_icmp .ge 68, 3) := by decide +kernel
theorem dX2_leastRide_48 : decode cX2_leastRide 48 = .ok (.aload_n 0, 1) := by decide +kernel
theorem dX2_leastRide_49 : decode cX2_leastRide 49 = .ok (.iload 7, 2) := by decide +kernel
theorem dX2_leastRide_51 : decode cX2_leastRide 51 = .ok (.iload 9, 2) := by decide +kernel
theorem dX2_leastRide_53 : decode cX2_leastRide 53 = .ok (.iload 8, 2) := by decide +kernel
theorem dX2_leastRide_55 : decode cX2_leastRide 55 = .ok (.invokevirtual 173, 3) := by decide +kernel
theorem dX2_leastRide_58 : decode cX2_leastRide 58 = .ok (.istore 10, 2) := by decide +kernel
theorem dX2_leastRide_60 : decode cX2_leastRide 60 = .ok (.iload 10, 2) := by decide +kernel
theorem dX2_leastRide_62 : decode cX2_leastRide 62 = .ok (.iload 9, 2) := by decide +kernel
theorem dX2_leastRide_64 : decode cX2_leastRide 64 = .ok (.if_icmp .le 43, 3) := by decide +kernel
theorem dX2_leastRide_67 : decode cX2_leastRide 67 = .ok (.aload_n 0, 1) := by decide +kernel
theorem dX2_leastRide_68 : decode cX2_leastRide 68 = .ok (.iload_n 1, 1) := by decide +kernel
theorem dX2_leastRide_69 : decode cX2_leastRide 69 = .ok (.iload_n 2, 1) := by decide +kernel
theorem dX2_leastRide_70 : decode cX2_leastRide 70 = .ok (.iload 7, 2) := by decide +kernel
theorem dX2_leastRide_72 : decode cX2_leastRide 72 = .ok (.iload 9, 2) := by decide +kernel
theorem dX2_leastRide_74 : decode cX2_leastRide 74 = .ok (.iload 10, 2) := by decide +kernel
theorem dX2_leastRide_76 : decode cX2_leastRide 76 = .ok (.invokevirtual 176, 3) := by decide +kernel
theorem dX2_leastRide_79 : decode cX2_leastRide 79 = .ok (.ifCond .eq 28, 3) := by decide +kernel
theorem dX2_leastRide_82 : decode cX2_leastRide 82 = .ok (.aload_n 0, 1) := by decide +kernel
theorem dX2_leastRide_83 : decode cX2_leastRide 83 = .ok (.getfield 33, 3) := by decide +kernel
theorem dX2_leastRide_86 : decode cX2_leastRide 86 = .ok (.iload_n 1, 1) := by decide +kernel
theorem dX2_leastRide_87 : decode cX2_leastRide 87 = .ok (.iload 7, 2) := by decide +kernel
theorem dX2_leastRide_89 : decode cX2_leastRide 89 = .ok (.iastore, 1) := by decide +kernel
theorem dX2_leastRide_90 : decode cX2_leastRide 90 = .ok (.aload_n 0, 1) := by decide +kernel
theorem dX2_leastRide_91 : decode cX2_leastRide 91 = .ok (.getfield 36, 3) := by decide +kernel
theorem dX2_leastRide_94 : decode cX2_leastRide 94 = .ok (.iload_n 1, 1) := by decide +kernel
theorem dX2_leastRide_95 : decode cX2_leastRide 95 = .ok (.iload 9, 2) := by decide +kernel
theorem dX2_leastRide_97 : decode cX2_leastRide 97 = .ok (.iastore, 1) := by decide +kernel
theorem dX2_leastRide_98 : decode cX2_leastRide 98 = .ok (.aload_n 0, 1) := by decide +kernel
theorem dX2_leastRide_99 : decode cX2_leastRide 99 = .ok (.getfield 39, 3) := by decide +kernel
theorem dX2_leastRide_102 : decode cX2_leastRide 102 = .ok (.iload_n 1, 1) := by decide +kernel
theorem dX2_leastRide_103 : decode cX2_leastRide 103 = .ok (.iload 10, 2) := by decide +kernel
theorem dX2_leastRide_105 : decode cX2_leastRide 105 = .ok (.iastore, 1) := by decide +kernel
theorem dX2_leastRide_106 : decode cX2_leastRide 106 = .ok (.return_, 1) := by decide +kernel
theorem dX2_leastRide_107 : decode cX2_leastRide 107 = .ok (.iinc 9 1, 3) := by decide +kernel
theorem dX2_leastRide_110 : decode cX2_leastRide 110 = .ok (.goto (-74), 3) := by decide +kernel
theorem dX2_leastRide_113 : decode cX2_leastRide 113 = .ok (.iinc 7 1, 3) := by decide +kernel
theorem dX2_leastRide_116 : decode cX2_leastRide 116 = .ok (.goto (-113), 3) := by decide +kernel
theorem dX2_leastRide_119 : decode cX2_leastRide 119 = .ok (.return_, 1) := by decide +kernel
theorem dX2_callsInTime_0 : decode cX2_callsInTime 0 = .ok (.iload_n 2, 1) := by decide +kernel
theorem dX2_callsInTime_1 : decode cX2_callsInTime 1 = .ok (.ifCond .ge 7, 3) := by decide +kernel
theorem dX2_callsInTime_4 : decode cX2_callsInTime 4 = .ok (.iload_n 3, 1) := by decide +kernel
theorem dX2_callsInTime_5 : decode cX2_callsInTime 5 = .ok (.goto 15, 3) := by decide +kernel
theorem dX2_callsInTime_8 : decode cX2_callsInTime 8 = .ok (.aload_n 0, 1) := by decide +kernel
theorem dX2_callsInTime_9 : decode cX2_callsInTime 9 = .ok (.getfield 42, 3) := by decide +kernel
theorem dX2_callsInTime_12 : decode cX2_callsInTime 12 = .ok (.getfield 153, 3) := by decide +kernel
theorem dX2_callsInTime_15 : decode cX2_callsInTime 15 = .ok (.getfield 163, 3) := by decide +kernel
theorem dX2_callsInTime_18 : decode cX2_callsInTime 18 = .ok (.iload_n 2, 1) := by decide +kernel
theorem dX2_callsInTime_19 : decode cX2_callsInTime 19 = .ok (.iaload, 1) := by decide +kernel
theorem dX2_callsInTime_20 : decode cX2_callsInTime 20 = .ok (.istore 6, 2) := by decide +kernel
theorem dX2_callsInTime_22 : decode cX2_callsInTime 22 = .ok (.aload_n 0, 1) := by decide +kernel
theorem dX2_callsInTime_23 : decode cX2_callsInTime 23 = .ok (.getfield 42, 3) := by decide +kernel
theorem dX2_callsInTime_26 : decode cX2_callsInTime 26 = .ok (.getfield 117, 3) := by decide +kernel
theorem dX2_callsInTime_29 : decode cX2_callsInTime 29 = .ok (.getfield 121, 3) := by decide +kernel
theorem dX2_callsInTime_32 : decode cX2_callsInTime 32 = .ok (.iload_n 1, 1) := by decide +kernel
theorem dX2_callsInTime_33 : decode cX2_callsInTime 33 = .ok (.iaload, 1) := by decide +kernel
theorem dX2_callsInTime_34 : decode cX2_callsInTime 34 = .ok (.istore 7, 2) := by decide +kernel
theorem dX2_callsInTime_36 : decode cX2_callsInTime 36 = .ok (.iconst 0, 1) := by decide +kernel
theorem dX2_callsInTime_37 : decode cX2_callsInTime 37 = .ok (.istore 8, 2) := by decide +kernel
theorem dX2_callsInTime_39 : decode cX2_callsInTime 39 = .ok (.iconst 0, 1) := by decide +kernel
theorem dX2_callsInTime_40 : decode cX2_callsInTime 40 = .ok (.istore 9, 2) := by decide +kernel
theorem dX2_callsInTime_42 : decode cX2_callsInTime 42 = .ok (.iload 9, 2) := by decide +kernel
theorem dX2_callsInTime_44 : decode cX2_callsInTime 44 = .ok (.aload_n 0, 1) := by decide +kernel
theorem dX2_callsInTime_45 : decode cX2_callsInTime 45 = .ok (.getfield 42, 3) := by decide +kernel
theorem dX2_callsInTime_48 : decode cX2_callsInTime 48 = .ok (.getfield 126, 3) := by decide +kernel
theorem dX2_callsInTime_51 : decode cX2_callsInTime 51 = .ok (.getfield 180, 3) := by decide +kernel
theorem dX2_callsInTime_54 : decode cX2_callsInTime 54 = .ok (.iload 7, 2) := by decide +kernel
theorem dX2_callsInTime_56 : decode cX2_callsInTime 56 = .ok (.iaload, 1) := by decide +kernel
theorem dX2_callsInTime_57 : decode cX2_callsInTime 57 = .ok (.if_icmp .ge 121, 3) := by decide +kernel
theorem dX2_callsInTime_60 : decode cX2_callsInTime 60 = .ok (.aload_n 0, 1) := by decide +kernel
theorem dX2_callsInTime_61 : decode cX2_callsInTime 61 = .ok (.getfield 42, 3) := by decide +kernel
theorem dX2_callsInTime_64 : decode cX2_callsInTime 64 = .ok (.getfield 126, 3) := by decide +kernel
theorem dX2_callsInTime_67 : decode cX2_callsInTime 67 = .ok (.getfield 130, 3) := by decide +kernel
theorem dX2_callsInTime_70 : decode cX2_callsInTime 70 = .ok (.iload 7, 2) := by decide +kernel
theorem dX2_callsInTime_72 : decode cX2_callsInTime 72 = .ok (.bipush 8, 2) := by decide +kernel
theorem dX2_callsInTime_74 : decode cX2_callsInTime 74 = .ok (.imul, 1) := by decide +kernel
theorem dX2_callsInTime_75 : decode cX2_callsInTime 75 = .ok (.iload 9, 2) := by decide +kernel
theorem dX2_callsInTime_77 : decode cX2_callsInTime 77 = .ok (.iadd, 1) := by decide +kernel
theorem dX2_callsInTime_78 : decode cX2_callsInTime 78 = .ok (.iaload, 1) := by decide +kernel
theorem dX2_callsInTime_79 : decode cX2_callsInTime 79 = .ok (.iload 6, 2) := by decide +kernel
theorem dX2_callsInTime_81 : decode cX2_callsInTime 81 = .ok (.if_icmp .ne 91, 3) := by decide +kernel
theorem dX2_callsInTime_84 : decode cX2_callsInTime 84 = .ok (.aload_n 0, 1) := by decide +kernel
theorem dX2_callsInTime_85 : decode cX2_callsInTime 85 = .ok (.getfield 42, 3) := by decide +kernel
theorem dX2_callsInTime_88 : decode cX2_callsInTime 88 = .ok (.getfield 126, 3) := by decide +kernel
theorem dX2_callsInTime_91 : decode cX2_callsInTime 91 = .ok (.iload 7, 2) := by decide +kernel
theorem dX2_callsInTime_93 : decode cX2_callsInTime 93 = .ok (.iload 9, 2) := by decide +kernel
theorem dX2_callsInTime_95 : decode cX2_callsInTime 95 = .ok (.invokevirtual 183, 3) := by decide +kernel
theorem dX2_callsInTime_98 : decode cX2_callsInTime 98 = .ok (.ifCond .eq 74, 3) := by decide +kernel
theorem dX2_callsInTime_101 : decode cX2_callsInTime 101 = .ok (.aload_n 0, 1) := by decide +kernel
theorem dX2_callsInTime_102 : decode cX2_callsInTime 102 = .ok (.getfield 42, 3) := by decide +kernel
theorem dX2_callsInTime_105 : decode cX2_callsInTime 105 = .ok (.getfield 117, 3) := by decide +kernel
theorem dX2_callsInTime_108 : decode cX2_callsInTime 108 = .ok (.getfield 186, 3) := by decide +kernel
theorem dX2_callsInTime_111 : decode cX2_callsInTime 111 = .ok (.iload_n 1, 1) := by decide +kernel
theorem dX2_callsInTime_112 : decode cX2_callsInTime 112 = .ok (.bipush 8, 2) := by decide +kernel
theorem dX2_callsInTime_114 : decode cX2_callsInTime 114 = .ok (.imul, 1) := by decide +kernel
theorem dX2_callsInTime_115 : decode cX2_callsInTime 115 = .ok (.iload 9, 2) := by decide +kernel
theorem dX2_callsInTime_117 : decode cX2_callsInTime 117 = .ok (.iadd, 1) := by decide +kernel
theorem dX2_callsInTime_118 : decode cX2_callsInTime 118 = .ok (.iaload, 1) := by decide +kernel
theorem dX2_callsInTime_119 : decode cX2_callsInTime 119 = .ok (.istore 10, 2) := by decide +kernel
theorem dX2_callsInTime_121 : decode cX2_callsInTime 121 = .ok (.iload_n 2, 1) := by decide +kernel
theorem dX2_callsInTime_122 : decode cX2_callsInTime 122 = .ok (.ifCond .ge 11, 3) := by decide +kernel
theorem dX2_callsInTime_125 : decode cX2_callsInTime 125 = .ok (.iload 10, 2) := by decide +kernel
theorem dX2_callsInTime_127 : decode cX2_callsInTime 127 = .ok (.iload 5, 2) := by decide +kernel
theorem dX2_callsInTime_129 : decode cX2_callsInTime 129 = .ok (.iadd, 1) := by decide +kernel
theorem dX2_callsInTime_130 : decode cX2_callsInTime 130 = .ok (.goto 20, 3) := by decide +kernel
theorem dX2_callsInTime_133 : decode cX2_callsInTime 133 = .ok (.aload_n 0, 1) := by decide +kernel
theorem dX2_callsInTime_134 : decode cX2_callsInTime 134 = .ok (.getfield 42, 3) := by decide +kernel
theorem dX2_callsInTime_137 : decode cX2_callsInTime 137 = .ok (.getfield 153, 3) := by decide +kernel
theorem dX2_callsInTime_140 : decode cX2_callsInTime 140 = .ok (.iload_n 2, 1) := by decide +kernel
theorem dX2_callsInTime_141 : decode cX2_callsInTime 141 = .ok (.iload 10, 2) := by decide +kernel
theorem dX2_callsInTime_143 : decode cX2_callsInTime 143 = .ok (.aload_n 0, 1) := by decide +kernel
theorem dX2_callsInTime_144 : decode cX2_callsInTime 144 = .ok (.getfield 67, 3) := by decide +kernel
theorem dX2_callsInTime_147 : decode cX2_callsInTime 147 = .ok (.invokevirtual 166, 3) := by decide +kernel
theorem dX2_callsInTime_150 : decode cX2_callsInTime 150 = .ok (.istore 11, 2) := by decide +kernel
theorem dX2_callsInTime_152 : decode cX2_callsInTime 152 = .ok (.iload 8, 2) := by decide +kernel
theorem dX2_callsInTime_154 : decode cX2_callsInTime 154 = .ok (.iload 11, 2) := by decide +kernel
theorem dX2_callsInTime_156 : decode cX2_callsInTime 156 = .ok (.iload 4, 2) := by decide +kernel
theorem dX2_callsInTime_158 : decode cX2_callsInTime 158 = .ok (.if_icmp .gt 10, 3) := by decide +kernel
theorem dX2_callsInTime_161 : decode cX2_callsInTime 161 = .ok (.iconst 1, 1) := by decide +kernel
theorem dX2_callsInTime_162 : decode cX2_callsInTime 162 = .ok (.iload 9, 2) := by decide +kernel
theorem dX2_callsInTime_164 : decode cX2_callsInTime 164 = .ok (.ishl, 1) := by decide +kernel
theorem dX2_callsInTime_165 : decode cX2_callsInTime 165 = .ok (.goto 4, 3) := by decide +kernel
theorem dX2_callsInTime_168 : decode cX2_callsInTime 168 = .ok (.iconst 0, 1) := by decide +kernel
theorem dX2_callsInTime_169 : decode cX2_callsInTime 169 = .ok (.ior, 1) := by decide +kernel
theorem dX2_callsInTime_170 : decode cX2_callsInTime 170 = .ok (.istore 8, 2) := by decide +kernel
theorem dX2_callsInTime_172 : decode cX2_callsInTime 172 = .ok (.iinc 9 1, 3) := by decide +kernel
theorem dX2_callsInTime_175 : decode cX2_callsInTime 175 = .ok (.goto (-133), 3) := by decide +kernel
theorem dX2_callsInTime_178 : decode cX2_callsInTime 178 = .ok (.iload 8, 2) := by decide +kernel
theorem dX2_callsInTime_180 : decode cX2_callsInTime 180 = .ok (.ireturn, 1) := by decide +kernel
theorem dX2_firstOff_0 : decode cX2_firstOff 0 = .ok (.iload_n 2, 1) := by decide +kernel
theorem dX2_firstOff_1 : decode cX2_firstOff 1 = .ok (.istore 4, 2) := by decide +kernel
theorem dX2_firstOff_3 : decode cX2_firstOff 3 = .ok (.iload 4, 2) := by decide +kernel
theorem dX2_firstOff_5 : decode cX2_firstOff 5 = .ok (.bipush 8, 2) := by decide +kernel
theorem dX2_firstOff_7 : decode cX2_firstOff 7 = .ok (.if_icmp .ge 49, 3) := by decide +kernel
theorem dX2_firstOff_10 : decode cX2_firstOff 10 = .ok (.iload 4, 2) := by decide +kernel
theorem dX2_firstOff_12 : decode cX2_firstOff 12 = .ok (.iload_n 2, 1) := by decide +kernel
theorem dX2_firstOff_13 : decode cX2_firstOff 13 = .ok (.if_icmp .le 15, 3) := by decide +kernel
theorem dX2_firstOff_16 : decode cX2_firstOff 16 = .ok (.iload_n 3, 1) := by decide +kernel
theorem dX2_firstOff_17 : decode cX2_firstOff 17 = .ok (.iload 4, 2) := by decide +kernel
theorem dX2_firstOff_19 : decode cX2_firstOff 19 = .ok (.ishr, 1) := by decide +kernel
theorem dX2_firstOff_20 : decode cX2_firstOff 20 = .ok (.iconst 1, 1) := by decide +kernel
theorem dX2_firstOff_21 : decode cX2_firstOff 21 = .ok (.iand, 1) := by decide +kernel
theorem dX2_firstOff_22 : decode cX2_firstOff 22 = .ok (.ifCond .eq 6, 3) := by decide +kernel
theorem dX2_firstOff_25 : decode cX2_firstOff 25 = .ok (.iload 4, 2) := by decide +kernel
theorem dX2_firstOff_27 : decode cX2_firstOff 27 = .ok (.ireturn, 1) := by decide +kernel
theorem dX2_firstOff_28 : decode cX2_firstOff 28 = .ok (.aload_n 0, 1) := by decide +kernel
theorem dX2_firstOff_29 : decode cX2_firstOff 29 = .ok (.getfield 42, 3) := by decide +kernel
theorem dX2_firstOff_32 : decode cX2_firstOff 32 = .ok (.getfield 117, 3) := by decide +kernel
theorem dX2_firstOff_35 : decode cX2_firstOff 35 = .ok (.getfield 189, 3) := by decide +kernel
theorem dX2_firstOff_38 : decode cX2_firstOff 38 = .ok (.iload_n 1, 1) := by decide +kernel
theorem dX2_firstOff_39 : decode cX2_firstOff 39 = .ok (.iaload, 1) := by decide +kernel
theorem dX2_firstOff_40 : decode cX2_firstOff 40 = .ok (.iload 4, 2) := by decide +kernel
theorem dX2_firstOff_42 : decode cX2_firstOff 42 = .ok (.ishr, 1) := by decide +kernel
theorem dX2_firstOff_43 : decode cX2_firstOff 43 = .ok (.iconst 1, 1) := by decide +kernel
theorem dX2_firstOff_44 : decode cX2_firstOff 44 = .ok (.iand, 1) := by decide +kernel
theorem dX2_firstOff_45 : decode cX2_firstOff 45 = .ok (.ifCond .eq 5, 3) := by decide +kernel
theorem dX2_firstOff_48 : decode cX2_firstOff 48 = .ok (.iconst (-1), 1) := by decide +kernel
theorem dX2_firstOff_49 : decode cX2_firstOff 49 = .ok (.ireturn, 1) := by decide +kernel
theorem dX2_firstOff_50 : decode cX2_firstOff 50 = .ok (.iinc 4 1, 3) := by decide +kernel
theorem dX2_firstOff_53 : decode cX2_firstOff 53 = .ok (.goto (-50), 3) := by decide +kernel
theorem dX2_firstOff_56 : decode cX2_firstOff 56 = .ok (.iconst (-1), 1) := by decide +kernel
theorem dX2_firstOff_57 : decode cX2_firstOff 57 = .ok (.ireturn, 1) := by decide +kernel
theorem dX2_canGetOn_0 : decode cX2_canGetOn 0 = .ok (.aload_n 0, 1) := by decide +kernel
theorem dX2_canGetOn_1 : decode cX2_canGetOn 1 = .ok (.getfield 42, 3) := by decide +kernel
theorem dX2_canGetOn_4 : decode cX2_canGetOn 4 = .ok (.getfield 117, 3) := by decide +kernel
theorem dX2_canGetOn_7 : decode cX2_canGetOn 7 = .ok (.getfield 121, 3) := by decide +kernel
theorem dX2_canGetOn_10 : decode cX2_canGetOn 10 = .ok (.iload_n 3, 1) := by decide +kernel
theorem dX2_canGetOn_11 : decode cX2_canGetOn 11 = .ok (.iaload, 1) := by decide +kernel
theorem dX2_canGetOn_12 : decode cX2_canGetOn 12 = .ok (.istore 6, 2) := by decide +kernel
theorem dX2_canGetOn_14 : decode cX2_canGetOn 14 = .ok (.aload_n 0, 1) := by decide +kernel
theorem dX2_canGetOn_15 : decode cX2_canGetOn 15 = .ok (.getfield 42, 3) := by decide +kernel
theorem dX2_canGetOn_18 : decode cX2_canGetOn 18 = .ok (.getfield 126, 3) := by decide +kernel
theorem dX2_canGetOn_21 : decode cX2_canGetOn 21 = .ok (.getfield 130, 3) := by decide +kernel
theorem dX2_canGetOn_24 : decode cX2_canGetOn 24 = .ok (.iload 6, 2) := by decide +kernel
theorem dX2_canGetOn_26 : decode cX2_canGetOn 26 = .ok (.bipush 8, 2) := by decide +kernel
theorem dX2_canGetOn_28 : decode cX2_canGetOn 28 = .ok (.imul, 1) := by decide +kernel
theorem dX2_canGetOn_29 : decode cX2_canGetOn 29 = .ok (.iload 4, 2) := by decide +kernel
theorem dX2_canGetOn_31 : decode cX2_canGetOn 31 = .ok (.iadd, 1) := by decide +kernel
theorem dX2_canGetOn_32 : decode cX2_canGetOn 32 = .ok (.iaload, 1) := by decide +kernel
theorem dX2_canGetOn_33 : decode cX2_canGetOn 33 = .ok (.istore 7, 2) := by decide +kernel
theorem dX2_canGetOn_35 : decode cX2_canGetOn 35 = .ok (.iload_n 2, 1) := by decide +kernel
theorem dX2_canGetOn_36 : decode cX2_canGetOn 36 = .ok (.aload_n 0, 1) := by decide +kernel
theorem dX2_canGetOn_37 : decode cX2_canGetOn 37 = .ok (.getfield 42, 3) := by decide +kernel
theorem dX2_canGetOn_40 : decode cX2_canGetOn 40 = .ok (.getfield 135, 3) := by decide +kernel
theorem dX2_canGetOn_43 : decode cX2_canGetOn 43 = .ok (.iload 7, 2) := by decide +kernel
theorem dX2_canGetOn_45 : decode cX2_canGetOn 45 = .ok (.aload_n 0, 1) := by decide +kernel
theorem dX2_canGetOn_46 : decode cX2_canGetOn 46 = .ok (.getfield 42, 3) := by decide +kernel
theorem dX2_canGetOn_49 : decode cX2_canGetOn 49 = .ok (.getfield 126, 3) := by decide +kernel
theorem dX2_canGetOn_52 : decode cX2_canGetOn 52 = .ok (.getfield 130, 3) := by decide +kernel
theorem dX2_canGetOn_55 : decode cX2_canGetOn 55 = .ok (.iload 6, 2) := by decide +kernel
theorem dX2_canGetOn_57 : decode cX2_canGetOn 57 = .ok (.bipush 8, 2) := by decide +kernel
theorem dX2_canGetOn_59 : decode cX2_canGetOn 59 = .ok (.imul, 1) := by decide +kernel
theorem dX2_canGetOn_60 : decode cX2_canGetOn 60 = .ok (.iload 5, 2) := by decide +kernel
theorem dX2_canGetOn_62 : decode cX2_canGetOn 62 = .ok (.iadd, 1) := by decide +kernel
theorem dX2_canGetOn_63 : decode cX2_canGetOn 63 = .ok (.iaload, 1) := by decide +kernel
theorem dX2_canGetOn_64 : decode cX2_canGetOn 64 = .ok (.invokevirtual 139, 3) := by decide +kernel
theorem dX2_canGetOn_67 : decode cX2_canGetOn 67 = .ok (.isub, 1) := by decide +kernel
theorem dX2_canGetOn_68 : decode cX2_canGetOn 68 = .ok (.istore 8, 2) := by decide +kernel
theorem dX2_canGetOn_70 : decode cX2_canGetOn 70 = .ok (.aload_n 0, 1) := by decide +kernel
theorem dX2_canGetOn_71 : decode cX2_canGetOn 71 = .ok (.getfield 42, 3) := by decide +kernel
theorem dX2_canGetOn_74 : decode cX2_canGetOn 74 = .ok (.getfield 126, 3) := by decide +kernel
theorem dX2_canGetOn_77 : decode cX2_canGetOn 77 = .ok (.iload 6, 2) := by decide +kernel
theorem dX2_canGetOn_79 : decode cX2_canGetOn 79 = .ok (.iload 4, 2) := by decide +kernel
theorem dX2_canGetOn_81 : decode cX2_canGetOn 81 = .ok (.invokevirtual 183, 3) := by decide +kernel
theorem dX2_canGetOn_84 : decode cX2_canGetOn 84 = .ok (.ifCond .eq 42, 3) := by decide +kernel
theorem dX2_canGetOn_87 : decode cX2_canGetOn 87 = .ok (.aload_n 0, 1) := by decide +kernel
theorem dX2_canGetOn_88 : decode cX2_canGetOn 88 = .ok (.getfield 42, 3) := by decide +kernel
theorem dX2_canGetOn_91 : decode cX2_canGetOn 91 = .ok (.iload_n 1, 1) := by decide +kernel
theorem dX2_canGetOn_92 : decode cX2_canGetOn 92 = .ok (.iconst 1, 1) := by decide +kernel
theorem dX2_canGetOn_93 : decode cX2_canGetOn 93 = .ok (.isub, 1) := by decide +kernel
theorem dX2_canGetOn_94 : decode cX2_canGetOn 94 = .ok (.iload 8, 2) := by decide +kernel
theorem dX2_canGetOn_96 : decode cX2_canGetOn 96 = .ok (.iload 7, 2) := by decide +kernel
theorem dX2_canGetOn_98 : decode cX2_canGetOn 98 = .ok (.invokevirtual 192, 3) := by decide +kernel
theorem dX2_canGetOn_101 : decode cX2_canGetOn 101 = .ok (.aload_n 0, 1) := by decide +kernel
theorem dX2_canGetOn_102 : decode cX2_canGetOn 102 = .ok (.getfield 42, 3) := by decide +kernel
theorem dX2_canGetOn_105 : decode cX2_canGetOn 105 = .ok (.getfield 117, 3) := by decide +kernel
theorem dX2_canGetOn_108 : decode cX2_canGetOn 108 = .ok (.getfield 144, 3) := by decide +kernel
theorem dX2_canGetOn_111 : decode cX2_canGetOn 111 = .ok (.iload_n 3, 1) := by decide +kernel
theorem dX2_canGetOn_112 : decode cX2_canGetOn 112 = .ok (.bipush 8, 2) := by decide +kernel
theorem dX2_canGetOn_114 : decode cX2_canGetOn 114 = .ok (.imul, 1) := by decide +kernel
theorem dX2_canGetOn_115 : decode cX2_canGetOn 115 = .ok (.iload 4, 2) := by decide +kernel
theorem dX2_canGetOn_117 : decode cX2_canGetOn 117 = .ok (.iadd, 1) := by decide +kernel
theorem dX2_canGetOn_118 : decode cX2_canGetOn 118 = .ok (.iaload, 1) := by decide +kernel
theorem dX2_canGetOn_119 : decode cX2_canGetOn 119 = .ok (.if_icmp .gt 7, 3) := by decide +kernel
theorem dX2_canGetOn_122 : decode cX2_canGetOn 122 = .ok (.iconst 1, 1) := by decide +kernel
theorem dX2_canGetOn_123 : decode cX2_canGetOn 123 = .ok (.goto 4, 3) := by decide +kernel
theorem dX2_canGetOn_126 : decode cX2_canGetOn 126 = .ok (.iconst 0, 1) := by decide +kernel
theorem dX2_canGetOn_127 : decode cX2_canGetOn 127 = .ok (.ireturn, 1) := by decide +kernel
theorem dX2_write_0 : decode cX2_write 0 = .ok (.aload_n 0, 1) := by decide +kernel
theorem dX2_write_1 : decode cX2_write 1 = .ok (.getfield 67, 3) := by decide +kernel
theorem dX2_write_4 : decode cX2_write 4 = .ok (.istore 4, 2) := by decide +kernel
theorem dX2_write_6 : decode cX2_write 6 = .ok (.iconst 0, 1) := by decide +kernel
theorem dX2_write_7 : decode cX2_write 7 = .ok (.istore 5, 2) := by decide +kernel
theorem dX2_write_9 : decode cX2_write 9 = .ok (.iconst 0, 1) := by decide +kernel
theorem dX2_write_10 : decode cX2_write 10 = .ok (.istore 6, 2) := by decide +kernel
theorem dX2_write_12 : decode cX2_write 12 = .ok (.iload 6, 2) := by decide +kernel
theorem dX2_write_14 : decode cX2_write 14 = .ok (.iload_n 2, 1) := by decide +kernel
theorem dX2_write_15 : decode cX2_write 15 = .ok (.if_icmp .gt 86, 3) := by decide +kernel
theorem dX2_write_18 : decode cX2_write 18 = .ok (.iload 6, 2) := by decide +kernel
theorem dX2_write_20 : decode cX2_write 20 = .ok (.ifCond .le 40, 3) := by decide +kernel
theorem dX2_write_23 : decode cX2_write 23 = .ok (.aload_n 0, 1) := by decide +kernel
theorem dX2_write_24 : decode cX2_write 24 = .ok (.iload_n 1, 1) := by decide +kernel
theorem dX2_write_25 : decode cX2_write 25 = .ok (.bipush 7, 2) := by decide +kernel
theorem dX2_write_27 : decode cX2_write 27 = .ok (.imul, 1) := by decide +kernel
theorem dX2_write_28 : decode cX2_write 28 = .ok (.iload 5, 2) := by decide +kernel
theorem dX2_write_30 : decode cX2_write 30 = .ok (.iinc 5 1, 3) := by decide +kernel
theorem dX2_write_33 : decode cX2_write 33 = .ok (.iadd, 1) := by decide +kernel
theorem dX2_write_34 : decode cX2_write 34 = .ok (.aload_n 0, 1) := by decide +kernel
theorem dX2_write_35 : decode cX2_write 35 = .ok (.getfield 33, 3) := by decide +kernel
theorem dX2_write_38 : decode cX2_write 38 = .ok (.iload 6, 2) := by decide +kernel
theorem dX2_write_40 : decode cX2_write 40 = .ok (.iaload, 1) := by decide +kernel
theorem dX2_write_41 : decode cX2_write 41 = .ok (.aload_n 0, 1) := by decide +kernel
theorem dX2_write_42 : decode cX2_write 42 = .ok (.getfield 36, 3) := by decide +kernel
theorem dX2_write_45 : decode cX2_write 45 = .ok (.iload 6, 2) := by decide +kernel
theorem dX2_write_47 : decode cX2_write 47 = .ok (.iaload, 1) := by decide +kernel
theorem dX2_write_48 : decode cX2_write 48 = .ok (.aload_n 0, 1) := by decide +kernel
theorem dX2_write_49 : decode cX2_write 49 = .ok (.getfield 39, 3) := by decide +kernel
theorem dX2_write_52 : decode cX2_write 52 = .ok (.iload 6, 2) := by decide +kernel
theorem dX2_write_54 : decode cX2_write 54 = .ok (.iaload, 1) := by decide +kernel
theorem dX2_write_55 : decode cX2_write 55 = .ok (.invokevirtual 195, 3) := by decide +kernel
theorem dX2_write_58 : decode cX2_write 58 = .ok (.istore 4, 2) := by decide +kernel
theorem dX2_write_60 : decode cX2_write 60 = .ok (.aload_n 0, 1) := by decide +kernel
theorem dX2_write_61 : decode cX2_write 61 = .ok (.getfield 30, 3) := by decide +kernel
theorem dX2_write_64 : decode cX2_write 64 = .ok (.iload 6, 2) := by decide +kernel
theorem dX2_write_66 : decode cX2_write 66 = .ok (.iaload, 1) := by decide +kernel
theorem dX2_write_67 : decode cX2_write 67 = .ok (.ifCond .lt 28, 3) := by decide +kernel
theorem dX2_write_70 : decode cX2_write 70 = .ok (.aload_n 0, 1) := by decide +kernel
theorem dX2_write_71 : decode cX2_write 71 = .ok (.iload_n 1, 1) := by decide +kernel
theorem dX2_write_72 : decode cX2_write 72 = .ok (.bipush 7, 2) := by decide +kernel
theorem dX2_write_74 : decode cX2_write 74 = .ok (.imul, 1) := by decide +kernel
theorem dX2_write_75 : decode cX2_write 75 = .ok (.iload 5, 2) := by decide +kernel
theorem dX2_write_77 : decode cX2_write 77 = .ok (.iinc 5 1, 3) := by decide +kernel
theorem dX2_write_80 : decode cX2_write 80 = .ok (.iadd, 1) := by decide +kernel
theorem dX2_write_81 : decode cX2_write 81 = .ok (.aload_n 0, 1) := by decide +kernel
theorem dX2_write_82 : decode cX2_write 82 = .ok (.getfield 30, 3) := by decide +kernel
theorem dX2_write_85 : decode cX2_write 85 = .ok (.iload 6, 2) := by decide +kernel
theorem dX2_write_87 : decode cX2_write 87 = .ok (.iaload, 1) := by decide +kernel
theorem dX2_write_88 : decode cX2_write 88 = .ok (.iload 4, 2) := by decide +kernel
theorem dX2_write_90 : decode cX2_write 90 = .ok (.invokevirtual 199, 3) := by decide +kernel
theorem dX2_write_93 : decode cX2_write 93 = .ok (.istore 4, 2) := by decide +kernel
theorem dX2_write_95 : decode cX2_write 95 = .ok (.iinc 6 1, 3) := by decide +kernel
theorem dX2_write_98 : decode cX2_write 98 = .ok (.goto (-86), 3) := by decide +kernel
theorem dX2_write_101 : decode cX2_write 101 = .ok (.iload_n 1, 1) := by decide +kernel
theorem dX2_write_102 : decode cX2_write 102 = .ok (.iconst 5, 1) := by decide +kernel
theorem dX2_write_103 : decode cX2_write 103 = .ok (.imul, 1) := by decide +kernel
theorem dX2_write_104 : decode cX2_write 104 = .ok (.istore 6, 2) := by decide +kernel
theorem dX2_write_106 : decode cX2_write 106 = .ok (.aload_n 0, 1) := by decide +kernel
theorem dX2_write_107 : decode cX2_write 107 = .ok (.getfield 9, 3) := by decide +kernel
theorem dX2_write_110 : decode cX2_write 110 = .ok (.iload 6, 2) := by decide +kernel
theorem dX2_write_112 : decode cX2_write 112 = .ok (.iconst 0, 1) := by decide +kernel
theorem dX2_write_113 : decode cX2_write 113 = .ok (.iadd, 1) := by decide +kernel
theorem dX2_write_114 : decode cX2_write 114 = .ok (.iload 5, 2) := by decide +kernel
theorem dX2_write_116 : decode cX2_write 116 = .ok (.ifCond .ne 10, 3) := by decide +kernel
theorem dX2_write_119 : decode cX2_write 119 = .ok (.aload_n 0, 1) := by decide +kernel
theorem dX2_write_120 : decode cX2_write 120 = .ok (.getfield 67, 3) := by decide +kernel
theorem dX2_write_123 : decode cX2_write 123 = .ok (.goto 10, 3) := by decide +kernel
theorem dX2_write_126 : decode cX2_write 126 = .ok (.aload_n 0, 1) := by decide +kernel
theorem dX2_write_127 : decode cX2_write 127 = .ok (.iload_n 1, 1) := by decide +kernel
theorem dX2_write_128 : decode cX2_write 128 = .ok (.iconst 0, 1) := by decide +kernel
theorem dX2_write_129 : decode cX2_write 129 = .ok (.iconst 4, 1) := by decide +kernel
theorem dX2_write_130 : decode cX2_write 130 = .ok (.invokevirtual 58, 3) := by decide +kernel
theorem dX2_write_133 : decode cX2_write 133 = .ok (.iastore, 1) := by decide +kernel
theorem dX2_write_134 : decode cX2_write 134 = .ok (.aload_n 0, 1) := by decide +kernel
theorem dX2_write_135 : decode cX2_write 135 = .ok (.getfield 9, 3) := by decide +kernel
theorem dX2_write_138 : decode cX2_write 138 = .ok (.iload 6, 2) := by decide +kernel
theorem dX2_write_140 : decode cX2_write 140 = .ok (.iconst 1, 1) := by decide +kernel
theorem dX2_write_141 : decode cX2_write 141 = .ok (.iadd, 1) := by decide +kernel
theorem dX2_write_142 : decode cX2_write 142 = .ok (.iload 4, 2) := by decide +kernel
theorem dX2_write_144 : decode cX2_write 144 = .ok (.iastore, 1) := by decide +kernel
theorem dX2_write_145 : decode cX2_write 145 = .ok (.aload_n 0, 1) := by decide +kernel
theorem dX2_write_146 : decode cX2_write 146 = .ok (.getfield 9, 3) := by decide +kernel
theorem dX2_write_149 : decode cX2_write 149 = .ok (.iload 6, 2) := by decide +kernel
theorem dX2_write_151 : decode cX2_write 151 = .ok (.iconst 2, 1) := by decide +kernel
theorem dX2_write_152 : decode cX2_write 152 = .ok (.iadd, 1) := by decide +kernel
theorem dX2_write_153 : decode cX2_write 153 = .ok (.iload_n 2, 1) := by decide +kernel
theorem dX2_write_154 : decode cX2_write 154 = .ok (.iastore, 1) := by decide +kernel
theorem dX2_write_155 : decode cX2_write 155 = .ok (.aload_n 0, 1) := by decide +kernel
theorem dX2_write_156 : decode cX2_write 156 = .ok (.getfield 9, 3) := by decide +kernel
theorem dX2_write_159 : decode cX2_write 159 = .ok (.iload 6, 2) := by decide +kernel
theorem dX2_write_161 : decode cX2_write 161 = .ok (.iconst 3, 1) := by decide +kernel
theorem dX2_write_162 : decode cX2_write 162 = .ok (.iadd, 1) := by decide +kernel
theorem dX2_write_163 : decode cX2_write 163 = .ok (.iload_n 3, 1) := by decide +kernel
theorem dX2_write_164 : decode cX2_write 164 = .ok (.iastore, 1) := by decide +kernel
theorem dX2_write_165 : decode cX2_write 165 = .ok (.aload_n 0, 1) := by decide +kernel
theorem dX2_write_166 : decode cX2_write 166 = .ok (.getfield 9, 3) := by decide +kernel
theorem dX2_write_169 : decode cX2_write 169 = .ok (.iload 6, 2) := by decide +kernel
theorem dX2_write_171 : decode cX2_write 171 = .ok (.iconst 4, 1) := by decide +kernel
theorem dX2_write_172 : decode cX2_write 172 = .ok (.iadd, 1) := by decide +kernel
theorem dX2_write_173 : decode cX2_write 173 = .ok (.iload 5, 2) := by decide +kernel
theorem dX2_write_175 : decode cX2_write 175 = .ok (.iastore, 1) := by decide +kernel
theorem dX2_write_176 : decode cX2_write 176 = .ok (.return_, 1) := by decide +kernel
theorem dX2_writeRide_0 : decode cX2_writeRide 0 = .ok (.iload_n 1, 1) := by decide +kernel
theorem dX2_writeRide_1 : decode cX2_writeRide 1 = .ok (.bipush 9, 2) := by decide +kernel
theorem dX2_writeRide_3 : decode cX2_writeRide 3 = .ok (.imul, 1) := by decide +kernel
theorem dX2_writeRide_4 : decode cX2_writeRide 4 = .ok (.istore 5, 2) := by decide +kernel
theorem dX2_writeRide_6 : decode cX2_writeRide 6 = .ok (.aload_n 0, 1) := by decide +kernel
theorem dX2_writeRide_7 : decode cX2_writeRide 7 = .ok (.getfield 42, 3) := by decide +kernel
theorem dX2_writeRide_10 : decode cX2_writeRide 10 = .ok (.getfield 117, 3) := by decide +kernel
theorem dX2_writeRide_13 : decode cX2_writeRide 13 = .ok (.getfield 121, 3) := by decide +kernel
theorem dX2_writeRide_16 : decode cX2_writeRide 16 = .ok (.iload_n 2, 1) := by decide +kernel
theorem dX2_writeRide_17 : decode cX2_writeRide 17 = .ok (.iaload, 1) := by decide +kernel
theorem dX2_writeRide_18 : decode cX2_writeRide 18 = .ok (.istore 6, 2) := by decide +kernel
theorem dX2_writeRide_20 : decode cX2_writeRide 20 = .ok (.aload_n 0, 1) := by decide +kernel
theorem dX2_writeRide_21 : decode cX2_writeRide 21 = .ok (.getfield 15, 3) := by decide +kernel
theorem dX2_writeRide_24 : decode cX2_writeRide 24 = .ok (.iload 5, 2) := by decide +kernel
theorem dX2_writeRide_26 : decode cX2_writeRide 26 = .ok (.iconst 0, 1) := by decide +kernel
theorem dX2_writeRide_27 : decode cX2_writeRide 27 = .ok (.iadd, 1) := by decide +kernel
theorem dX2_writeRide_28 : decode cX2_writeRide 28 = .ok (.aload_n 0, 1) := by decide +kernel
theorem dX2_writeRide_29 : decode cX2_writeRide 29 = .ok (.getfield 42, 3) := by decide +kernel
theorem dX2_writeRide_32 : decode cX2_writeRide 32 = .ok (.getfield 126, 3) := by decide +kernel
theorem dX2_writeRide_35 : decode cX2_writeRide 35 = .ok (.getfield 202, 3) := by decide +kernel
theorem dX2_writeRide_38 : decode cX2_writeRide 38 = .ok (.iload 6, 2) := by decide +kernel
theorem dX2_writeRide_40 : decode cX2_writeRide 40 = .ok (.iaload, 1) := by decide +kernel
theorem dX2_writeRide_41 : decode cX2_writeRide 41 = .ok (.iastore, 1) := by decide +kernel
theorem dX2_writeRide_42 : decode cX2_writeRide 42 = .ok (.aload_n 0, 1) := by decide +kernel
theorem dX2_writeRide_43 : decode cX2_writeRide 43 = .ok (.getfield 15, 3) := by decide +kernel
theorem dX2_writeRide_46 : decode cX2_writeRide 46 = .ok (.iload 5, 2) := by decide +kernel
theorem dX2_writeRide_48 : decode cX2_writeRide 48 = .ok (.iconst 1, 1) := by decide +kernel
theorem dX2_writeRide_49 : decode cX2_writeRide 49 = .ok (.iadd, 1) := by decide +kernel
theorem dX2_writeRide_50 : decode cX2_writeRide 50 = .ok (.iload 6, 2) := by decide +kernel
theorem dX2_writeRide_52 : decode cX2_writeRide 52 = .ok (.iastore, 1) := by decide +kernel
theorem dX2_writeRide_53 : decode cX2_writeRide 53 = .ok (.aload_n 0, 1) := by decide +kernel
theorem dX2_writeRide_54 : decode cX2_writeRide 54 = .ok (.getfield 15, 3) := by decide +kernel
theorem dX2_writeRide_57 : decode cX2_writeRide 57 = .ok (.iload 5, 2) := by decide +kernel
theorem dX2_writeRide_59 : decode cX2_writeRide 59 = .ok (.iconst 2, 1) := by decide +kernel
theorem dX2_writeRide_60 : decode cX2_writeRide 60 = .ok (.iadd, 1) := by decide +kernel
theorem dX2_writeRide_61 : decode cX2_writeRide 61 = .ok (.aload_n 0, 1) := by decide +kernel
theorem dX2_writeRide_62 : decode cX2_writeRide 62 = .ok (.getfield 42, 3) := by decide +kernel
theorem dX2_writeRide_65 : decode cX2_writeRide 65 = .ok (.getfield 126, 3) := by decide +kernel
theorem dX2_writeRide_68 : decode cX2_writeRide 68 = .ok (.getfield 130, 3) := by decide +kernel
theorem dX2_writeRide_71 : decode cX2_writeRide 71 = .ok (.iload 6, 2) := by decide +kernel
theorem dX2_writeRide_73 : decode cX2_writeRide 73 = .ok (.bipush 8, 2) := by decide +kernel
theorem dX2_writeRide_75 : decode cX2_writeRide 75 = .ok (.imul, 1) := by decide +kernel
theorem dX2_writeRide_76 : decode cX2_writeRide 76 = .ok (.iload_n 3, 1) := by decide +kernel
theorem dX2_writeRide_77 : decode cX2_writeRide 77 = .ok (.iadd, 1) := by decide +kernel
theorem dX2_writeRide_78 : decode cX2_writeRide 78 = .ok (.iaload, 1) := by decide +kernel
theorem dX2_writeRide_79 : decode cX2_writeRide 79 = .ok (.iastore, 1) := by decide +kernel
theorem dX2_writeRide_80 : decode cX2_writeRide 80 = .ok (.aload_n 0, 1) := by decide +kernel
theorem dX2_writeRide_81 : decode cX2_writeRide 81 = .ok (.getfield 15, 3) := by decide +kernel
theorem dX2_writeRide_84 : decode cX2_writeRide 84 = .ok (.iload 5, 2) := by decide +kernel
theorem dX2_writeRide_86 : decode cX2_writeRide 86 = .ok (.iconst 3, 1) := by decide +kernel
theorem dX2_writeRide_87 : decode cX2_writeRide 87 = .ok (.iadd, 1) := by decide +kernel
theorem dX2_writeRide_88 : decode cX2_writeRide 88 = .ok (.aload_n 0, 1) := by decide +kernel
theorem dX2_writeRide_89 : decode cX2_writeRide 89 = .ok (.getfield 42, 3) := by decide +kernel
theorem dX2_writeRide_92 : decode cX2_writeRide 92 = .ok (.getfield 126, 3) := by decide +kernel
theorem dX2_writeRide_95 : decode cX2_writeRide 95 = .ok (.getfield 130, 3) := by decide +kernel
theorem dX2_writeRide_98 : decode cX2_writeRide 98 = .ok (.iload 6, 2) := by decide +kernel
theorem dX2_writeRide_100 : decode cX2_writeRide 100 = .ok (.bipush 8, 2) := by decide +kernel
theorem dX2_writeRide_102 : decode cX2_writeRide 102 = .ok (.imul, 1) := by decide +kernel
theorem dX2_writeRide_103 : decode cX2_writeRide 103 = .ok (.iload 4, 2) := by decide +kernel
theorem dX2_writeRide_105 : decode cX2_writeRide 105 = .ok (.iadd, 1) := by decide +kernel
theorem dX2_writeRide_106 : decode cX2_writeRide 106 = .ok (.iaload, 1) := by decide +kernel
theorem dX2_writeRide_107 : decode cX2_writeRide 107 = .ok (.iastore, 1) := by decide +kernel
theorem dX2_writeRide_108 : decode cX2_writeRide 108 = .ok (.aload_n 0, 1) := by decide +kernel
theorem dX2_writeRide_109 : decode cX2_writeRide 109 = .ok (.getfield 15, 3) := by decide +kernel
theorem dX2_writeRide_112 : decode cX2_writeRide 112 = .ok (.iload 5, 2) := by decide +kernel
theorem dX2_writeRide_114 : decode cX2_writeRide 114 = .ok (.iconst 4, 1) := by decide +kernel
theorem dX2_writeRide_115 : decode cX2_writeRide 115 = .ok (.iadd, 1) := by decide +kernel
theorem dX2_writeRide_116 : decode cX2_writeRide 116 = .ok (.aload_n 0, 1) := by decide +kernel
theorem dX2_writeRide_117 : decode cX2_writeRide 117 = .ok (.getfield 42, 3) := by decide +kernel
theorem dX2_writeRide_120 : decode cX2_writeRide 120 = .ok (.getfield 117, 3) := by decide +kernel
theorem dX2_writeRide_123 : decode cX2_writeRide 123 = .ok (.getfield 144, 3) := by decide +kernel
theorem dX2_writeRide_126 : decode cX2_writeRide 126 = .ok (.iload_n 2, 1) := by decide +kernel
theorem dX2_writeRide_127 : decode cX2_writeRide 127 = .ok (.bipush 8, 2) := by decide +kernel
theorem dX2_writeRide_129 : decode cX2_writeRide 129 = .ok (.imul, 1) := by decide +kernel
theorem dX2_writeRide_130 : decode cX2_writeRide 130 = .ok (.iload_n 3, 1) := by decide +kernel
theorem dX2_writeRide_131 : decode cX2_writeRide 131 = .ok (.iadd, 1) := by decide +kernel
theorem dX2_writeRide_132 : decode cX2_writeRide 132 = .ok (.iaload, 1) := by decide +kernel
theorem dX2_writeRide_133 : decode cX2_writeRide 133 = .ok (.iastore, 1) := by decide +kernel
theorem dX2_writeRide_134 : decode cX2_writeRide 134 = .ok (.aload_n 0, 1) := by decide +kernel
theorem dX2_writeRide_135 : decode cX2_writeRide 135 = .ok (.getfield 15, 3) := by decide +kernel
theorem dX2_writeRide_138 : decode cX2_writeRide 138 = .ok (.iload 5, 2) := by decide +kernel
theorem dX2_writeRide_140 : decode cX2_writeRide 140 = .ok (.iconst 5, 1) := by decide +kernel
theorem dX2_writeRide_141 : decode cX2_writeRide 141 = .ok (.iadd, 1) := by decide +kernel
theorem dX2_writeRide_142 : decode cX2_writeRide 142 = .ok (.aload_n 0, 1) := by decide +kernel
theorem dX2_writeRide_143 : decode cX2_writeRide 143 = .ok (.getfield 42, 3) := by decide +kernel
theorem dX2_writeRide_146 : decode cX2_writeRide 146 = .ok (.getfield 117, 3) := by decide +kernel
theorem dX2_writeRide_149 : decode cX2_writeRide 149 = .ok (.getfield 186, 3) := by decide +kernel
theorem dX2_writeRide_152 : decode cX2_writeRide 152 = .ok (.iload_n 2, 1) := by decide +kernel
theorem dX2_writeRide_153 : decode cX2_writeRide 153 = .ok (.bipush 8, 2) := by decide +kernel
theorem dX2_writeRide_155 : decode cX2_writeRide 155 = .ok (.imul, 1) := by decide +kernel
theorem dX2_writeRide_156 : decode cX2_writeRide 156 = .ok (.iload 4, 2) := by decide +kernel
theorem dX2_writeRide_158 : decode cX2_writeRide 158 = .ok (.iadd, 1) := by decide +kernel
theorem dX2_writeRide_159 : decode cX2_writeRide 159 = .ok (.iaload, 1) := by decide +kernel
theorem dX2_writeRide_160 : decode cX2_writeRide 160 = .ok (.iastore, 1) := by decide +kernel
theorem dX2_writeRide_161 : decode cX2_writeRide 161 = .ok (.aload_n 0, 1) := by decide +kernel
theorem dX2_writeRide_162 : decode cX2_writeRide 162 = .ok (.getfield 15, 3) := by decide +kernel
theorem dX2_writeRide_165 : decode cX2_writeRide 165 = .ok (.iload 5, 2) := by decide +kernel
theorem dX2_writeRide_167 : decode cX2_writeRide 167 = .ok (.bipush 6, 2) := by decide +kernel
theorem dX2_writeRide_169 : decode cX2_writeRide 169 = .ok (.iadd, 1) := by decide +kernel
theorem dX2_writeRide_170 : decode cX2_writeRide 170 = .ok (.aload_n 0, 1) := by decide +kernel
theorem dX2_writeRide_171 : decode cX2_writeRide 171 = .ok (.getfield 42, 3) := by decide +kernel
theorem dX2_writeRide_174 : decode cX2_writeRide 174 = .ok (.getfield 117, 3) := by decide +kernel
theorem dX2_writeRide_177 : decode cX2_writeRide 177 = .ok (.getfield 205, 3) := by decide +kernel
theorem dX2_writeRide_180 : decode cX2_writeRide 180 = .ok (.iload_n 2, 1) := by decide +kernel
theorem dX2_writeRide_181 : decode cX2_writeRide 181 = .ok (.iaload, 1) := by decide +kernel
theorem dX2_writeRide_182 : decode cX2_writeRide 182 = .ok (.iastore, 1) := by decide +kernel
theorem dX2_writeRide_183 : decode cX2_writeRide 183 = .ok (.aload_n 0, 1) := by decide +kernel
theorem dX2_writeRide_184 : decode cX2_writeRide 184 = .ok (.getfield 15, 3) := by decide +kernel
theorem dX2_writeRide_187 : decode cX2_writeRide 187 = .ok (.iload 5, 2) := by decide +kernel
theorem dX2_writeRide_189 : decode cX2_writeRide 189 = .ok (.bipush 7, 2) := by decide +kernel
theorem dX2_writeRide_191 : decode cX2_writeRide 191 = .ok (.iadd, 1) := by decide +kernel
theorem dX2_writeRide_192 : decode cX2_writeRide 192 = .ok (.iload_n 3, 1) := by decide +kernel
theorem dX2_writeRide_193 : decode cX2_writeRide 193 = .ok (.iastore, 1) := by decide +kernel
theorem dX2_writeRide_194 : decode cX2_writeRide 194 = .ok (.aload_n 0, 1) := by decide +kernel
theorem dX2_writeRide_195 : decode cX2_writeRide 195 = .ok (.getfield 15, 3) := by decide +kernel
theorem dX2_writeRide_198 : decode cX2_writeRide 198 = .ok (.iload 5, 2) := by decide +kernel
theorem dX2_writeRide_200 : decode cX2_writeRide 200 = .ok (.bipush 8, 2) := by decide +kernel
theorem dX2_writeRide_202 : decode cX2_writeRide 202 = .ok (.iadd, 1) := by decide +kernel
theorem dX2_writeRide_203 : decode cX2_writeRide 203 = .ok (.iload 4, 2) := by decide +kernel
theorem dX2_writeRide_205 : decode cX2_writeRide 205 = .ok (.iastore, 1) := by decide +kernel
theorem dX2_writeRide_206 : decode cX2_writeRide 206 = .ok (.aload_n 0, 1) := by decide +kernel
theorem dX2_writeRide_207 : decode cX2_writeRide 207 = .ok (.getfield 15, 3) := by decide +kernel
theorem dX2_writeRide_210 : decode cX2_writeRide 210 = .ok (.iload 5, 2) := by decide +kernel
theorem dX2_writeRide_212 : decode cX2_writeRide 212 = .ok (.iconst 5, 1) := by decide +kernel
theorem dX2_writeRide_213 : decode cX2_writeRide 213 = .ok (.iadd, 1) := by decide +kernel
theorem dX2_writeRide_214 : decode cX2_writeRide 214 = .ok (.iaload, 1) := by decide +kernel
theorem dX2_writeRide_215 : decode cX2_writeRide 215 = .ok (.ireturn, 1) := by decide +kernel
theorem dX2_writeWalk_0 : decode cX2_writeWalk 0 = .ok (.iload_n 1, 1) := by decide +kernel
theorem dX2_writeWalk_1 : decode cX2_writeWalk 1 = .ok (.bipush 9, 2) := by decide +kernel
theorem dX2_writeWalk_3 : decode cX2_writeWalk 3 = .ok (.imul, 1) := by decide +kernel
theorem dX2_writeWalk_4 : decode cX2_writeWalk 4 = .ok (.istore 4, 2) := by decide +kernel
theorem dX2_writeWalk_6 : decode cX2_writeWalk 6 = .ok (.aload_n 0, 1) := by decide +kernel
theorem dX2_writeWalk_7 : decode cX2_writeWalk 7 = .ok (.getfield 42, 3) := by decide +kernel
theorem dX2_writeWalk_10 : decode cX2_writeWalk 10 = .ok (.getfield 153, 3) := by decide +kernel
theorem dX2_writeWalk_13 : decode cX2_writeWalk 13 = .ok (.astore 5, 2) := by decide +kernel
theorem dX2_writeWalk_15 : decode cX2_writeWalk 15 = .ok (.aload_n 0, 1) := by decide +kernel
theorem dX2_writeWalk_16 : decode cX2_writeWalk 16 = .ok (.getfield 15, 3) := by decide +kernel
theorem dX2_writeWalk_19 : decode cX2_writeWalk 19 = .ok (.iload 4, 2) := by decide +kernel
theorem dX2_writeWalk_21 : decode cX2_writeWalk 21 = .ok (.iconst 0, 1) := by decide +kernel
theorem dX2_writeWalk_22 : decode cX2_writeWalk 22 = .ok (.iadd, 1) := by decide +kernel
theorem dX2_writeWalk_23 : decode cX2_writeWalk 23 = .ok (.aload 5, 2) := by decide +kernel
theorem dX2_writeWalk_25 : decode cX2_writeWalk 25 = .ok (.getfield 208, 3) := by decide +kernel
theorem dX2_writeWalk_28 : decode cX2_writeWalk 28 = .ok (.iload_n 2, 1) := by decide +kernel
theorem dX2_writeWalk_29 : decode cX2_writeWalk 29 = .ok (.iaload, 1) := by decide +kernel
theorem dX2_writeWalk_30 : decode cX2_writeWalk 30 = .ok (.iastore, 1) := by decide +kernel
theorem dX2_writeWalk_31 : decode cX2_writeWalk 31 = .ok (.aload_n 0, 1) := by decide +kernel
theorem dX2_writeWalk_32 : decode cX2_writeWalk 32 = .ok (.getfield 15, 3) := by decide +kernel
theorem dX2_writeWalk_35 : decode cX2_writeWalk 35 = .ok (.iload 4, 2) := by decide +kernel
theorem dX2_writeWalk_37 : decode cX2_writeWalk 37 = .ok (.iconst 1, 1) := by decide +kernel
theorem dX2_writeWalk_38 : decode cX2_writeWalk 38 = .ok (.iadd, 1) := by decide +kernel
theorem dX2_writeWalk_39 : decode cX2_writeWalk 39 = .ok (.iload_n 2, 1) := by decide +kernel
theorem dX2_writeWalk_40 : decode cX2_writeWalk 40 = .ok (.iastore, 1) := by decide +kernel
theorem dX2_writeWalk_41 : decode cX2_writeWalk 41 = .ok (.aload_n 0, 1) := by decide +kernel
theorem dX2_writeWalk_42 : decode cX2_writeWalk 42 = .ok (.getfield 15, 3) := by decide +kernel
theorem dX2_writeWalk_45 : decode cX2_writeWalk 45 = .ok (.iload 4, 2) := by decide +kernel
theorem dX2_writeWalk_47 : decode cX2_writeWalk 47 = .ok (.iconst 2, 1) := by decide +kernel
theorem dX2_writeWalk_48 : decode cX2_writeWalk 48 = .ok (.iadd, 1) := by decide +kernel
theorem dX2_writeWalk_49 : decode cX2_writeWalk 49 = .ok (.aload 5, 2) := by decide +kernel
theorem dX2_writeWalk_51 : decode cX2_writeWalk 51 = .ok (.getfield 163, 3) := by decide +kernel
theorem dX2_writeWalk_54 : decode cX2_writeWalk 54 = .ok (.iload_n 2, 1) := by decide +kernel
theorem dX2_writeWalk_55 : decode cX2_writeWalk 55 = .ok (.iaload, 1) := by decide +kernel
theorem dX2_writeWalk_56 : decode cX2_writeWalk 56 = .ok (.iastore, 1) := by decide +kernel
theorem dX2_writeWalk_57 : decode cX2_writeWalk 57 = .ok (.aload_n 0, 1) := by decide +kernel
theorem dX2_writeWalk_58 : decode cX2_writeWalk 58 = .ok (.getfield 15, 3) := by decide +kernel
theorem dX2_writeWalk_61 : decode cX2_writeWalk 61 = .ok (.iload 4, 2) := by decide +kernel
theorem dX2_writeWalk_63 : decode cX2_writeWalk 63 = .ok (.iconst 3, 1) := by decide +kernel
theorem dX2_writeWalk_64 : decode cX2_writeWalk 64 = .ok (.iadd, 1) := by decide +kernel
theorem dX2_writeWalk_65 : decode cX2_writeWalk 65 = .ok (.aload 5, 2) := by decide +kernel
theorem dX2_writeWalk_67 : decode cX2_writeWalk 67 = .ok (.getfield 160, 3) := by decide +kernel
theorem dX2_writeWalk_70 : decode cX2_writeWalk 70 = .ok (.iload_n 2, 1) := by decide +kernel
theorem dX2_writeWalk_71 : decode cX2_writeWalk 71 = .ok (.iaload, 1) := by decide +kernel
theorem dX2_writeWalk_72 : decode cX2_writeWalk 72 = .ok (.iastore, 1) := by decide +kernel
theorem dX2_writeWalk_73 : decode cX2_writeWalk 73 = .ok (.aload_n 0, 1) := by decide +kernel
theorem dX2_writeWalk_74 : decode cX2_writeWalk 74 = .ok (.getfield 15, 3) := by decide +kernel
theorem dX2_writeWalk_77 : decode cX2_writeWalk 77 = .ok (.iload 4, 2) := by decide +kernel
theorem dX2_writeWalk_79 : decode cX2_writeWalk 79 = .ok (.iconst 4, 1) := by decide +kernel
theorem dX2_writeWalk_80 : decode cX2_writeWalk 80 = .ok (.iadd, 1) := by decide +kernel
theorem dX2_writeWalk_81 : decode cX2_writeWalk 81 = .ok (.aload 5, 2) := by decide +kernel
theorem dX2_writeWalk_83 : decode cX2_writeWalk 83 = .ok (.iload_n 2, 1) := by decide +kernel
theorem dX2_writeWalk_84 : decode cX2_writeWalk 84 = .ok (.iload_n 3, 1) := by decide +kernel
theorem dX2_writeWalk_85 : decode cX2_writeWalk 85 = .ok (.aload_n 0, 1) := by decide +kernel
theorem dX2_writeWalk_86 : decode cX2_writeWalk 86 = .ok (.getfield 67, 3) := by decide +kernel
theorem dX2_writeWalk_89 : decode cX2_writeWalk 89 = .ok (.invokevirtual 209, 3) := by decide +kernel
theorem dX2_writeWalk_92 : decode cX2_writeWalk 92 = .ok (.iastore, 1) := by decide +kernel
theorem dX2_writeWalk_93 : decode cX2_writeWalk 93 = .ok (.aload_n 0, 1) := by decide +kernel
theorem dX2_writeWalk_94 : decode cX2_writeWalk 94 = .ok (.getfield 15, 3) := by decide +kernel
theorem dX2_writeWalk_97 : decode cX2_writeWalk 97 = .ok (.iload 4, 2) := by decide +kernel
theorem dX2_writeWalk_99 : decode cX2_writeWalk 99 = .ok (.iconst 5, 1) := by decide +kernel
theorem dX2_writeWalk_100 : decode cX2_writeWalk 100 = .ok (.iadd, 1) := by decide +kernel
theorem dX2_writeWalk_101 : decode cX2_writeWalk 101 = .ok (.aload 5, 2) := by decide +kernel
theorem dX2_writeWalk_103 : decode cX2_writeWalk 103 = .ok (.iload_n 2, 1) := by decide +kernel
theorem dX2_writeWalk_104 : decode cX2_writeWalk 104 = .ok (.iload_n 3, 1) := by decide +kernel
theorem dX2_writeWalk_105 : decode cX2_writeWalk 105 = .ok (.aload_n 0, 1) := by decide +kernel
theorem dX2_writeWalk_106 : decode cX2_writeWalk 106 = .ok (.getfield 67, 3) := by decide +kernel
theorem dX2_writeWalk_109 : decode cX2_writeWalk 109 = .ok (.invokevirtual 166, 3) := by decide +kernel
theorem dX2_writeWalk_112 : decode cX2_writeWalk 112 = .ok (.iastore, 1) := by decide +kernel
theorem dX2_writeWalk_113 : decode cX2_writeWalk 113 = .ok (.aload_n 0, 1) := by decide +kernel
theorem dX2_writeWalk_114 : decode cX2_writeWalk 114 = .ok (.getfield 15, 3) := by decide +kernel
theorem dX2_writeWalk_117 : decode cX2_writeWalk 117 = .ok (.iload 4, 2) := by decide +kernel
theorem dX2_writeWalk_119 : decode cX2_writeWalk 119 = .ok (.bipush 6, 2) := by decide +kernel
theorem dX2_writeWalk_121 : decode cX2_writeWalk 121 = .ok (.iadd, 1) := by decide +kernel
theorem dX2_writeWalk_122 : decode cX2_writeWalk 122 = .ok (.iconst (-1), 1) := by decide +kernel
theorem dX2_writeWalk_123 : decode cX2_writeWalk 123 = .ok (.iastore, 1) := by decide +kernel
theorem dX2_writeWalk_124 : decode cX2_writeWalk 124 = .ok (.aload_n 0, 1) := by decide +kernel
theorem dX2_writeWalk_125 : decode cX2_writeWalk 125 = .ok (.getfield 15, 3) := by decide +kernel
theorem dX2_writeWalk_128 : decode cX2_writeWalk 128 = .ok (.iload 4, 2) := by decide +kernel
theorem dX2_writeWalk_130 : decode cX2_writeWalk 130 = .ok (.bipush 7, 2) := by decide +kernel
theorem dX2_writeWalk_132 : decode cX2_writeWalk 132 = .ok (.iadd, 1) := by decide +kernel
theorem dX2_writeWalk_133 : decode cX2_writeWalk 133 = .ok (.iconst (-1), 1) := by decide +kernel
theorem dX2_writeWalk_134 : decode cX2_writeWalk 134 = .ok (.iastore, 1) := by decide +kernel
theorem dX2_writeWalk_135 : decode cX2_writeWalk 135 = .ok (.aload_n 0, 1) := by decide +kernel
theorem dX2_writeWalk_136 : decode cX2_writeWalk 136 = .ok (.getfield 15, 3) := by decide +kernel
theorem dX2_writeWalk_139 : decode cX2_writeWalk 139 = .ok (.iload 4, 2) := by decide +kernel
theorem dX2_writeWalk_141 : decode cX2_writeWalk 141 = .ok (.bipush 8, 2) := by decide +kernel
theorem dX2_writeWalk_143 : decode cX2_writeWalk 143 = .ok (.iadd, 1) := by decide +kernel
theorem dX2_writeWalk_144 : decode cX2_writeWalk 144 = .ok (.iconst (-1), 1) := by decide +kernel
theorem dX2_writeWalk_145 : decode cX2_writeWalk 145 = .ok (.iastore, 1) := by decide +kernel
theorem dX2_writeWalk_146 : decode cX2_writeWalk 146 = .ok (.aload_n 0, 1) := by decide +kernel
theorem dX2_writeWalk_147 : decode cX2_writeWalk 147 = .ok (.getfield 15, 3) := by decide +kernel
theorem dX2_writeWalk_150 : decode cX2_writeWalk 150 = .ok (.iload 4, 2) := by decide +kernel
theorem dX2_writeWalk_152 : decode cX2_writeWalk 152 = .ok (.iconst 5, 1) := by decide +kernel
theorem dX2_writeWalk_153 : decode cX2_writeWalk 153 = .ok (.iadd, 1) := by decide +kernel
theorem dX2_writeWalk_154 : decode cX2_writeWalk 154 = .ok (.iaload, 1) := by decide +kernel
theorem dX2_writeWalk_155 : decode cX2_writeWalk 155 = .ok (.ireturn, 1) := by decide +kernel
theorem dX3_init_0 : decode cX3_init 0 = .ok (.aload_n 0, 1) := by decide +kernel
theorem dX3_init_1 : decode cX3_init 1 = .ok (.invokespecial 3, 3) := by decide +kernel
theorem dX3_init_4 : decode cX3_init 4 = .ok (.aload_n 0, 1) := by decide +kernel
theorem dX3_init_5 : decode cX3_init 5 = .ok (.bipush 90, 2) := by decide +kernel
theorem dX3_init_7 : decode cX3_init 7 = .ok (.newarray .int, 2) := by decide +kernel
theorem dX3_init_9 : decode cX3_init 9 = .ok (.putfield 9, 3) := by decide +kernel
theorem dX3_init_12 : decode cX3_init 12 = .ok (.aload_n 0, 1) := by decide +kernel
theorem dX3_init_13 : decode cX3_init 13 = .ok (.sipush 720, 3) := by decide +kernel
theorem dX3_init_16 : decode cX3_init 16 = .ok (.newarray .int, 2) := by decide +kernel
theorem dX3_init_18 : decode cX3_init 18 = .ok (.putfield 15, 3) := by decide +kernel
theorem dX3_init_21 : decode cX3_init 21 = .ok (.return_, 1) := by decide +kernel
theorem dX3_at_0 : decode cX3_at 0 = .ok (.aload_n 0, 1) := by decide +kernel
theorem dX3_at_1 : decode cX3_at 1 = .ok (.iload_n 1, 1) := by decide +kernel
theorem dX3_at_2 : decode cX3_at 2 = .ok (.iload_n 2, 1) := by decide +kernel
theorem dX3_at_3 : decode cX3_at 3 = .ok (.invokevirtual 18, 3) := by decide +kernel
theorem dX3_at_6 : decode cX3_at 6 = .ok (.istore 4, 2) := by decide +kernel
theorem dX3_at_8 : decode cX3_at 8 = .ok (.iload 4, 2) := by decide +kernel
theorem dX3_at_10 : decode cX3_at 10 = .ok (.ifCond .ge 7, 3) := by decide +kernel
theorem dX3_at_13 : decode cX3_at 13 = .ok (.iconst 0, 1) := by decide +kernel
theorem dX3_at_14 : decode cX3_at 14 = .ok (.goto 15, 3) := by decide +kernel
theorem dX3_at_17 : decode cX3_at 17 = .ok (.aload_n 0, 1) := by decide +kernel
theorem dX3_at_18 : decode cX3_at 18 = .ok (.getfield 15, 3) := by decide +kernel
theorem dX3_at_21 : decode cX3_at 21 = .ok (.iload 4, 2) := by decide +kernel
theorem dX3_at_23 : decode cX3_at 23 = .ok (.bipush 8, 2) := by decide +kernel
theorem dX3_at_25 : decode cX3_at 25 = .ok (.imul, 1) := by decide +kernel
theorem dX3_at_26 : decode cX3_at 26 = .ok (.iload_n 3, 1) := by decide +kernel
theorem dX3_at_27 : decode cX3_at 27 = .ok (.iadd, 1) := by decide +kernel
theorem dX3_at_28 : decode cX3_at 28 = .ok (.iaload, 1) := by decide +kernel
theorem dX3_at_29 : decode cX3_at 29 = .ok (.ireturn, 1) := by decide +kernel
theorem dX3_change_0 : decode cX3_change 0 = .ok (.aload_n 0, 1) := by decide +kernel
theorem dX3_change_1 : decode cX3_change 1 = .ok (.iload_n 1, 1) := by decide +kernel
theorem dX3_change_2 : decode cX3_change 2 = .ok (.iload_n 2, 1) := by decide +kernel
theorem dX3_change_3 : decode cX3_change 3 = .ok (.invokevirtual 18, 3) := by decide +kernel
theorem dX3_change_6 : decode cX3_change 6 = .ok (.istore 6, 2) := by decide +kernel
theorem dX3_change_8 : decode cX3_change 8 = .ok (.iload 6, 2) := by decide +kernel
theorem dX3_change_10 : decode cX3_change 10 = .ok (.ifCond .ge 11, 3) := by decide +kernel
theorem dX3_change_13 : decode cX3_change 13 = .ok (.aload_n 0, 1) := by decide +kernel
theorem dX3_change_14 : decode cX3_change 14 = .ok (.iload_n 1, 1) := by decide +kernel
theorem dX3_change_15 : decode cX3_change 15 = .ok (.iload_n 2, 1) := by decide +kernel
theorem dX3_change_16 : decode cX3_change 16 = .ok (.invokevirtual 22, 3) := by decide +kernel
theorem dX3_change_19 : decode cX3_change 19 = .ok (.istore 6, 2) := by decide +kernel
theorem dX3_change_21 : decode cX3_change 21 = .ok (.iload_n 3, 1) := by decide +kernel
theorem dX3_change_22 : decode cX3_change 22 = .ok (.istore 7, 2) := by decide +kernel
theorem dX3_change_24 : decode cX3_change 24 = .ok (.iload 6, 2) := by decide +kernel
theorem dX3_change_26 : decode cX3_change 26 = .ok (.ifCond .lt 34, 3) := by decide +kernel
theorem dX3_change_29 : decode cX3_change 29 = .ok (.iload 7, 2) := by decide +kernel
theorem dX3_change_31 : decode cX3_change 31 = .ok (.iload 4, 2) := by decide +kernel
theorem dX3_change_33 : decode cX3_change 33 = .ok (.if_icmp .ge 27, 3) := by decide +kernel
theorem dX3_change_36 : decode cX3_change 36 = .ok (.aload_n 0, 1) := by decide +kernel
theorem dX3_change_37 : decode cX3_change 37 = .ok (.getfield 15, 3) := by decide +kernel
theorem dX3_change_40 : decode cX3_change 40 = .ok (.iload 6, 2) := by decide +kernel
theorem dX3_change_42 : decode cX3_change 42 = .ok (.bipush 8, 2) := by decide +kernel
theorem dX3_change_44 : decode cX3_change 44 = .ok (.imul, 1) := by decide +kernel
theorem dX3_change_45 : decode cX3_change 45 = .ok (.iload 7, 2) := by decide +kernel
theorem dX3_change_47 : decode cX3_change 47 = .ok (.iadd, 1) := by decide +kernel
theorem dX3_change_48 : decode cX3_change 48 = .ok (.dup2, 1) := by decide +kernel
theorem dX3_change_49 : decode cX3_change 49 = .ok (.iaload, 1) := by decide +kernel
theorem dX3_change_50 : decode cX3_change 50 = .ok (.iload 5, 2) := by decide +kernel
theorem dX3_change_52 : decode cX3_change 52 = .ok (.iadd, 1) := by decide +kernel
theorem dX3_change_53 : decode cX3_change 53 = .ok (.iastore, 1) := by decide +kernel
theorem dX3_change_54 : decode cX3_change 54 = .ok (.iinc 7 1, 3) := by decide +kernel
theorem dX3_change_57 : decode cX3_change 57 = .ok (.goto (-33), 3) := by decide +kernel
theorem dX3_change_60 : decode cX3_change 60 = .ok (.return_, 1) := by decide +kernel
theorem dX3_full_0 : decode cX3_full 0 = .ok (.aload_n 0, 1) := by decide +kernel
theorem dX3_full_1 : decode cX3_full 1 = .ok (.iload_n 1, 1) := by decide +kernel
theorem dX3_full_2 : decode cX3_full 2 = .ok (.iload_n 2, 1) := by decide +kernel
theorem dX3_full_3 : decode cX3_full 3 = .ok (.invokevirtual 18, 3) := by decide +kernel
theorem dX3_full_6 : decode cX3_full 6 = .ok (.istore 4, 2) := by decide +kernel
theorem dX3_full_8 : decode cX3_full 8 = .ok (.iconst 0, 1) := by decide +kernel
theorem dX3_full_9 : decode cX3_full 9 = .ok (.istore 5, 2) := by decide +kernel
theorem dX3_full_11 : decode cX3_full 11 = .ok (.iconst 0, 1) := by decide +kernel
theorem dX3_full_12 : decode cX3_full 12 = .ok (.istore 6, 2) := by decide +kernel
theorem dX3_full_14 : decode cX3_full 14 = .ok (.iload 4, 2) := by decide +kernel
theorem dX3_full_16 : decode cX3_full 16 = .ok (.ifCond .lt 42, 3) := by decide +kernel
theorem dX3_full_19 : decode cX3_full 19 = .ok (.iload 6, 2) := by decide +kernel
theorem dX3_full_21 : decode cX3_full 21 = .ok (.bipush 8, 2) := by decide +kernel
theorem dX3_full_23 : decode cX3_full 23 = .ok (.if_icmp .ge 35, 3) := by decide +kernel
theorem dX3_full_26 : decode cX3_full 26 = .ok (.aload_n 0, 1) := by decide +kernel
theorem dX3_full_27 : decode cX3_full 27 = .ok (.getfield 15, 3) := by decide +kernel
theorem dX3_full_30 : decode cX3_full 30 = .ok (.iload 4, 2) := by decide +kernel
theorem dX3_full_32 : decode cX3_full 32 = .ok (.bipush 8, 2) := by decide +kernel
theorem dX3_full_34 : decode cX3_full 34 = .ok (.imul, 1) := by decide +kernel
theorem dX3_full_35 : decode cX3_full 35 = .ok (.iload 6, 2) := by decide +kernel
theorem dX3_full_37 : decode cX3_full 37 = .ok (.iadd, 1) := by decide +kernel
theorem dX3_full_38 : decode cX3_full 38 = .ok (.iaload, 1) := by decide +kernel
theorem dX3_full_39 : decode cX3_full 39 = .ok (.iload_n 3, 1) := by decide +kernel
theorem dX3_full_40 : decode cX3_full 40 = .ok (.if_icmp .lt 12, 3) := by decide +kernel
theorem dX3_full_43 : decode cX3_full 43 = .ok (.iload 5, 2) := by decide +kernel
theorem dX3_full_45 : decode cX3_full 45 = .ok (.iconst 1, 1) := by decide +kernel
theorem dX3_full_46 : decode cX3_full 46 = .ok (.iload 6, 2) := by decide +kernel
theorem dX3_full_48 : decode cX3_full 48 = .ok (.ishl, 1) := by decide +kernel
theorem dX3_full_49 : decode cX3_full 49 = .ok (.ior, 1) := by decide +kernel
theorem dX3_full_50 : decode cX3_full 50 = .ok (.istore 5, 2) := by decide +kernel
theorem dX3_full_52 : decode cX3_full 52 = .ok (.iinc 6 1, 3) := by decide +kernel
theorem dX3_full_55 : decode cX3_full 55 = .ok (.goto (-41), 3) := by decide +kernel
theorem dX3_full_58 : decode cX3_full 58 = .ok (.iload 5, 2) := by decide +kernel
theorem dX3_full_60 : decode cX3_full 60 = .ok (.ireturn, 1) := by decide +kernel
theorem dX3_rowOf_0 : decode cX3_rowOf 0 = .ok (.iload_n 1, 1) := by decide +kernel
theorem dX3_rowOf_1 : decode cX3_rowOf 1 = .ok (.bipush 100, 2) := by decide +kernel
theorem dX3_rowOf_3 : decode cX3_rowOf 3 = .ok (.imul, 1) := by decide +kernel
theorem dX3_rowOf_4 : decode cX3_rowOf 4 = .ok (.iload_n 2, 1) := by decide +kernel
theorem dX3_rowOf_5 : decode cX3_rowOf 5 = .ok (.iadd, 1) := by decide +kernel
theorem dX3_rowOf_6 : decode cX3_rowOf 6 = .ok (.istore_n 3, 1) := by decide +kernel
theorem dX3_rowOf_7 : decode cX3_rowOf 7 = .ok (.iconst 0, 1) := by decide +kernel
theorem dX3_rowOf_8 : decode cX3_rowOf 8 = .ok (.istore 4, 2) := by decide +kernel
theorem dX3_rowOf_10 : decode cX3_rowOf 10 = .ok (.iload 4, 2) := by decide +kernel
theorem dX3_rowOf_12 : decode cX3_rowOf 12 = .ok (.aload_n 0, 1) := by decide +kernel
theorem dX3_rowOf_13 : decode cX3_rowOf 13 = .ok (.getfield 25, 3) := by decide +kernel
theorem dX3_rowOf_16 : decode cX3_rowOf 16 = .ok (.if_icmp .ge 23, 3) := by decide +kernel
theorem dX3_rowOf_19 : decode cX3_rowOf 19 = .ok (.aload_n 0, 1) := by decide +kernel
theorem dX3_rowOf_20 : decode cX3_rowOf 20 = .ok (.getfield 9, 3) := by decide +kernel
theorem dX3_rowOf_23 : decode cX3_rowOf 23 = .ok (.iload 4, 2) := by decide +kernel
theorem dX3_rowOf_25 : decode cX3_rowOf 25 = .ok (.iaload, 1) := by decide +kernel
theorem dX3_rowOf_26 : decode cX3_rowOf 26 = .ok (.iload_n 3, 1) := by decide +kernel
theorem dX3_rowOf_27 : decode cX3_rowOf 27 = .ok (.if_icmp .ne 6, 3) := by decide +kernel
theorem dX3_rowOf_30 : decode cX3_rowOf 30 = .ok (.iload 4, 2) := by decide +kernel
theorem dX3_rowOf_32 : decode cX3_rowOf 32 = .ok (.ireturn, 1) := by decide +kernel
theorem dX3_rowOf_33 : decode cX3_rowOf 33 = .ok (.iinc 4 1, 3) := by decide +kernel
theorem dX3_rowOf_36 : decode cX3_rowOf 36 = .ok (.goto (-26), 3) := by decide +kernel
theorem dX3_rowOf_39 : decode cX3_rowOf 39 = .ok (.iconst (-1), 1) := by decide +kernel
theorem dX3_rowOf_40 : decode cX3_rowOf 40 = .ok (.ireturn, 1) := by decide +kernel
theorem dX3_newRow_0 : decode cX3_newRow 0 = .ok (.aload_n 0, 1) := by decide +kernel
theorem dX3_newRow_1 : decode cX3_newRow 1 = .ok (.getfield 25, 3) := by decide +kernel
theorem dX3_newRow_4 : decode cX3_newRow 4 = .ok (.aload_n 0, 1) := by decide +kernel
theorem dX3_newRow_5 : decode cX3_newRow 5 = .ok (.getfield 9, 3) := by decide +kernel
theorem dX3_newRow_8 : decode cX3_newRow 8 = .ok (.arraylength, 1) := by decide +kernel
theorem dX3_newRow_9 : decode cX3_newRow 9 = .ok (.if_icmp .lt 5, 3) := by decide +kernel
theorem dX3_newRow_12 : decode cX3_newRow 12 = .ok (.iconst (-1), 1) := by decide +kernel
theorem dX3_newRow_13 : decode cX3_newRow 13 = .ok (.ireturn, 1) := by decide +kernel
theorem dX3_newRow_14 : decode cX3_newRow 14 = .ok (.aload_n 0, 1) := by decide +kernel
theorem dX3_newRow_15 : decode cX3_newRow 15 = .ok (.getfield 9, 3) := by decide +kernel
theorem dX3_newRow_18 : decode cX3_newRow 18 = .ok (.aload_n 0, 1) := by decide +kernel
theorem dX3_newRow_19 : decode cX3_newRow 19 = .ok (.getfield 25, 3) := by decide +kernel
theorem dX3_newRow_22 : decode cX3_newRow 22 = .ok (.iload_n 1, 1) := by decide +kernel
theorem dX3_newRow_23 : decode cX3_newRow 23 = .ok (.bipush 100, 2) := by decide +kernel
theorem dX3_newRow_25 : decode cX3_newRow 25 = .ok (.imul, 1) := by decide +kernel
theorem dX3_newRow_26 : decode cX3_newRow 26 = .ok (.iload_n 2, 1) := by decide +kernel
theorem dX3_newRow_27 : decode cX3_newRow 27 = .ok (.iadd, 1) := by decide +kernel
theorem dX3_newRow_28 : decode cX3_newRow 28 = .ok (.iastore, 1) := by decide +kernel
theorem dX3_newRow_29 : decode cX3_newRow 29 = .ok (.aload_n 0, 1) := by decide +kernel
theorem dX3_newRow_30 : decode cX3_newRow 30 = .ok (.dup, 1) := by decide +kernel
theorem dX3_newRow_31 : decode cX3_newRow 31 = .ok (.getfield 25, 3) := by decide +kernel
theorem dX3_newRow_34 : decode cX3_newRow 34 = .ok (.dup_x1, 1) := by decide +kernel
theorem dX3_newRow_35 : decode cX3_newRow 35 = .ok (.iconst 1, 1) := by decide +kernel
theorem dX3_newRow_36 : decode cX3_newRow 36 = .ok (.iadd, 1) := by decide +kernel
theorem dX3_newRow_37 : decode cX3_newRow 37 = .ok (.putfield 25, 3) := by decide +kernel
theorem dX3_newRow_40 : decode cX3_newRow 40 = .ok (.ireturn, 1) := by decide +kernel
theorem dX4_init_0 : decode cX4_init 0 = .ok (.aload_n 0, 1) := by decide +kernel
theorem dX4_init_1 : decode cX4_init 1 = .ok (.invokespecial 3, 3) := by decide +kernel
theorem dX4_init_4 : decode cX4_init 4 = .ok (.aload_n 0, 1) := by decide +kernel
theorem dX4_init_5 : decode cX4_init 5 = .ok (.sipush 132, 3) := by decide +kernel
theorem dX4_init_8 : decode cX4_init 8 = .ok (.newarray .int, 2) := by decide +kernel
theorem dX4_init_10 : decode cX4_init 10 = .ok (.putfield 9, 3) := by decide +kernel
theorem dX4_init_13 : decode cX4_init 13 = .ok (.aload_n 0, 1) := by decide +kernel
theorem dX4_init_14 : decode cX4_init 14 = .ok (.sipush 132, 3) := by decide +kernel
theorem dX4_init_17 : decode cX4_init 17 = .ok (.newarray .int, 2) := by decide +kernel
theorem dX4_init_19 : decode cX4_init 19 = .ok (.putfield 15, 3) := by decide +kernel
theorem dX4_init_22 : decode cX4_init 22 = .ok (.aload_n 0, 1) := by decide +kernel
theorem dX4_init_23 : decode cX4_init 23 = .ok (.sipush 132, 3) := by decide +kernel
theorem dX4_init_26 : decode cX4_init 26 = .ok (.newarray .int, 2) := by decide +kernel
theorem dX4_init_28 : decode cX4_init 28 = .ok (.putfield 18, 3) := by decide +kernel
theorem dX4_init_31 : decode cX4_init 31 = .ok (.aload_n 0, 1) := by decide +kernel
theorem dX4_init_32 : decode cX4_init 32 = .ok (.sipush 1056, 3) := by decide +kernel
theorem dX4_init_35 : decode cX4_init 35 = .ok (.newarray .int, 2) := by decide +kernel
theorem dX4_init_37 : decode cX4_init 37 = .ok (.putfield 21, 3) := by decide +kernel
theorem dX4_init_40 : decode cX4_init 40 = .ok (.aload_n 0, 1) := by decide +kernel
theorem dX4_init_41 : decode cX4_init 41 = .ok (.sipush 1056, 3) := by decide +kernel
theorem dX4_init_44 : decode cX4_init 44 = .ok (.newarray .int, 2) := by decide +kernel
theorem dX4_init_46 : decode cX4_init 46 = .ok (.putfield 24, 3) := by decide +kernel
theorem dX4_init_49 : decode cX4_init 49 = .ok (.aload_n 0, 1) := by decide +kernel
theorem dX4_init_50 : decode cX4_init 50 = .ok (.aload_n 1, 1) := by decide +kernel
theorem dX4_init_51 : decode cX4_init 51 = .ok (.putfield 27, 3) := by decide +kernel
theorem dX4_init_54 : decode cX4_init 54 = .ok (.aload_n 0, 1) := by decide +kernel
theorem dX4_init_55 : decode cX4_init 55 = .ok (.aload_n 2, 1) := by decide +kernel
theorem dX4_init_56 : decode cX4_init 56 = .ok (.putfield 31, 3) := by decide +kernel
theorem dX4_init_59 : decode cX4_init 59 = .ok (.return_, 1) := by decide +kernel
theorem dX4_gather_0 : decode cX4_gather 0 = .ok (.aload_n 0, 1) := by decide +kernel
theorem dX4_gather_1 : decode cX4_gather 1 = .ok (.iconst 0, 1) := by decide +kernel
theorem dX4_gather_2 : decode cX4_gather 2 = .ok (.putfield 35, 3) := by decide +kernel
theorem dX4_gather_5 : decode cX4_gather 5 = .ok (.aload_n 0, 1) := by decide +kernel
theorem dX4_gather_6 : decode cX4_gather 6 = .ok (.sipush 1440, 3) := by decide +kernel
theorem dX4_gather_9 : decode cX4_gather 9 = .ok (.iload_n 1, 1) := by decide +kernel
theorem dX4_gather_10 : decode cX4_gather 10 = .ok (.iconst 2, 1) := by decide +kernel
theorem dX4_gather_11 : decode cX4_gather 11 = .ok (.iadd, 1) := by decide +kernel
theorem dX4_gather_12 : decode cX4_gather 12 = .ok (.imul, 1) := by decide +kernel
theorem dX4_gather_13 : decode cX4_gather 13 = .ok (.putfield 39, 3) := by decide +kernel
theorem dX4_gather_16 : decode cX4_gather 16 = .ok (.iconst 0, 1) := by decide +kernel
theorem dX4_gather_17 : decode cX4_gather 17 = .ok (.iload_n 2, 1) := by decide +kernel
theorem dX4_gather_18 : decode cX4_gather 18 = .ok (.aload_n 0, 1) := by decide +kernel
theorem dX4_gather_19 : decode cX4_gather 19 = .ok (.getfield 27, 3) := by decide +kernel
theorem dX4_gather_22 : decode cX4_gather 22 = .ok (.getfield 42, 3) := by decide +kernel
theorem dX4_gather_25 : decode cX4_gather 25 = .ok (.getfield 48, 3) := by decide +kernel
theorem dX4_gather_28 : decode cX4_gather 28 = .ok (.isub, 1) := by decide +kernel
theorem dX4_gather_29 : decode cX4_gather 29 = .ok (.sipush 1440, 3) := by decide +kernel
theorem dX4_gather_32 : decode cX4_gather 32 = .ok (.invokestatic 53, 3) := by decide +kernel
theorem dX4_gather_35 : decode cX4_gather 35 = .ok (.iconst 1, 1) := by decide +kernel
theorem dX4_gather_36 : decode cX4_gather 36 = .ok (.isub, 1) := by decide +kernel
theorem dX4_gather_37 : decode cX4_gather 37 = .ok (.invokestatic 59, 3) := by decide +kernel
theorem dX4_gather_40 : decode cX4_gather 40 = .ok (.istore_n 3, 1) := by decide +kernel
theorem dX4_gather_41 : decode cX4_gather 41 = .ok (.bipush 99, 2) := by decide +kernel
theorem dX4_gather_43 : decode cX4_gather 43 = .ok (.iload_n 1, 1) := by decide +kernel
theorem dX4_gather_44 : decode cX4_gather 44 = .ok (.iconst 1, 1) := by decide +kernel
theorem dX4_gather_45 : decode cX4_gather 45 = .ok (.iadd, 1) := by decide +kernel
theorem dX4_gather_46 : decode cX4_gather 46 = .ok (.invokestatic 62, 3) := by decide +kernel
theorem dX4_gather_49 : decode cX4_gather 49 = .ok (.istore 4, 2) := by decide +kernel
theorem dX4_gather_51 : decode cX4_gather 51 = .ok (.iload_n 3, 1) := by decide +kernel
theorem dX4_gather_52 : decode cX4_gather 52 = .ok (.istore 5, 2) := by decide +kernel
theorem dX4_gather_54 : decode cX4_gather 54 = .ok (.iload 5, 2) := by decide +kernel
theorem dX4_gather_56 : decode cX4_gather 56 = .ok (.iload 4, 2) := by decide +kernel
theorem dX4_gather_58 : decode cX4_gather 58 = .ok (.if_icmp .gt 67, 3) := by decide +kernel
theorem dX4_gather_61 : decode cX4_gather 61 = .ok (.iconst 0, 1) := by decide +kernel
theorem dX4_gather_62 : decode cX4_gather 62 = .ok (.istore 6, 2) := by decide +kernel
theorem dX4_gather_64 : decode cX4_gather 64 = .ok (.iload 6, 2) := by decide +kernel
theorem dX4_gather_66 : decode cX4_gather 66 = .ok (.aload_n 0, 1) := by decide +kernel
theorem dX4_gather_67 : decode cX4_gather 67 = .ok (.getfield 27, 3) := by decide +kernel
theorem dX4_gather_70 : decode cX4_gather 70 = .ok (.getfield 65, 3) := by decide +kernel
theorem dX4_gather_73 : decode cX4_gather 73 = .ok (.if_icmp .ge 46, 3) := by decide +kernel
theorem dX4_gather_76 : decode cX4_gather 76 = .ok (.aload_n 0, 1) := by decide +kernel
theorem dX4_gather_77 : decode cX4_gather 77 = .ok (.getfield 27, 3) := by decide +kernel
theorem dX4_gather_80 : decode cX4_gather 80 = .ok (.getfield 66, 3) := by decide +kernel
theorem dX4_gather_83 : decode cX4_gather 83 = .ok (.iload 6, 2) := by decide +kernel
theorem dX4_gather_85 : decode cX4_gather 85 = .ok (.iaload, 1) := by decide +kernel
theorem dX4_gather_86 : decode cX4_gather 86 = .ok (.iconst 1, 1) := by decide +kernel
theorem dX4_gather_87 : decode cX4_gather 87 = .ok (.if_icmp .le 26, 3) := by decide +kernel
theorem dX4_gather_90 : decode cX4_gather 90 = .ok (.aload_n 0, 1) := by decide +kernel
theorem dX4_gather_91 : decode cX4_gather 91 = .ok (.getfield 27, 3) := by decide +kernel
theorem dX4_gather_94 : decode cX4_gather 94 = .ok (.iload 6, 2) := by decide +kernel
theorem dX4_gather_96 : decode cX4_gather 96 = .ok (.iload 5, 2) := by decide +kernel
theorem dX4_gather_98 : decode cX4_gather 98 = .ok (.invokevirtual 69, 3) := by decide +kernel
theorem dX4_gather_101 : decode cX4_gather 101 = .ok (.ifCond .eq 12, 3) := by decide +kernel
theorem dX4_gather_104 : decode cX4_gather 104 = .ok (.aload_n 0, 1) := by decide +kernel
theorem dX4_gather_105 : decode cX4_gather 105 = .ok (.iload 6, 2) := by decide +kernel
theorem dX4_gather_107 : decode cX4_gather 107 = .ok (.iload 5, 2) := by decide +kernel
theorem dX4_gather_109 : decode cX4_gather 109 = .ok (.iload_n 2, 1) := by decide +kernel
theorem dX4_gather_110 : decode cX4_gather 110 = .ok (.invokevirtual 73, 3) := by decide +kernel
theorem dX4_gather_113 : decode cX4_gather 113 = .ok (.iinc 6 1, 3) := by decide +kernel
theorem dX4_gather_116 : decode cX4_gather 116 = .ok (.goto (-52), 3) := by decide +kernel
theorem dX4_gather_119 : decode cX4_gather 119 = .ok (.iinc 5 1, 3) := by decide +kernel
theorem dX4_gather_122 : decode cX4_gather 122 = .ok (.goto (-68), 3) := by decide +kernel
theorem dX4_gather_125 : decode cX4_gather 125 = .ok (.return_, 1) := by decide +kernel
theorem dX4_gatherRun_0 : decode cX4_gatherRun 0 = .ok (.aload_n 0, 1) := by decide +kernel
theorem dX4_gatherRun_1 : decode cX4_gatherRun 1 = .ok (.getfield 35, 3) := by decide +kernel
theorem dX4_gatherRun_4 : decode cX4_gatherRun 4 = .ok (.sipush 132, 3) := by decide +kernel
theorem dX4_gatherRun_7 : decode cX4_gatherRun 7 = .ok (.if_icmp .lt 4, 3) := by decide +kernel
theorem dX4_gatherRun_10 : decode cX4_gatherRun 10 = .ok (.return_, 1) := by decide +kernel
theorem dX4_gatherRun_11 : decode cX4_gatherRun 11 = .ok (.aload_n 0, 1) := by decide +kernel
theorem dX4_gatherRun_12 : decode cX4_gatherRun 12 = .ok (.getfield 27, 3) := by decide +kernel
theorem dX4_gatherRun_15 : decode cX4_gatherRun 15 = .ok (.getfield 66, 3) := by decide +kernel
theorem dX4_gatherRun_18 : decode cX4_gatherRun 18 = .ok (.iload_n 1, 1) := by decide +kernel
theorem dX4_gatherRun_19 : decode cX4_gatherRun 19 = .ok (.iaload, 1) := by decide +kernel
theorem dX4_gatherRun_20 : decode cX4_gatherRun 20 = .ok (.istore 4, 2) := by decide +kernel
theorem dX4_gatherRun_22 : decode cX4_gatherRun 22 = .ok (.aload_n 0, 1) := by decide +kernel
theorem dX4_gatherRun_23 : decode cX4_gatherRun 23 = .ok (.iload_n 1, 1) := by decide +kernel
theorem dX4_gatherRun_24 : decode cX4_gatherRun 24 = .ok (.iload_n 2, 1) := by decide +kernel
theorem dX4_gatherRun_25 : decode cX4_gatherRun 25 = .ok (.iload 4, 2) := by decide +kernel
theorem dX4_gatherRun_27 : decode cX4_gatherRun 27 = .ok (.invokevirtual 77, 3) := by decide +kernel
theorem dX4_gatherRun_30 : decode cX4_gatherRun 30 = .ok (.aload_n 0, 1) := by decide +kernel
theorem dX4_gatherRun_31 : decode cX4_gatherRun 31 = .ok (.getfield 21, 3) := by decide +kernel
theorem dX4_gatherRun_34 : decode cX4_gatherRun 34 = .ok (.aload_n 0, 1) := by decide +kernel
theorem dX4_gatherRun_35 : decode cX4_gatherRun 35 = .ok (.getfield 35, 3) := by decide +kernel
theorem dX4_gatherRun_38 : decode cX4_gatherRun 38 = .ok (.bipush 8, 2) := by decide +kernel
theorem dX4_gatherRun_40 : decode cX4_gatherRun 40 = .ok (.imul, 1) := by decide +kernel
theorem dX4_gatherRun_41 : decode cX4_gatherRun 41 = .ok (.iload 4, 2) := by decide +kernel
theorem dX4_gatherRun_43 : decode cX4_gatherRun 43 = .ok (.iadd, 1) := by decide +kernel
theorem dX4_gatherRun_44 : decode cX4_gatherRun 44 = .ok (.iconst 1, 1) := by decide +kernel
theorem dX4_gatherRun_45 : decode cX4_gatherRun 45 = .ok (.isub, 1) := by decide +kernel
theorem dX4_gatherRun_46 : decode cX4_gatherRun 46 = .ok (.iaload, 1) := by decide +kernel
theorem dX4_gatherRun_47 : decode cX4_gatherRun 47 = .ok (.iload_n 3, 1) := by decide +kernel
theorem dX4_gatherRun_48 : decode cX4_gatherRun 48 = .ok (.if_icmp .lt 22, 3) := by decide +kernel
theorem dX4_gatherRun_51 : decode cX4_gatherRun 51 = .ok (.aload_n 0, 1) := by decide +kernel
theorem dX4_gatherRun_52 : decode cX4_gatherRun 52 = .ok (.getfield 24, 3) := by decide +kernel
theorem dX4_gatherRun_55 : decode cX4_gatherRun 55 = .ok (.aload_n 0, 1) := by decide +kernel
theorem dX4_gatherRun_56 : decode cX4_gatherRun 56 = .ok (.getfield 35, 3) := by decide +kernel
theorem dX4_gatherRun_59 : decode cX4_gatherRun 59 = .ok (.bipush 8, 2) := by decide +kernel
theorem dX4_gatherRun_61 : decode cX4_gatherRun 61 = .ok (.imul, 1) := by decide +kernel
theorem dX4_gatherRun_62 : decode cX4_gatherRun 62 = .ok (.iaload, 1) := by decide +kernel
theorem dX4_gatherRun_63 : decode cX4_gatherRun 63 = .ok (.aload_n 0, 1) := by decide +kernel
theorem dX4_gatherRun_64 : decode cX4_gatherRun 64 = .ok (.getfield 39, 3) := by decide +kernel
theorem dX4_gatherRun_67 : decode cX4_gatherRun 67 = .ok (.if_icmp .lt 4, 3) := by decide +kernel
theorem dX4_gatherRun_70 : decode cX4_gatherRun 70 = .ok (.return_, 1) := by decide +kernel
theorem dX4_gatherRun_71 : decode cX4_gatherRun 71 = .ok (.aload_n 0, 1) := by decide +kernel
theorem dX4_gatherRun_72 : decode cX4_gatherRun 72 = .ok (.getfield 9, 3) := by decide +kernel
theorem dX4_gatherRun_75 : decode cX4_gatherRun 75 = .ok (.aload_n 0, 1) := by decide +kernel
theorem dX4_gatherRun_76 : decode cX4_gatherRun 76 = .ok (.getfield 35, 3) := by decide +kernel
theorem dX4_gatherRun_79 : decode cX4_gatherRun 79 = .ok (.iload_n 1, 1) := by decide +kernel
theorem dX4_gatherRun_80 : decode cX4_gatherRun 80 = .ok (.iastore, 1) := by decide +kernel
theorem dX4_gatherRun_81 : decode cX4_gatherRun 81 = .ok (.aload_n 0, 1) := by decide +kernel
theorem dX4_gatherRun_82 : decode cX4_gatherRun 82 = .ok (.getfield 15, 3) := by decide +kernel
theorem dX4_gatherRun_85 : decode cX4_gatherRun 85 = .ok (.aload_n 0, 1) := by decide +kernel
theorem dX4_gatherRun_86 : decode cX4_gatherRun 86 = .ok (.getfield 35, 3) := by decide +kernel
theorem dX4_gatherRun_89 : decode cX4_gatherRun 89 = .ok (.iload_n 2, 1) := by decide +kernel
theorem dX4_gatherRun_90 : decode cX4_gatherRun 90 = .ok (.iastore, 1) := by decide +kernel
theorem dX4_gatherRun_91 : decode cX4_gatherRun 91 = .ok (.aload_n 0, 1) := by decide +kernel
theorem dX4_gatherRun_92 : decode cX4_gatherRun 92 = .ok (.getfield 18, 3) := by decide +kernel
theorem dX4_gatherRun_95 : decode cX4_gatherRun 95 = .ok (.aload_n 0, 1) := by decide +kernel
theorem dX4_gatherRun_96 : decode cX4_gatherRun 96 = .ok (.getfield 35, 3) := by decide +kernel
theorem dX4_gatherRun_99 : decode cX4_gatherRun 99 = .ok (.aload_n 0, 1) := by decide +kernel
theorem dX4_gatherRun_100 : decode cX4_gatherRun 100 = .ok (.getfield 27, 3) := by decide +kernel
theorem dX4_gatherRun_103 : decode cX4_gatherRun 103 = .ok (.getfield 80, 3) := by decide +kernel
theorem dX4_gatherRun_106 : decode cX4_gatherRun 106 = .ok (.iload_n 1, 1) := by decide +kernel
theorem dX4_gatherRun_107 : decode cX4_gatherRun 107 = .ok (.iaload, 1) := by decide +kernel
theorem dX4_gatherRun_108 : decode cX4_gatherRun 108 = .ok (.ifCond .ne 7, 3) := by decide +kernel
theorem dX4_gatherRun_111 : decode cX4_gatherRun 111 = .ok (.iconst 0, 1) := by decide +kernel
theorem dX4_gatherRun_112 : decode cX4_gatherRun 112 = .ok (.goto 21, 3) := by decide +kernel
theorem dX4_gatherRun_115 : decode cX4_gatherRun 115 = .ok (.aload_n 0, 1) := by decide +kernel
theorem dX4_gatherRun_116 : decode cX4_gatherRun 116 = .ok (.getfield 31, 3) := by decide +kernel
theorem dX4_gatherRun_119 : decode cX4_gatherRun 119 = .ok (.iload_n 1, 1) := by decide +kernel
theorem dX4_gatherRun_120 : decode cX4_gatherRun 120 = .ok (.iload_n 2, 1) := by decide +kernel
theorem dX4_gatherRun_121 : decode cX4_gatherRun 121 = .ok (.aload_n 0, 1) := by decide +kernel
theorem dX4_gatherRun_122 : decode cX4_gatherRun 122 = .ok (.getfield 27, 3) := by decide +kernel
theorem dX4_gatherRun_125 : decode cX4_gatherRun 125 = .ok (.getfield 83, 3) := by decide +kernel
theorem dX4_gatherRun_128 : decode cX4_gatherRun 128 = .ok (.iload_n 1, 1) := by decide +kernel
theorem dX4_gatherRun_129 : decode cX4_gatherRun 129 = .ok (.iaload, 1) := by decide +kernel
theorem dX4_gatherRun_130 : decode cX4_gatherRun 130 = .ok (.invokevirtual 86, 3) := by decide +kernel
theorem dX4_gatherRun_133 : decode cX4_gatherRun 133 = .ok (.iastore, 1) := by decide +kernel
theorem dX4_gatherRun_134 : decode cX4_gatherRun 134 = .ok (.aload_n 0, 1) := by decide +kernel
theorem dX4_gatherRun_135 : decode cX4_gatherRun 135 = .ok (.dup, 1) := by decide +kernel
theorem dX4_gatherRun_136 : decode cX4_gatherRun 136 = .ok (.getfield 35, 3) := by decide +kernel
theorem dX4_gatherRun_139 : decode cX4_gatherRun 139 = .ok (.iconst 1, 1) := by decide +kernel
theorem dX4_gatherRun_140 : decode cX4_gatherRun 140 = .ok (.iadd, 1) := by decide +kernel
theorem dX4_gatherRun_141 : decode cX4_gatherRun 141 = .ok (.putfield 35, 3) := by decide +kernel
theorem dX4_gatherRun_144 : decode cX4_gatherRun 144 = .ok (.return_, 1) := by decide +kernel
theorem dX4_setTimes_0 : decode cX4_setTimes 0 = .ok (.aload_n 0, 1) := by decide +kernel
theorem dX4_setTimes_1 : decode cX4_setTimes 1 = .ok (.getfield 35, 3) := by decide +kernel
theorem dX4_setTimes_4 : decode cX4_setTimes 4 = .ok (.bipush 8, 2) := by decide +kernel
theorem dX4_setTimes_6 : decode cX4_setTimes 6 = .ok (.imul, 1) := by decide +kernel
theorem dX4_setTimes_7 : decode cX4_setTimes 7 = .ok (.istore 4, 2) := by decide +kernel
theorem dX4_setTimes_9 : decode cX4_setTimes 9 = .ok (.iconst 0, 1) := by decide +kernel
theorem dX4_setTimes_10 : decode cX4_setTimes 10 = .ok (.istore 5, 2) := by decide +kernel
theorem dX4_setTimes_12 : decode cX4_setTimes 12 = .ok (.iload 5, 2) := by decide +kernel
theorem dX4_setTimes_14 : decode cX4_setTimes 14 = .ok (.iload_n 3, 1) := by decide +kernel
theorem dX4_setTimes_15 : decode cX4_setTimes 15 = .ok (.if_icmp .ge 71, 3) := by decide +kernel
theorem dX4_setTimes_18 : decode cX4_setTimes 18 = .ok (.aload_n 0, 1) := by decide +kernel
theorem dX4_setTimes_19 : decode cX4_setTimes 19 = .ok (.getfield 21, 3) := by decide +kernel
theorem dX4_setTimes_22 : decode cX4_setTimes 22 = .ok (.iload 4, 2) := by decide +kernel
theorem dX4_setTimes_24 : decode cX4_setTimes 24 = .ok (.iload 5, 2) := by decide +kernel
theorem dX4_setTimes_26 : decode cX4_setTimes 26 = .ok (.iadd, 1) := by decide +kernel
theorem dX4_setTimes_27 : decode cX4_setTimes 27 = .ok (.sipush 1440, 3) := by decide +kernel
theorem dX4_setTimes_30 : decode cX4_setTimes 30 = .ok (.iload_n 2, 1) := by decide +kernel
theorem dX4_setTimes_31 : decode cX4_setTimes 31 = .ok (.imul, 1) := by decide +kernel
theorem dX4_setTimes_32 : decode cX4_setTimes 32 = .ok (.aload_n 0, 1) := by decide +kernel
theorem dX4_setTimes_33 : decode cX4_setTimes 33 = .ok (.getfield 27, 3) := by decide +kernel
theorem dX4_setTimes_36 : decode cX4_setTimes 36 = .ok (.getfield 91, 3) := by decide +kernel
theorem dX4_setTimes_39 : decode cX4_setTimes 39 = .ok (.iload_n 1, 1) := by decide +kernel
theorem dX4_setTimes_40 : decode cX4_setTimes 40 = .ok (.bipush 8, 2) := by decide +kernel
theorem dX4_setTimes_42 : decode cX4_setTimes 42 = .ok (.imul, 1) := by decide +kernel
theorem dX4_setTimes_43 : decode cX4_setTimes 43 = .ok (.iload 5, 2) := by decide +kernel
theorem dX4_setTimes_45 : decode cX4_setTimes 45 = .ok (.iadd, 1) := by decide +kernel
theorem dX4_setTimes_46 : decode cX4_setTimes 46 = .ok (.iaload, 1) := by decide +kernel
theorem dX4_setTimes_47 : decode cX4_setTimes 47 = .ok (.iadd, 1) := by decide +kernel
theorem dX4_setTimes_48 : decode cX4_setTimes 48 = .ok (.iastore, 1) := by decide +kernel
theorem dX4_setTimes_49 : decode cX4_setTimes 49 = .ok (.aload_n 0, 1) := by decide +kernel
theorem dX4_setTimes_50 : decode cX4_setTimes 50 = .ok (.getfield 24, 3) := by decide +kernel
theorem dX4_setTimes_53 : decode cX4_setTimes 53 = .ok (.iload 4, 2) := by decide +kernel
theorem dX4_setTimes_55 : decode cX4_setTimes 55 = .ok (.iload 5, 2) := by decide +kernel
theorem dX4_setTimes_57 : decode cX4_setTimes 57 = .ok (.iadd, 1) := by decide +kernel
theorem dX4_setTimes_58 : decode cX4_setTimes 58 = .ok (.sipush 1440, 3) := by decide +kernel
theorem dX4_setTimes_61 : decode cX4_setTimes 61 = .ok (.iload_n 2, 1) := by decide +kernel
theorem dX4_setTimes_62 : decode cX4_setTimes 62 = .ok (.imul, 1) := by decide +kernel
theorem dX4_setTimes_63 : decode cX4_setTimes 63 = .ok (.aload_n 0, 1) := by decide +kernel
theorem dX4_setTimes_64 : decode cX4_setTimes 64 = .ok (.getfield 27, 3) := by decide +kernel
theorem dX4_setTimes_67 : decode cX4_setTimes 67 = .ok (.getfield 94, 3) := by decide +kernel
theorem dX4_setTimes_70 : decode cX4_setTimes 70 = .ok (.iload_n 1, 1) := by decide +kernel
theorem dX4_setTimes_71 : decode cX4_setTimes 71 = .ok (.bipush 8, 2) := by decide +kernel
theorem dX4_setTimes_73 : decode cX4_setTimes 73 = .ok (.imul, 1) := by decide +kernel
theorem dX4_setTimes_74 : decode cX4_setTimes 74 = .ok (.iload 5, 2) := by decide +kernel
theorem dX4_setTimes_76 : decode cX4_setTimes 76 = .ok (.iadd, 1) := by decide +kernel
theorem dX4_setTimes_77 : decode cX4_setTimes 77 = .ok (.iaload, 1) := by decide +kernel
theorem dX4_setTimes_78 : decode cX4_setTimes 78 = .ok (.iadd, 1) := by decide +kernel
theorem dX4_setTimes_79 : decode cX4_setTimes 79 = .ok (.iastore, 1) := by decide +kernel
theorem dX4_setTimes_80 : decode cX4_setTimes 80 = .ok (.iinc 5 1, 3) := by decide +kernel
theorem dX4_setTimes_83 : decode cX4_setTimes 83 = .ok (.goto (-71), 3) := by decide +kernel
theorem dX4_setTimes_86 : decode cX4_setTimes 86 = .ok (.aload_n 0, 1) := by decide +kernel
theorem dX4_setTimes_87 : decode cX4_setTimes 87 = .ok (.getfield 27, 3) := by decide +kernel
theorem dX4_setTimes_90 : decode cX4_setTimes 90 = .ok (.getfield 42, 3) := by decide +kernel
theorem dX4_setTimes_93 : decode cX4_setTimes 93 = .ok (.astore 5, 2) := by decide +kernel
theorem dX4_setTimes_95 : decode cX4_setTimes 95 = .ok (.iconst 0, 1) := by decide +kernel
theorem dX4_setTimes_96 : decode cX4_setTimes 96 = .ok (.istore 6, 2) := by decide +kernel
theorem dX4_setTimes_98 : decode cX4_setTimes 98 = .ok (.iload 6, 2) := by decide +kernel
theorem dX4_setTimes_100 : decode cX4_setTimes 100 = .ok (.aload 5, 2) := by decide +kernel
theorem dX4_setTimes_102 : decode cX4_setTimes 102 = .ok (.getfield 97, 3) := by decide +kernel
theorem dX4_setTimes_105 : decode cX4_setTimes 105 = .ok (.if_icmp .ge 97, 3) := by decide +kernel
theorem dX4_setTimes_108 : decode cX4_setTimes 108 = .ok (.aload 5, 2) := by decide +kernel
theorem dX4_setTimes_110 : decode cX4_setTimes 110 = .ok (.getfield 98, 3) := by decide +kernel
theorem dX4_setTimes_113 : decode cX4_setTimes 113 = .ok (.iload 6, 2) := by decide +kernel
theorem dX4_setTimes_115 : decode cX4_setTimes 115 = .ok (.iaload, 1) := by decide +kernel
theorem dX4_setTimes_116 : decode cX4_setTimes 116 = .ok (.iload_n 1, 1) := by decide +kernel
theorem dX4_setTimes_117 : decode cX4_setTimes 117 = .ok (.if_icmp .ne 79, 3) := by decide +kernel
theorem dX4_setTimes_120 : decode cX4_setTimes 120 = .ok (.aload 5, 2) := by decide +kernel
theorem dX4_setTimes_122 : decode cX4_setTimes 122 = .ok (.getfield 99, 3) := by decide +kernel
theorem dX4_setTimes_125 : decode cX4_setTimes 125 = .ok (.iload 6, 2) := by decide +kernel
theorem dX4_setTimes_127 : decode cX4_setTimes 127 = .ok (.iaload, 1) := by decide +kernel
theorem dX4_setTimes_128 : decode cX4_setTimes 128 = .ok (.iload_n 2, 1) := by decide +kernel
theorem dX4_setTimes_129 : decode cX4_setTimes 129 = .ok (.if_icmp .ne 67, 3) := by decide +kernel
theorem dX4_setTimes_132 : decode cX4_setTimes 132 = .ok (.aload 5, 2) := by decide +kernel
theorem dX4_setTimes_134 : decode cX4_setTimes 134 = .ok (.getfield 100, 3) := by decide +kernel
theorem dX4_setTimes_137 : decode cX4_setTimes 137 = .ok (.iload 6, 2) := by decide +kernel
theorem dX4_setTimes_139 : decode cX4_setTimes 139 = .ok (.iaload, 1) := by decide +kernel
theorem dX4_setTimes_140 : decode cX4_setTimes 140 = .ok (.istore 7, 2) := by decide +kernel
theorem dX4_setTimes_142 : decode cX4_setTimes 142 = .ok (.iload 7, 2) := by decide +kernel
theorem dX4_setTimes_144 : decode cX4_setTimes 144 = .ok (.iload_n 3, 1) := by decide +kernel
theorem dX4_setTimes_145 : decode cX4_setTimes 145 = .ok (.if_icmp .ge 51, 3) := by decide +kernel
theorem dX4_setTimes_148 : decode cX4_setTimes 148 = .ok (.aload_n 0, 1) := by decide +kernel
theorem dX4_setTimes_149 : decode cX4_setTimes 149 = .ok (.getfield 21, 3) := by decide +kernel
theorem dX4_setTimes_152 : decode cX4_setTimes 152 = .ok (.iload 4, 2) := by decide +kernel
theorem dX4_setTimes_154 : decode cX4_setTimes 154 = .ok (.iload 7, 2) := by decide +kernel
theorem dX4_setTimes_156 : decode cX4_setTimes 156 = .ok (.iadd, 1) := by decide +kernel
theorem dX4_setTimes_157 : decode cX4_setTimes 157 = .ok (.dup2, 1) := by decide +kernel
theorem dX4_setTimes_158 : decode cX4_setTimes 158 = .ok (.iaload, 1) := by decide +kernel
theorem dX4_setTimes_159 : decode cX4_setTimes 159 = .ok (.aload 5, 2) := by decide +kernel
theorem dX4_setTimes_161 : decode cX4_setTimes 161 = .ok (.getfield 103, 3) := by decide +kernel
theorem dX4_setTimes_164 : decode cX4_setTimes 164 = .ok (.iload 6, 2) := by decide +kernel
theorem dX4_setTimes_166 : decode cX4_setTimes 166 = .ok (.iaload, 1) := by decide +kernel
theorem dX4_setTimes_167 : decode cX4_setTimes 167 = .ok (.iadd, 1) := by decide +kernel
theorem dX4_setTimes_168 : decode cX4_setTimes 168 = .ok (.iastore, 1) := by decide +kernel
theorem dX4_setTimes_169 : decode cX4_setTimes 169 = .ok (.aload_n 0, 1) := by decide +kernel
theorem dX4_setTimes_170 : decode cX4_setTimes 170 = .ok (.getfield 24, 3) := by decide +kernel
theorem dX4_setTimes_173 : decode cX4_setTimes 173 = .ok (.iload 4, 2) := by decide +kernel
theorem dX4_setTimes_175 : decode cX4_setTimes 175 = .ok (.iload 7, 2) := by decide +kernel
theorem dX4_setTimes_177 : decode cX4_setTimes 177 = .ok (.iadd, 1) := by decide +kernel
theorem dX4_setTimes_178 : decode cX4_setTimes 178 = .ok (.dup2, 1) := by decide +kernel
theorem dX4_setTimes_179 : decode cX4_setTimes 179 = .ok (.iaload, 1) := by decide +kernel
theorem dX4_setTimes_180 : decode cX4_setTimes 180 = .ok (.aload 5, 2) := by decide +kernel
theorem dX4_setTimes_182 : decode cX4_setTimes 182 = .ok (.getfield 103, 3) := by decide +kernel
theorem dX4_setTimes_185 : decode cX4_setTimes 185 = .ok (.iload 6, 2) := by decide +kernel
theorem dX4_setTimes_187 : decode cX4_setTimes 187 = .ok (.iaload, 1) := by decide +kernel
theorem dX4_setTimes_188 : decode cX4_setTimes 188 = .ok (.iadd, 1) := by decide +kernel
theorem dX4_setTimes_189 : decode cX4_setTimes 189 = .ok (.iastore, 1) := by decide +kernel
theorem dX4_setTimes_190 : decode cX4_setTimes 190 = .ok (.iinc 7 1, 3) := by decide +kernel
theorem dX4_setTimes_193 : decode cX4_setTimes 193 = .ok (.goto (-51), 3) := by decide +kernel
theorem dX4_setTimes_196 : decode cX4_setTimes 196 = .ok (.iinc 6 1, 3) := by decide +kernel
theorem dX4_setTimes_199 : decode cX4_setTimes 199 = .ok (.goto (-101), 3) := by decide +kernel
theorem dX4_setTimes_202 : decode cX4_setTimes 202 = .ok (.return_, 1) := by decide +kernel
theorem dX5_init_0 : decode cX5_init 0 = .ok (.aload_n 0, 1) := by decide +kernel
theorem dX5_init_1 : decode cX5_init 1 = .ok (.invokespecial 3, 3) := by decide +kernel
theorem dX5_init_4 : decode cX5_init 4 = .ok (.aload_n 0, 1) := by decide +kernel
theorem dX5_init_5 : decode cX5_init 5 = .ok (.sipush 696, 3) := by decide +kernel
theorem dX5_init_8 : decode cX5_init 8 = .ok (.newarray .int, 2) := by decide +kernel
theorem dX5_init_10 : decode cX5_init 10 = .ok (.putfield 9, 3) := by decide +kernel
theorem dX5_init_13 : decode cX5_init 13 = .ok (.aload_n 0, 1) := by decide +kernel
theorem dX5_init_14 : decode cX5_init 14 = .ok (.sipush 360, 3) := by decide +kernel
theorem dX5_init_17 : decode cX5_init 17 = .ok (.newarray .int, 2) := by decide +kernel
theorem dX5_init_19 : decode cX5_init 19 = .ok (.putfield 15, 3) := by decide +kernel
theorem dX5_init_22 : decode cX5_init 22 = .ok (.aload_n 0, 1) := by decide +kernel
theorem dX5_init_23 : decode cX5_init 23 = .ok (.bipush 12, 2) := by decide +kernel
theorem dX5_init_25 : decode cX5_init 25 = .ok (.newarray .int, 2) := by decide +kernel
theorem dX5_init_27 : decode cX5_init 27 = .ok (.putfield 18, 3) := by decide +kernel
theorem dX5_init_30 : decode cX5_init 30 = .ok (.aload_n 0, 1) := by decide +kernel
theorem dX5_init_31 : decode cX5_init 31 = .ok (.bipush 12, 2) := by decide +kernel
theorem dX5_init_33 : decode cX5_init 33 = .ok (.newarray .int, 2) := by decide +kernel
theorem dX5_init_35 : decode cX5_init 35 = .ok (.putfield 21, 3) := by decide +kernel
theorem dX5_init_38 : decode cX5_init 38 = .ok (.aload_n 0, 1) := by decide +kernel
theorem dX5_init_39 : decode cX5_init 39 = .ok (.iconst 4, 1) := by decide +kernel
theorem dX5_init_40 : decode cX5_init 40 = .ok (.newarray .int, 2) := by decide +kernel
theorem dX5_init_42 : decode cX5_init 42 = .ok (.putfield 24, 3) := by decide +kernel
theorem dX5_init_45 : decode cX5_init 45 = .ok (.aload_n 0, 1) := by decide +kernel
theorem dX5_init_46 : decode cX5_init 46 = .ok (.aload_n 1, 1) := by decide +kernel
theorem dX5_init_47 : decode cX5_init 47 = .ok (.putfield 27, 3) := by decide +kernel
theorem dX5_init_50 : decode cX5_init 50 = .ok (.aload_n 0, 1) := by decide +kernel
theorem dX5_init_51 : decode cX5_init 51 = .ok (.aload_n 2, 1) := by decide +kernel
theorem dX5_init_52 : decode cX5_init 52 = .ok (.putfield 31, 3) := by decide +kernel
theorem dX5_init_55 : decode cX5_init 55 = .ok (.aload_n 0, 1) := by decide +kernel
theorem dX5_init_56 : decode cX5_init 56 = .ok (.aload_n 3, 1) := by decide +kernel
theorem dX5_init_57 : decode cX5_init 57 = .ok (.putfield 35, 3) := by decide +kernel
theorem dX5_init_60 : decode cX5_init 60 = .ok (.aload_n 0, 1) := by decide +kernel
theorem dX5_init_61 : decode cX5_init 61 = .ok (.aload 4, 2) := by decide +kernel
theorem dX5_init_63 : decode cX5_init 63 = .ok (.putfield 39, 3) := by decide +kernel
theorem dX5_init_66 : decode cX5_init 66 = .ok (.return_, 1) := by decide +kernel
theorem dX5_ask_0 : decode cX5_ask 0 = .ok (.aload_n 0, 1) := by decide +kernel
theorem dX5_ask_1 : decode cX5_ask 1 = .ok (.iload_n 2, 1) := by decide +kernel
theorem dX5_ask_2 : decode cX5_ask 2 = .ok (.putfield 43, 3) := by decide +kernel
theorem dX5_ask_5 : decode cX5_ask 5 = .ok (.aload_n 0, 1) := by decide +kernel
theorem dX5_ask_6 : decode cX5_ask 6 = .ok (.iload_n 3, 1) := by decide +kernel
theorem dX5_ask_7 : decode cX5_ask 7 = .ok (.putfield 47, 3) := by decide +kernel
theorem dX5_ask_10 : decode cX5_ask 10 = .ok (.aload_n 0, 1) := by decide +kernel
theorem dX5_ask_11 : decode cX5_ask 11 = .ok (.getfield 9, 3) := by decide +kernel
theorem dX5_ask_14 : decode cX5_ask 14 = .ok (.ldc 50, 2) := by decide +kernel
theorem dX5_ask_16 : decode cX5_ask 16 = .ok (.invokestatic 51, 3) := by decide +kernel
theorem dX5_ask_19 : decode cX5_ask 19 = .ok (.aload_n 0, 1) := by decide +kernel
theorem dX5_ask_20 : decode cX5_ask 20 = .ok (.getfield 15, 3) := by decide +kernel
theorem dX5_ask_23 : decode cX5_ask 23 = .ok (.ldc 50, 2) := by decide +kernel
theorem dX5_ask_25 : decode cX5_ask 25 = .ok (.invokestatic 51, 3) := by decide +kernel
theorem dX5_ask_28 : decode cX5_ask 28 = .ok (.aload_n 0, 1) := by decide +kernel
theorem dX5_ask_29 : decode cX5_ask 29 = .ok (.getfield 9, 3) := by decide +kernel
theorem dX5_ask_32 : decode cX5_ask 32 = .ok (.iload_n 1, 1) := by decide +kernel
theorem dX5_ask_33 : decode cX5_ask 33 = .ok (.iload_n 2, 1) := by decide +kernel
theorem dX5_ask_34 : decode cX5_ask 34 = .ok (.iastore, 1) := by decide +kernel
theorem dX5_ask_35 : decode cX5_ask 35 = .ok (.iconst 1, 1) := by decide +kernel
theorem dX5_ask_36 : decode cX5_ask 36 = .ok (.istore 4, 2) := by decide +kernel
theorem dX5_ask_38 : decode cX5_ask 38 = .ok (.iload 4, 2) := by decide +kernel
