theorem dX10_endsAt_12 : decode cX10_endsAt 12 = .ok (.iload_n 1, 1) := by decide +kernel
theorem dX10_endsAt_13 : decode cX10_endsAt 13 = .ok (.iload_n 2, 1) := by decide +kernel
theorem dX10_endsAt_14 : decode cX10_endsAt 14 = .ok (.iload_n 3, 1) := by decide +kernel
theorem dX10_endsAt_15 : decode cX10_endsAt 15 = .ok (.invokevirtual 45, 3) := by decide +kernel
theorem dX10_endsAt_18 : decode cX10_endsAt 18 = .ok (.aload_n 0, 1) := by decide +kernel
theorem dX10_endsAt_19 : decode cX10_endsAt 19 = .ok (.getfield 18, 3) := by decide +kernel
theorem dX10_endsAt_22 : decode cX10_endsAt 22 = .ok (.iload_n 1, 1) := by decide +kernel
theorem dX10_endsAt_23 : decode cX10_endsAt 23 = .ok (.iaload, 1) := by decide +kernel
theorem dX10_endsAt_24 : decode cX10_endsAt 24 = .ok (.iadd, 1) := by decide +kernel
theorem dX10_endsAt_25 : decode cX10_endsAt 25 = .ok (.ireturn, 1) := by decide +kernel
theorem dX10_nextBeginning_0 : decode cX10_nextBeginning 0 = .ok (.iload_n 2, 1) := by decide +kernel
theorem dX10_nextBeginning_1 : decode cX10_nextBeginning 1 = .ok (.sipush 1440, 3) := by decide +kernel
theorem dX10_nextBeginning_4 : decode cX10_nextBeginning 4 = .ok (.irem, 1) := by decide +kernel
theorem dX10_nextBeginning_5 : decode cX10_nextBeginning 5 = .ok (.istore_n 3, 1) := by decide +kernel
theorem dX10_nextBeginning_6 : decode cX10_nextBeginning 6 = .ok (.iload_n 2, 1) := by decide +kernel
theorem dX10_nextBeginning_7 : decode cX10_nextBeginning 7 = .ok (.iload_n 3, 1) := by decide +kernel
theorem dX10_nextBeginning_8 : decode cX10_nextBeginning 8 = .ok (.isub, 1) := by decide +kernel
theorem dX10_nextBeginning_9 : decode cX10_nextBeginning 9 = .ok (.istore 4, 2) := by decide +kernel
theorem dX10_nextBeginning_11 : decode cX10_nextBeginning 11 = .ok (.iload_n 3, 1) := by decide +kernel
theorem dX10_nextBeginning_12 : decode cX10_nextBeginning 12 = .ok (.aload_n 0, 1) := by decide +kernel
theorem dX10_nextBeginning_13 : decode cX10_nextBeginning 13 = .ok (.getfield 24, 3) := by decide +kernel
theorem dX10_nextBeginning_16 : decode cX10_nextBeginning 16 = .ok (.iload_n 1, 1) := by decide +kernel
theorem dX10_nextBeginning_17 : decode cX10_nextBeginning 17 = .ok (.iaload, 1) := by decide +kernel
theorem dX10_nextBeginning_18 : decode cX10_nextBeginning 18 = .ok (.if_icmp .gt 13, 3) := by decide +kernel
theorem dX10_nextBeginning_21 : decode cX10_nextBeginning 21 = .ok (.iload 4, 2) := by decide +kernel
theorem dX10_nextBeginning_23 : decode cX10_nextBeginning 23 = .ok (.aload_n 0, 1) := by decide +kernel
theorem dX10_nextBeginning_24 : decode cX10_nextBeginning 24 = .ok (.getfield 24, 3) := by decide +kernel
theorem dX10_nextBeginning_27 : decode cX10_nextBeginning 27 = .ok (.iload_n 1, 1) := by decide +kernel
theorem dX10_nextBeginning_28 : decode cX10_nextBeginning 28 = .ok (.iaload, 1) := by decide +kernel
theorem dX10_nextBeginning_29 : decode cX10_nextBeginning 29 = .ok (.iadd, 1) := by decide +kernel
theorem dX10_nextBeginning_30 : decode cX10_nextBeginning 30 = .ok (.ireturn, 1) := by decide +kernel
theorem dX10_nextBeginning_31 : decode cX10_nextBeginning 31 = .ok (.aload_n 0, 1) := by decide +kernel
theorem dX10_nextBeginning_32 : decode cX10_nextBeginning 32 = .ok (.getfield 30, 3) := by decide +kernel
theorem dX10_nextBeginning_35 : decode cX10_nextBeginning 35 = .ok (.iload_n 1, 1) := by decide +kernel
theorem dX10_nextBeginning_36 : decode cX10_nextBeginning 36 = .ok (.iaload, 1) := by decide +kernel
theorem dX10_nextBeginning_37 : decode cX10_nextBeginning 37 = .ok (.iconst 1, 1) := by decide +kernel
theorem dX10_nextBeginning_38 : decode cX10_nextBeginning 38 = .ok (.if_icmp .ge 9, 3) := by decide +kernel
theorem dX10_nextBeginning_41 : decode cX10_nextBeginning 41 = .ok (.sipush 1440, 3) := by decide +kernel
theorem dX10_nextBeginning_44 : decode cX10_nextBeginning 44 = .ok (.goto 9, 3) := by decide +kernel
theorem dX10_nextBeginning_47 : decode cX10_nextBeginning 47 = .ok (.aload_n 0, 1) := by decide +kernel
theorem dX10_nextBeginning_48 : decode cX10_nextBeginning 48 = .ok (.getfield 30, 3) := by decide +kernel
theorem dX10_nextBeginning_51 : decode cX10_nextBeginning 51 = .ok (.iload_n 1, 1) := by decide +kernel
theorem dX10_nextBeginning_52 : decode cX10_nextBeginning 52 = .ok (.iaload, 1) := by decide +kernel
theorem dX10_nextBeginning_53 : decode cX10_nextBeginning 53 = .ok (.istore 5, 2) := by decide +kernel
theorem dX10_nextBeginning_55 : decode cX10_nextBeginning 55 = .ok (.aload_n 0, 1) := by decide +kernel
theorem dX10_nextBeginning_56 : decode cX10_nextBeginning 56 = .ok (.getfield 24, 3) := by decide +kernel
theorem dX10_nextBeginning_59 : decode cX10_nextBeginning 59 = .ok (.iload_n 1, 1) := by decide +kernel
theorem dX10_nextBeginning_60 : decode cX10_nextBeginning 60 = .ok (.iaload, 1) := by decide +kernel
theorem dX10_nextBeginning_61 : decode cX10_nextBeginning 61 = .ok (.iload_n 3, 1) := by decide +kernel
theorem dX10_nextBeginning_62 : decode cX10_nextBeginning 62 = .ok (.aload_n 0, 1) := by decide +kernel
theorem dX10_nextBeginning_63 : decode cX10_nextBeginning 63 = .ok (.getfield 24, 3) := by decide +kernel
theorem dX10_nextBeginning_66 : decode cX10_nextBeginning 66 = .ok (.iload_n 1, 1) := by decide +kernel
theorem dX10_nextBeginning_67 : decode cX10_nextBeginning 67 = .ok (.iaload, 1) := by decide +kernel
theorem dX10_nextBeginning_68 : decode cX10_nextBeginning 68 = .ok (.isub, 1) := by decide +kernel
theorem dX10_nextBeginning_69 : decode cX10_nextBeginning 69 = .ok (.iload 5, 2) := by decide +kernel
theorem dX10_nextBeginning_71 : decode cX10_nextBeginning 71 = .ok (.iadd, 1) := by decide +kernel
theorem dX10_nextBeginning_72 : decode cX10_nextBeginning 72 = .ok (.iconst 1, 1) := by decide +kernel
theorem dX10_nextBeginning_73 : decode cX10_nextBeginning 73 = .ok (.isub, 1) := by decide +kernel
theorem dX10_nextBeginning_74 : decode cX10_nextBeginning 74 = .ok (.iload 5, 2) := by decide +kernel
theorem dX10_nextBeginning_76 : decode cX10_nextBeginning 76 = .ok (.idiv, 1) := by decide +kernel
theorem dX10_nextBeginning_77 : decode cX10_nextBeginning 77 = .ok (.iload 5, 2) := by decide +kernel
theorem dX10_nextBeginning_79 : decode cX10_nextBeginning 79 = .ok (.imul, 1) := by decide +kernel
theorem dX10_nextBeginning_80 : decode cX10_nextBeginning 80 = .ok (.iadd, 1) := by decide +kernel
theorem dX10_nextBeginning_81 : decode cX10_nextBeginning 81 = .ok (.istore 6, 2) := by decide +kernel
theorem dX10_nextBeginning_83 : decode cX10_nextBeginning 83 = .ok (.iload 6, 2) := by decide +kernel
theorem dX10_nextBeginning_85 : decode cX10_nextBeginning 85 = .ok (.aload_n 0, 1) := by decide +kernel
theorem dX10_nextBeginning_86 : decode cX10_nextBeginning 86 = .ok (.getfield 27, 3) := by decide +kernel
theorem dX10_nextBeginning_89 : decode cX10_nextBeginning 89 = .ok (.iload_n 1, 1) := by decide +kernel
theorem dX10_nextBeginning_90 : decode cX10_nextBeginning 90 = .ok (.iaload, 1) := by decide +kernel
theorem dX10_nextBeginning_91 : decode cX10_nextBeginning 91 = .ok (.if_icmp .gt 11, 3) := by decide +kernel
theorem dX10_nextBeginning_94 : decode cX10_nextBeginning 94 = .ok (.iload 4, 2) := by decide +kernel
theorem dX10_nextBeginning_96 : decode cX10_nextBeginning 96 = .ok (.iload 6, 2) := by decide +kernel
theorem dX10_nextBeginning_98 : decode cX10_nextBeginning 98 = .ok (.iadd, 1) := by decide +kernel
theorem dX10_nextBeginning_99 : decode cX10_nextBeginning 99 = .ok (.goto 16, 3) := by decide +kernel
theorem dX10_nextBeginning_102 : decode cX10_nextBeginning 102 = .ok (.iload 4, 2) := by decide +kernel
theorem dX10_nextBeginning_104 : decode cX10_nextBeginning 104 = .ok (.sipush 1440, 3) := by decide +kernel
theorem dX10_nextBeginning_107 : decode cX10_nextBeginning 107 = .ok (.iadd, 1) := by decide +kernel
theorem dX10_nextBeginning_108 : decode cX10_nextBeginning 108 = .ok (.aload_n 0, 1) := by decide +kernel
theorem dX10_nextBeginning_109 : decode cX10_nextBeginning 109 = .ok (.getfield 24, 3) := by decide +kernel
theorem dX10_nextBeginning_112 : decode cX10_nextBeginning 112 = .ok (.iload_n 1, 1) := by decide +kernel
theorem dX10_nextBeginning_113 : decode cX10_nextBeginning 113 = .ok (.iaload, 1) := by decide +kernel
theorem dX10_nextBeginning_114 : decode cX10_nextBeginning 114 = .ok (.iadd, 1) := by decide +kernel
theorem dX10_nextBeginning_115 : decode cX10_nextBeginning 115 = .ok (.ireturn, 1) := by decide +kernel
theorem dX11_init_0 : decode cX11_init 0 = .ok (.aload_n 0, 1) := by decide +kernel
theorem dX11_init_1 : decode cX11_init 1 = .ok (.invokespecial 3, 3) := by decide +kernel
theorem dX11_init_4 : decode cX11_init 4 = .ok (.aload_n 0, 1) := by decide +kernel
theorem dX11_init_5 : decode cX11_init 5 = .ok (.new 9, 3) := by decide +kernel
theorem dX11_init_8 : decode cX11_init 8 = .ok (.dup, 1) := by decide +kernel
theorem dX11_init_9 : decode cX11_init 9 = .ok (.invokespecial 11, 3) := by decide +kernel
theorem dX11_init_12 : decode cX11_init 12 = .ok (.putfield 12, 3) := by decide +kernel
theorem dX11_init_15 : decode cX11_init 15 = .ok (.aload_n 0, 1) := by decide +kernel
theorem dX11_init_16 : decode cX11_init 16 = .ok (.new 16, 3) := by decide +kernel
theorem dX11_init_19 : decode cX11_init 19 = .ok (.dup, 1) := by decide +kernel
theorem dX11_init_20 : decode cX11_init 20 = .ok (.invokespecial 18, 3) := by decide +kernel
theorem dX11_init_23 : decode cX11_init 23 = .ok (.putfield 19, 3) := by decide +kernel
theorem dX11_init_26 : decode cX11_init 26 = .ok (.aload_n 0, 1) := by decide +kernel
theorem dX11_init_27 : decode cX11_init 27 = .ok (.new 23, 3) := by decide +kernel
theorem dX11_init_30 : decode cX11_init 30 = .ok (.dup, 1) := by decide +kernel
theorem dX11_init_31 : decode cX11_init 31 = .ok (.invokespecial 25, 3) := by decide +kernel
theorem dX11_init_34 : decode cX11_init 34 = .ok (.putfield 26, 3) := by decide +kernel
theorem dX11_init_37 : decode cX11_init 37 = .ok (.aload_n 0, 1) := by decide +kernel
theorem dX11_init_38 : decode cX11_init 38 = .ok (.new 30, 3) := by decide +kernel
theorem dX11_init_41 : decode cX11_init 41 = .ok (.dup, 1) := by decide +kernel
theorem dX11_init_42 : decode cX11_init 42 = .ok (.invokespecial 32, 3) := by decide +kernel
theorem dX11_init_45 : decode cX11_init 45 = .ok (.putfield 33, 3) := by decide +kernel
theorem dX11_init_48 : decode cX11_init 48 = .ok (.aload_n 0, 1) := by decide +kernel
theorem dX11_init_49 : decode cX11_init 49 = .ok (.new 37, 3) := by decide +kernel
theorem dX11_init_52 : decode cX11_init 52 = .ok (.dup, 1) := by decide +kernel
theorem dX11_init_53 : decode cX11_init 53 = .ok (.aload_n 0, 1) := by decide +kernel
theorem dX11_init_54 : decode cX11_init 54 = .ok (.getfield 12, 3) := by decide +kernel
theorem dX11_init_57 : decode cX11_init 57 = .ok (.aload_n 0, 1) := by decide +kernel
theorem dX11_init_58 : decode cX11_init 58 = .ok (.getfield 19, 3) := by decide +kernel
theorem dX11_init_61 : decode cX11_init 61 = .ok (.aload_n 0, 1) := by decide +kernel
theorem dX11_init_62 : decode cX11_init 62 = .ok (.getfield 26, 3) := by decide +kernel
theorem dX11_init_65 : decode cX11_init 65 = .ok (.aload_n 0, 1) := by decide +kernel
theorem dX11_init_66 : decode cX11_init 66 = .ok (.getfield 33, 3) := by decide +kernel
theorem dX11_init_69 : decode cX11_init 69 = .ok (.invokespecial 39, 3) := by decide +kernel
theorem dX11_init_72 : decode cX11_init 72 = .ok (.putfield 42, 3) := by decide +kernel
theorem dX11_init_75 : decode cX11_init 75 = .ok (.aload_n 0, 1) := by decide +kernel
theorem dX11_init_76 : decode cX11_init 76 = .ok (.new 46, 3) := by decide +kernel
theorem dX11_init_79 : decode cX11_init 79 = .ok (.dup, 1) := by decide +kernel
theorem dX11_init_80 : decode cX11_init 80 = .ok (.aload_n 0, 1) := by decide +kernel
theorem dX11_init_81 : decode cX11_init 81 = .ok (.getfield 19, 3) := by decide +kernel
theorem dX11_init_84 : decode cX11_init 84 = .ok (.aload_n 0, 1) := by decide +kernel
theorem dX11_init_85 : decode cX11_init 85 = .ok (.getfield 33, 3) := by decide +kernel
theorem dX11_init_88 : decode cX11_init 88 = .ok (.invokespecial 48, 3) := by decide +kernel
theorem dX11_init_91 : decode cX11_init 91 = .ok (.putfield 51, 3) := by decide +kernel
theorem dX11_init_94 : decode cX11_init 94 = .ok (.aload_n 0, 1) := by decide +kernel
theorem dX11_init_95 : decode cX11_init 95 = .ok (.new 55, 3) := by decide +kernel
theorem dX11_init_98 : decode cX11_init 98 = .ok (.dup, 1) := by decide +kernel
theorem dX11_init_99 : decode cX11_init 99 = .ok (.aload_n 0, 1) := by decide +kernel
theorem dX11_init_100 : decode cX11_init 100 = .ok (.getfield 12, 3) := by decide +kernel
theorem dX11_init_103 : decode cX11_init 103 = .ok (.aload_n 0, 1) := by decide +kernel
theorem dX11_init_104 : decode cX11_init 104 = .ok (.getfield 19, 3) := by decide +kernel
theorem dX11_init_107 : decode cX11_init 107 = .ok (.aload_n 0, 1) := by decide +kernel
theorem dX11_init_108 : decode cX11_init 108 = .ok (.getfield 26, 3) := by decide +kernel
theorem dX11_init_111 : decode cX11_init 111 = .ok (.aload_n 0, 1) := by decide +kernel
theorem dX11_init_112 : decode cX11_init 112 = .ok (.getfield 51, 3) := by decide +kernel
theorem dX11_init_115 : decode cX11_init 115 = .ok (.invokespecial 57, 3) := by decide +kernel
theorem dX11_init_118 : decode cX11_init 118 = .ok (.putfield 60, 3) := by decide +kernel
theorem dX11_init_121 : decode cX11_init 121 = .ok (.aload_n 0, 1) := by decide +kernel
theorem dX11_init_122 : decode cX11_init 122 = .ok (.new 64, 3) := by decide +kernel
theorem dX11_init_125 : decode cX11_init 125 = .ok (.dup, 1) := by decide +kernel
theorem dX11_init_126 : decode cX11_init 126 = .ok (.aload_n 0, 1) := by decide +kernel
theorem dX11_init_127 : decode cX11_init 127 = .ok (.getfield 60, 3) := by decide +kernel
theorem dX11_init_130 : decode cX11_init 130 = .ok (.invokespecial 66, 3) := by decide +kernel
theorem dX11_init_133 : decode cX11_init 133 = .ok (.putfield 69, 3) := by decide +kernel
theorem dX11_init_136 : decode cX11_init 136 = .ok (.aload_n 0, 1) := by decide +kernel
theorem dX11_init_137 : decode cX11_init 137 = .ok (.new 73, 3) := by decide +kernel
theorem dX11_init_140 : decode cX11_init 140 = .ok (.dup, 1) := by decide +kernel
theorem dX11_init_141 : decode cX11_init 141 = .ok (.aload_n 0, 1) := by decide +kernel
theorem dX11_init_142 : decode cX11_init 142 = .ok (.getfield 19, 3) := by decide +kernel
theorem dX11_init_145 : decode cX11_init 145 = .ok (.invokespecial 75, 3) := by decide +kernel
theorem dX11_init_148 : decode cX11_init 148 = .ok (.putfield 78, 3) := by decide +kernel
theorem dX11_init_151 : decode cX11_init 151 = .ok (.aload_n 0, 1) := by decide +kernel
theorem dX11_init_152 : decode cX11_init 152 = .ok (.bipush 12, 2) := by decide +kernel
theorem dX11_init_154 : decode cX11_init 154 = .ok (.newarray .int, 2) := by decide +kernel
theorem dX11_init_156 : decode cX11_init 156 = .ok (.putfield 82, 3) := by decide +kernel
theorem dX11_init_159 : decode cX11_init 159 = .ok (.aload_n 0, 1) := by decide +kernel
theorem dX11_init_160 : decode cX11_init 160 = .ok (.iconst (-1), 1) := by decide +kernel
theorem dX11_init_161 : decode cX11_init 161 = .ok (.putfield 86, 3) := by decide +kernel
theorem dX11_init_164 : decode cX11_init 164 = .ok (.return_, 1) := by decide +kernel
theorem dX11_stop_0 : decode cX11_stop 0 = .ok (.iload_n 1, 1) := by decide +kernel
theorem dX11_stop_1 : decode cX11_stop 1 = .ok (.iconst 0, 1) := by decide +kernel
theorem dX11_stop_2 : decode cX11_stop 2 = .ok (.bipush 30, 2) := by decide +kernel
theorem dX11_stop_4 : decode cX11_stop 4 = .ok (.invokestatic 90, 3) := by decide +kernel
theorem dX11_stop_7 : decode cX11_stop 7 = .ok (.ifCond .eq 10, 3) := by decide +kernel
theorem dX11_stop_10 : decode cX11_stop 10 = .ok (.iload_n 2, 1) := by decide +kernel
theorem dX11_stop_11 : decode cX11_stop 11 = .ok (.invokestatic 94, 3) := by decide +kernel
theorem dX11_stop_14 : decode cX11_stop 14 = .ok (.ifCond .ne 6, 3) := by decide +kernel
theorem dX11_stop_17 : decode cX11_stop 17 = .ok (.bipush (-2), 2) := by decide +kernel
theorem dX11_stop_19 : decode cX11_stop 19 = .ok (.ireturn, 1) := by decide +kernel
theorem dX11_stop_20 : decode cX11_stop 20 = .ok (.aload_n 0, 1) := by decide +kernel
theorem dX11_stop_21 : decode cX11_stop 21 = .ok (.getfield 12, 3) := by decide +kernel
theorem dX11_stop_24 : decode cX11_stop 24 = .ok (.iload_n 1, 1) := by decide +kernel
theorem dX11_stop_25 : decode cX11_stop 25 = .ok (.iload_n 2, 1) := by decide +kernel
theorem dX11_stop_26 : decode cX11_stop 26 = .ok (.invokevirtual 98, 3) := by decide +kernel
theorem dX11_stop_29 : decode cX11_stop 29 = .ok (.ireturn, 1) := by decide +kernel
theorem dX11_fare_0 : decode cX11_fare 0 = .ok (.iload_n 1, 1) := by decide +kernel
theorem dX11_fare_1 : decode cX11_fare 1 = .ok (.invokestatic 94, 3) := by decide +kernel
theorem dX11_fare_4 : decode cX11_fare 4 = .ok (.ifCond .eq 20, 3) := by decide +kernel
theorem dX11_fare_7 : decode cX11_fare 7 = .ok (.iload_n 2, 1) := by decide +kernel
theorem dX11_fare_8 : decode cX11_fare 8 = .ok (.invokestatic 94, 3) := by decide +kernel
theorem dX11_fare_11 : decode cX11_fare 11 = .ok (.ifCond .eq 13, 3) := by decide +kernel
theorem dX11_fare_14 : decode cX11_fare 14 = .ok (.iload_n 3, 1) := by decide +kernel
theorem dX11_fare_15 : decode cX11_fare 15 = .ok (.iconst 0, 1) := by decide +kernel
theorem dX11_fare_16 : decode cX11_fare 16 = .ok (.bipush 9, 2) := by decide +kernel
theorem dX11_fare_18 : decode cX11_fare 18 = .ok (.invokestatic 90, 3) := by decide +kernel
theorem dX11_fare_21 : decode cX11_fare 21 = .ok (.ifCond .ne 6, 3) := by decide +kernel
theorem dX11_fare_24 : decode cX11_fare 24 = .ok (.bipush (-2), 2) := by decide +kernel
theorem dX11_fare_26 : decode cX11_fare 26 = .ok (.ireturn, 1) := by decide +kernel
theorem dX11_fare_27 : decode cX11_fare 27 = .ok (.aload_n 0, 1) := by decide +kernel
theorem dX11_fare_28 : decode cX11_fare 28 = .ok (.getfield 12, 3) := by decide +kernel
theorem dX11_fare_31 : decode cX11_fare 31 = .ok (.iload_n 1, 1) := by decide +kernel
theorem dX11_fare_32 : decode cX11_fare 32 = .ok (.iload_n 2, 1) := by decide +kernel
theorem dX11_fare_33 : decode cX11_fare 33 = .ok (.iload_n 3, 1) := by decide +kernel
theorem dX11_fare_34 : decode cX11_fare 34 = .ok (.invokevirtual 102, 3) := by decide +kernel
theorem dX11_fare_37 : decode cX11_fare 37 = .ok (.ireturn, 1) := by decide +kernel
theorem dX11_day_0 : decode cX11_day 0 = .ok (.iload_n 1, 1) := by decide +kernel
theorem dX11_day_1 : decode cX11_day 1 = .ok (.invokestatic 106, 3) := by decide +kernel
theorem dX11_day_4 : decode cX11_day 4 = .ok (.ifCond .eq 13, 3) := by decide +kernel
theorem dX11_day_7 : decode cX11_day 7 = .ok (.iload_n 2, 1) := by decide +kernel
theorem dX11_day_8 : decode cX11_day 8 = .ok (.iconst 0, 1) := by decide +kernel
theorem dX11_day_9 : decode cX11_day 9 = .ok (.bipush 6, 2) := by decide +kernel
theorem dX11_day_11 : decode cX11_day 11 = .ok (.invokestatic 90, 3) := by decide +kernel
theorem dX11_day_14 : decode cX11_day 14 = .ok (.ifCond .ne 6, 3) := by decide +kernel
theorem dX11_day_17 : decode cX11_day 17 = .ok (.bipush (-2), 2) := by decide +kernel
theorem dX11_day_19 : decode cX11_day 19 = .ok (.ireturn, 1) := by decide +kernel
theorem dX11_day_20 : decode cX11_day 20 = .ok (.aload_n 0, 1) := by decide +kernel
theorem dX11_day_21 : decode cX11_day 21 = .ok (.getfield 19, 3) := by decide +kernel
theorem dX11_day_24 : decode cX11_day 24 = .ok (.getfield 109, 3) := by decide +kernel
theorem dX11_day_27 : decode cX11_day 27 = .ok (.iload_n 1, 1) := by decide +kernel
theorem dX11_day_28 : decode cX11_day 28 = .ok (.iaload, 1) := by decide +kernel
theorem dX11_day_29 : decode cX11_day 29 = .ok (.istore_n 3, 1) := by decide +kernel
theorem dX11_day_30 : decode cX11_day 30 = .ok (.aload_n 0, 1) := by decide +kernel
theorem dX11_day_31 : decode cX11_day 31 = .ok (.getfield 19, 3) := by decide +kernel
theorem dX11_day_34 : decode cX11_day 34 = .ok (.getfield 109, 3) := by decide +kernel
theorem dX11_day_37 : decode cX11_day 37 = .ok (.iload_n 1, 1) := by decide +kernel
theorem dX11_day_38 : decode cX11_day 38 = .ok (.iload_n 2, 1) := by decide +kernel
theorem dX11_day_39 : decode cX11_day 39 = .ok (.iastore, 1) := by decide +kernel
theorem dX11_day_40 : decode cX11_day 40 = .ok (.iload_n 3, 1) := by decide +kernel
theorem dX11_day_41 : decode cX11_day 41 = .ok (.ireturn, 1) := by decide +kernel
theorem dX11_trip_0 : decode cX11_trip 0 = .ok (.iload_n 1, 1) := by decide +kernel
theorem dX11_trip_1 : decode cX11_trip 1 = .ok (.iconst 0, 1) := by decide +kernel
theorem dX11_trip_2 : decode cX11_trip 2 = .ok (.iconst 2, 1) := by decide +kernel
theorem dX11_trip_3 : decode cX11_trip 3 = .ok (.invokestatic 90, 3) := by decide +kernel
theorem dX11_trip_6 : decode cX11_trip 6 = .ok (.ifCond .eq 13, 3) := by decide +kernel
theorem dX11_trip_9 : decode cX11_trip 9 = .ok (.iload_n 2, 1) := by decide +kernel
theorem dX11_trip_10 : decode cX11_trip 10 = .ok (.iconst 1, 1) := by decide +kernel
theorem dX11_trip_11 : decode cX11_trip 11 = .ok (.bipush 127, 2) := by decide +kernel
theorem dX11_trip_13 : decode cX11_trip 13 = .ok (.invokestatic 90, 3) := by decide +kernel
theorem dX11_trip_16 : decode cX11_trip 16 = .ok (.ifCond .ne 6, 3) := by decide +kernel
theorem dX11_trip_19 : decode cX11_trip 19 = .ok (.bipush (-2), 2) := by decide +kernel
theorem dX11_trip_21 : decode cX11_trip 21 = .ok (.ireturn, 1) := by decide +kernel
theorem dX11_trip_22 : decode cX11_trip 22 = .ok (.iload_n 1, 1) := by decide +kernel
theorem dX11_trip_23 : decode cX11_trip 23 = .ok (.ifCond .ne 15, 3) := by decide +kernel
theorem dX11_trip_26 : decode cX11_trip 26 = .ok (.iload_n 3, 1) := by decide +kernel
theorem dX11_trip_27 : decode cX11_trip 27 = .ok (.ifCond .ne 7, 3) := by decide +kernel
theorem dX11_trip_30 : decode cX11_trip 30 = .ok (.iconst 1, 1) := by decide +kernel
theorem dX11_trip_31 : decode cX11_trip 31 = .ok (.goto 14, 3) := by decide +kernel
theorem dX11_trip_34 : decode cX11_trip 34 = .ok (.iconst 0, 1) := by decide +kernel
theorem dX11_trip_35 : decode cX11_trip 35 = .ok (.goto 10, 3) := by decide +kernel
theorem dX11_trip_38 : decode cX11_trip 38 = .ok (.iload_n 3, 1) := by decide +kernel
theorem dX11_trip_39 : decode cX11_trip 39 = .ok (.iconst 1, 1) := by decide +kernel
theorem dX11_trip_40 : decode cX11_trip 40 = .ok (.bipush 50, 2) := by decide +kernel
theorem dX11_trip_42 : decode cX11_trip 42 = .ok (.invokestatic 90, 3) := by decide +kernel
theorem dX11_trip_45 : decode cX11_trip 45 = .ok (.istore 4, 2) := by decide +kernel
theorem dX11_trip_47 : decode cX11_trip 47 = .ok (.iload 4, 2) := by decide +kernel
theorem dX11_trip_49 : decode cX11_trip 49 = .ok (.ifCond .eq 16, 3) := by decide +kernel
theorem dX11_trip_52 : decode cX11_trip 52 = .ok (.aload_n 0, 1) := by decide +kernel
theorem dX11_trip_53 : decode cX11_trip 53 = .ok (.getfield 19, 3) := by decide +kernel
theorem dX11_trip_56 : decode cX11_trip 56 = .ok (.iload_n 1, 1) := by decide +kernel
theorem dX11_trip_57 : decode cX11_trip 57 = .ok (.iload_n 2, 1) := by decide +kernel
theorem dX11_trip_58 : decode cX11_trip 58 = .ok (.iload_n 3, 1) := by decide +kernel
theorem dX11_trip_59 : decode cX11_trip 59 = .ok (.invokevirtual 112, 3) := by decide +kernel
theorem dX11_trip_62 : decode cX11_trip 62 = .ok (.goto 5, 3) := by decide +kernel
theorem dX11_trip_65 : decode cX11_trip 65 = .ok (.bipush (-2), 2) := by decide +kernel
theorem dX11_trip_67 : decode cX11_trip 67 = .ok (.ireturn, 1) := by decide +kernel
theorem dX11_call_0 : decode cX11_call 0 = .ok (.aload_n 0, 1) := by decide +kernel
theorem dX11_call_1 : decode cX11_call 1 = .ok (.getfield 19, 3) := by decide +kernel
theorem dX11_call_4 : decode cX11_call 4 = .ok (.iload_n 1, 1) := by decide +kernel
theorem dX11_call_5 : decode cX11_call 5 = .ok (.invokevirtual 114, 3) := by decide +kernel
theorem dX11_call_8 : decode cX11_call 8 = .ok (.ifCond .eq 14, 3) := by decide +kernel
theorem dX11_call_11 : decode cX11_call 11 = .ok (.aload_n 0, 1) := by decide +kernel
theorem dX11_call_12 : decode cX11_call 12 = .ok (.getfield 12, 3) := by decide +kernel
theorem dX11_call_15 : decode cX11_call 15 = .ok (.iload_n 2, 1) := by decide +kernel
theorem dX11_call_16 : decode cX11_call 16 = .ok (.invokevirtual 117, 3) := by decide +kernel
theorem dX11_call_19 : decode cX11_call 19 = .ok (.ifCond .ne 6, 3) := by decide +kernel
theorem dX11_call_22 : decode cX11_call 22 = .ok (.bipush (-2), 2) := by decide +kernel
theorem dX11_call_24 : decode cX11_call 24 = .ok (.ireturn, 1) := by decide +kernel
theorem dX11_call_25 : decode cX11_call 25 = .ok (.aload_n 0, 1) := by decide +kernel
theorem dX11_call_26 : decode cX11_call 26 = .ok (.getfield 19, 3) := by decide +kernel
theorem dX11_call_29 : decode cX11_call 29 = .ok (.iload_n 1, 1) := by decide +kernel
theorem dX11_call_30 : decode cX11_call 30 = .ok (.iload_n 2, 1) := by decide +kernel
theorem dX11_call_31 : decode cX11_call 31 = .ok (.iload_n 3, 1) := by decide +kernel
theorem dX11_call_32 : decode cX11_call 32 = .ok (.iload 4, 2) := by decide +kernel
theorem dX11_call_34 : decode cX11_call 34 = .ok (.invokevirtual 118, 3) := by decide +kernel
theorem dX11_call_37 : decode cX11_call 37 = .ok (.ireturn, 1) := by decide +kernel
theorem dX11_miss_0 : decode cX11_miss 0 = .ok (.aload_n 0, 1) := by decide +kernel
theorem dX11_miss_1 : decode cX11_miss 1 = .ok (.getfield 19, 3) := by decide +kernel
theorem dX11_miss_4 : decode cX11_miss 4 = .ok (.iload_n 1, 1) := by decide +kernel
theorem dX11_miss_5 : decode cX11_miss 5 = .ok (.iload_n 2, 1) := by decide +kernel
theorem dX11_miss_6 : decode cX11_miss 6 = .ok (.invokevirtual 122, 3) := by decide +kernel
theorem dX11_miss_9 : decode cX11_miss 9 = .ok (.ifCond .eq 16, 3) := by decide +kernel
theorem dX11_miss_12 : decode cX11_miss 12 = .ok (.aload_n 0, 1) := by decide +kernel
theorem dX11_miss_13 : decode cX11_miss 13 = .ok (.getfield 19, 3) := by decide +kernel
theorem dX11_miss_16 : decode cX11_miss 16 = .ok (.iload_n 1, 1) := by decide +kernel
theorem dX11_miss_17 : decode cX11_miss 17 = .ok (.iload_n 2, 1) := by decide +kernel
theorem dX11_miss_18 : decode cX11_miss 18 = .ok (.iload_n 3, 1) := by decide +kernel
theorem dX11_miss_19 : decode cX11_miss 19 = .ok (.invokevirtual 126, 3) := by decide +kernel
theorem dX11_miss_22 : decode cX11_miss 22 = .ok (.goto 5, 3) := by decide +kernel
theorem dX11_miss_25 : decode cX11_miss 25 = .ok (.bipush (-2), 2) := by decide +kernel
theorem dX11_miss_27 : decode cX11_miss 27 = .ok (.ireturn, 1) := by decide +kernel
theorem dX11_walk_0 : decode cX11_walk 0 = .ok (.aload_n 0, 1) := by decide +kernel
theorem dX11_walk_1 : decode cX11_walk 1 = .ok (.getfield 12, 3) := by decide +kernel
theorem dX11_walk_4 : decode cX11_walk 4 = .ok (.iload_n 1, 1) := by decide +kernel
theorem dX11_walk_5 : decode cX11_walk 5 = .ok (.invokevirtual 117, 3) := by decide +kernel
theorem dX11_walk_8 : decode cX11_walk 8 = .ok (.ifCond .eq 30, 3) := by decide +kernel
theorem dX11_walk_11 : decode cX11_walk 11 = .ok (.aload_n 0, 1) := by decide +kernel
theorem dX11_walk_12 : decode cX11_walk 12 = .ok (.getfield 12, 3) := by decide +kernel
theorem dX11_walk_15 : decode cX11_walk 15 = .ok (.iload_n 2, 1) := by decide +kernel
theorem dX11_walk_16 : decode cX11_walk 16 = .ok (.invokevirtual 117, 3) := by decide +kernel
theorem dX11_walk_19 : decode cX11_walk 19 = .ok (.ifCond .eq 19, 3) := by decide +kernel
theorem dX11_walk_22 : decode cX11_walk 22 = .ok (.iload_n 1, 1) := by decide +kernel
theorem dX11_walk_23 : decode cX11_walk 23 = .ok (.iload_n 2, 1) := by decide +kernel
theorem dX11_walk_24 : decode cX11_walk 24 = .ok (.if_icmp .eq 14, 3) := by decide +kernel
theorem dX11_walk_27 : decode cX11_walk 27 = .ok (.iload_n 3, 1) := by decide +kernel
theorem dX11_walk_28 : decode cX11_walk 28 = .ok (.iconst 1, 1) := by decide +kernel
theorem dX11_walk_29 : decode cX11_walk 29 = .ok (.sipush 240, 3) := by decide +kernel
theorem dX11_walk_32 : decode cX11_walk 32 = .ok (.invokestatic 90, 3) := by decide +kernel
theorem dX11_walk_35 : decode cX11_walk 35 = .ok (.ifCond .ne 6, 3) := by decide +kernel
theorem dX11_walk_38 : decode cX11_walk 38 = .ok (.bipush (-2), 2) := by decide +kernel
theorem dX11_walk_40 : decode cX11_walk 40 = .ok (.ireturn, 1) := by decide +kernel
theorem dX11_walk_41 : decode cX11_walk 41 = .ok (.aload_n 0, 1) := by decide +kernel
theorem dX11_walk_42 : decode cX11_walk 42 = .ok (.getfield 26, 3) := by decide +kernel
theorem dX11_walk_45 : decode cX11_walk 45 = .ok (.iload_n 1, 1) := by decide +kernel
theorem dX11_walk_46 : decode cX11_walk 46 = .ok (.iload_n 2, 1) := by decide +kernel
theorem dX11_walk_47 : decode cX11_walk 47 = .ok (.iload_n 3, 1) := by decide +kernel
theorem dX11_walk_48 : decode cX11_walk 48 = .ok (.invokevirtual 130, 3) := by decide +kernel
theorem dX11_walk_51 : decode cX11_walk 51 = .ok (.ireturn, 1) := by decide +kernel
theorem dX11_shuttle_0 : decode cX11_shuttle 0 = .ok (.aload_n 0, 1) := by decide +kernel
theorem dX11_shuttle_1 : decode cX11_shuttle 1 = .ok (.getfield 26, 3) := by decide +kernel
theorem dX11_shuttle_4 : decode cX11_shuttle 4 = .ok (.iload_n 1, 1) := by decide +kernel
theorem dX11_shuttle_5 : decode cX11_shuttle 5 = .ok (.invokevirtual 131, 3) := by decide +kernel
theorem dX11_shuttle_8 : decode cX11_shuttle 8 = .ok (.ifCond .eq 33, 3) := by decide +kernel
theorem dX11_shuttle_11 : decode cX11_shuttle 11 = .ok (.iload_n 2, 1) := by decide +kernel
theorem dX11_shuttle_12 : decode cX11_shuttle 12 = .ok (.invokestatic 132, 3) := by decide +kernel
theorem dX11_shuttle_15 : decode cX11_shuttle 15 = .ok (.ifCond .eq 26, 3) := by decide +kernel
theorem dX11_shuttle_18 : decode cX11_shuttle 18 = .ok (.iload_n 3, 1) := by decide +kernel
theorem dX11_shuttle_19 : decode cX11_shuttle 19 = .ok (.iload_n 2, 1) := by decide +kernel
theorem dX11_shuttle_20 : decode cX11_shuttle 20 = .ok (.sipush 1439, 3) := by decide +kernel
theorem dX11_shuttle_23 : decode cX11_shuttle 23 = .ok (.invokestatic 90, 3) := by decide +kernel
theorem dX11_shuttle_26 : decode cX11_shuttle 26 = .ok (.ifCond .eq 15, 3) := by decide +kernel
theorem dX11_shuttle_29 : decode cX11_shuttle 29 = .ok (.iload 4, 2) := by decide +kernel
theorem dX11_shuttle_31 : decode cX11_shuttle 31 = .ok (.iconst 1, 1) := by decide +kernel
theorem dX11_shuttle_32 : decode cX11_shuttle 32 = .ok (.sipush 1440, 3) := by decide +kernel
theorem dX11_shuttle_35 : decode cX11_shuttle 35 = .ok (.invokestatic 90, 3) := by decide +kernel
theorem dX11_shuttle_38 : decode cX11_shuttle 38 = .ok (.ifCond .ne 6, 3) := by decide +kernel
theorem dX11_shuttle_41 : decode cX11_shuttle 41 = .ok (.bipush (-2), 2) := by decide +kernel
theorem dX11_shuttle_43 : decode cX11_shuttle 43 = .ok (.ireturn, 1) := by decide +kernel
theorem dX11_shuttle_44 : decode cX11_shuttle 44 = .ok (.aload_n 0, 1) := by decide +kernel
theorem dX11_shuttle_45 : decode cX11_shuttle 45 = .ok (.getfield 26, 3) := by decide +kernel
theorem dX11_shuttle_48 : decode cX11_shuttle 48 = .ok (.iload_n 1, 1) := by decide +kernel
theorem dX11_shuttle_49 : decode cX11_shuttle 49 = .ok (.iload_n 2, 1) := by decide +kernel
theorem dX11_shuttle_50 : decode cX11_shuttle 50 = .ok (.iload_n 3, 1) := by decide +kernel
theorem dX11_shuttle_51 : decode cX11_shuttle 51 = .ok (.iload 4, 2) := by decide +kernel
theorem dX11_shuttle_53 : decode cX11_shuttle 53 = .ok (.invokevirtual 135, 3) := by decide +kernel
theorem dX11_shuttle_56 : decode cX11_shuttle 56 = .ok (.ireturn, 1) := by decide +kernel
theorem dX11_asked_0 : decode cX11_asked 0 = .ok (.aload_n 0, 1) := by decide +kernel
theorem dX11_asked_1 : decode cX11_asked 1 = .ok (.getfield 26, 3) := by decide +kernel
theorem dX11_asked_4 : decode cX11_asked 4 = .ok (.iload_n 1, 1) := by decide +kernel
theorem dX11_asked_5 : decode cX11_asked 5 = .ok (.invokevirtual 131, 3) := by decide +kernel
theorem dX11_asked_8 : decode cX11_asked 8 = .ok (.ifCond .eq 27, 3) := by decide +kernel
theorem dX11_asked_11 : decode cX11_asked 11 = .ok (.aload_n 0, 1) := by decide +kernel
theorem dX11_asked_12 : decode cX11_asked 12 = .ok (.getfield 26, 3) := by decide +kernel
theorem dX11_asked_15 : decode cX11_asked 15 = .ok (.getfield 138, 3) := by decide +kernel
theorem dX11_asked_18 : decode cX11_asked 18 = .ok (.iload_n 1, 1) := by decide +kernel
theorem dX11_asked_19 : decode cX11_asked 19 = .ok (.iaload, 1) := by decide +kernel
theorem dX11_asked_20 : decode cX11_asked 20 = .ok (.iconst 3, 1) := by decide +kernel
theorem dX11_asked_21 : decode cX11_asked 21 = .ok (.if_icmp .eq 14, 3) := by decide +kernel
theorem dX11_asked_24 : decode cX11_asked 24 = .ok (.iload_n 2, 1) := by decide +kernel
theorem dX11_asked_25 : decode cX11_asked 25 = .ok (.iconst 1, 1) := by decide +kernel
theorem dX11_asked_26 : decode cX11_asked 26 = .ok (.sipush 600, 3) := by decide +kernel
theorem dX11_asked_29 : decode cX11_asked 29 = .ok (.invokestatic 90, 3) := by decide +kernel
theorem dX11_asked_32 : decode cX11_asked 32 = .ok (.ifCond .ne 6, 3) := by decide +kernel
theorem dX11_asked_35 : decode cX11_asked 35 = .ok (.bipush (-2), 2) := by decide +kernel
theorem dX11_asked_37 : decode cX11_asked 37 = .ok (.ireturn, 1) := by decide +kernel
theorem dX11_asked_38 : decode cX11_asked 38 = .ok (.aload_n 0, 1) := by decide +kernel
theorem dX11_asked_39 : decode cX11_asked 39 = .ok (.getfield 26, 3) := by decide +kernel
theorem dX11_asked_42 : decode cX11_asked 42 = .ok (.iload_n 1, 1) := by decide +kernel
theorem dX11_asked_43 : decode cX11_asked 43 = .ok (.iload_n 2, 1) := by decide +kernel
theorem dX11_asked_44 : decode cX11_asked 44 = .ok (.invokevirtual 141, 3) := by decide +kernel
theorem dX11_asked_47 : decode cX11_asked 47 = .ok (.ireturn, 1) := by decide +kernel
theorem dX11_late_0 : decode cX11_late 0 = .ok (.aload_n 0, 1) := by decide +kernel
theorem dX11_late_1 : decode cX11_late 1 = .ok (.getfield 19, 3) := by decide +kernel
theorem dX11_late_4 : decode cX11_late 4 = .ok (.iload_n 1, 1) := by decide +kernel
theorem dX11_late_5 : decode cX11_late 5 = .ok (.iload_n 3, 1) := by decide +kernel
theorem dX11_late_6 : decode cX11_late 6 = .ok (.invokevirtual 122, 3) := by decide +kernel
theorem dX11_late_9 : decode cX11_late 9 = .ok (.ifCond .eq 22, 3) := by decide +kernel
theorem dX11_late_12 : decode cX11_late 12 = .ok (.iload_n 2, 1) := by decide +kernel
theorem dX11_late_13 : decode cX11_late 13 = .ok (.invokestatic 106, 3) := by decide +kernel
theorem dX11_late_16 : decode cX11_late 16 = .ok (.ifCond .eq 15, 3) := by decide +kernel
theorem dX11_late_19 : decode cX11_late 19 = .ok (.iload 4, 2) := by decide +kernel
theorem dX11_late_21 : decode cX11_late 21 = .ok (.iconst 1, 1) := by decide +kernel
theorem dX11_late_22 : decode cX11_late 22 = .ok (.sipush 240, 3) := by decide +kernel
theorem dX11_late_25 : decode cX11_late 25 = .ok (.invokestatic 90, 3) := by decide +kernel
theorem dX11_late_28 : decode cX11_late 28 = .ok (.ifCond .ne 6, 3) := by decide +kernel
theorem dX11_late_31 : decode cX11_late 31 = .ok (.bipush (-2), 2) := by decide +kernel
theorem dX11_late_33 : decode cX11_late 33 = .ok (.ireturn, 1) := by decide +kernel
theorem dX11_late_34 : decode cX11_late 34 = .ok (.aload_n 0, 1) := by decide +kernel
theorem dX11_late_35 : decode cX11_late 35 = .ok (.getfield 19, 3) := by decide +kernel
theorem dX11_late_38 : decode cX11_late 38 = .ok (.getfield 144, 3) := by decide +kernel
theorem dX11_late_41 : decode cX11_late 41 = .ok (.iload_n 1, 1) := by decide +kernel
theorem dX11_late_42 : decode cX11_late 42 = .ok (.iload_n 2, 1) := by decide +kernel
theorem dX11_late_43 : decode cX11_late 43 = .ok (.iload_n 3, 1) := by decide +kernel
theorem dX11_late_44 : decode cX11_late 44 = .ok (.iload 4, 2) := by decide +kernel
theorem dX11_late_46 : decode cX11_late 46 = .ok (.invokevirtual 148, 3) := by decide +kernel
theorem dX11_late_49 : decode cX11_late 49 = .ok (.ireturn, 1) := by decide +kernel
theorem dX11_gone_0 : decode cX11_gone 0 = .ok (.aload_n 0, 1) := by decide +kernel
theorem dX11_gone_1 : decode cX11_gone 1 = .ok (.getfield 19, 3) := by decide +kernel
theorem dX11_gone_4 : decode cX11_gone 4 = .ok (.iload_n 1, 1) := by decide +kernel
theorem dX11_gone_5 : decode cX11_gone 5 = .ok (.invokevirtual 114, 3) := by decide +kernel
theorem dX11_gone_8 : decode cX11_gone 8 = .ok (.ifCond .eq 23, 3) := by decide +kernel
theorem dX11_gone_11 : decode cX11_gone 11 = .ok (.iload_n 2, 1) := by decide +kernel
theorem dX11_gone_12 : decode cX11_gone 12 = .ok (.invokestatic 106, 3) := by decide +kernel
theorem dX11_gone_15 : decode cX11_gone 15 = .ok (.ifCond .eq 16, 3) := by decide +kernel
theorem dX11_gone_18 : decode cX11_gone 18 = .ok (.aload_n 0, 1) := by decide +kernel
theorem dX11_gone_19 : decode cX11_gone 19 = .ok (.getfield 19, 3) := by decide +kernel
theorem dX11_gone_22 : decode cX11_gone 22 = .ok (.iload_n 1, 1) := by decide +kernel
theorem dX11_gone_23 : decode cX11_gone 23 = .ok (.iload_n 2, 1) := by decide +kernel
theorem dX11_gone_24 : decode cX11_gone 24 = .ok (.iload_n 3, 1) := by decide +kernel
theorem dX11_gone_25 : decode cX11_gone 25 = .ok (.invokevirtual 153, 3) := by decide +kernel
theorem dX11_gone_28 : decode cX11_gone 28 = .ok (.goto 5, 3) := by decide +kernel
theorem dX11_gone_31 : decode cX11_gone 31 = .ok (.bipush (-2), 2) := by decide +kernel
theorem dX11_gone_33 : decode cX11_gone 33 = .ok (.ireturn, 1) := by decide +kernel
theorem dX11_ways_0 : decode cX11_ways 0 = .ok (.aload_n 0, 1) := by decide +kernel
theorem dX11_ways_1 : decode cX11_ways 1 = .ok (.getfield 12, 3) := by decide +kernel
theorem dX11_ways_4 : decode cX11_ways 4 = .ok (.iload_n 1, 1) := by decide +kernel
theorem dX11_ways_5 : decode cX11_ways 5 = .ok (.invokevirtual 117, 3) := by decide +kernel
theorem dX11_ways_8 : decode cX11_ways 8 = .ok (.ifCond .eq 29, 3) := by decide +kernel
theorem dX11_ways_11 : decode cX11_ways 11 = .ok (.aload_n 0, 1) := by decide +kernel
theorem dX11_ways_12 : decode cX11_ways 12 = .ok (.getfield 12, 3) := by decide +kernel
theorem dX11_ways_15 : decode cX11_ways 15 = .ok (.iload_n 2, 1) := by decide +kernel
theorem dX11_ways_16 : decode cX11_ways 16 = .ok (.invokevirtual 117, 3) := by decide +kernel
theorem dX11_ways_19 : decode cX11_ways 19 = .ok (.ifCond .eq 18, 3) := by decide +kernel
theorem dX11_ways_22 : decode cX11_ways 22 = .ok (.iload_n 3, 1) := by decide +kernel
theorem dX11_ways_23 : decode cX11_ways 23 = .ok (.invokestatic 106, 3) := by decide +kernel
theorem dX11_ways_26 : decode cX11_ways 26 = .ok (.ifCond .eq 11, 3) := by decide +kernel
theorem dX11_ways_29 : decode cX11_ways 29 = .ok (.iload 4, 2) := by decide +kernel
theorem dX11_ways_31 : decode cX11_ways 31 = .ok (.invokestatic 132, 3) := by decide +kernel
theorem dX11_ways_34 : decode cX11_ways 34 = .ok (.ifCond .ne 6, 3) := by decide +kernel
theorem dX11_ways_37 : decode cX11_ways 37 = .ok (.bipush (-2), 2) := by decide +kernel
theorem dX11_ways_39 : decode cX11_ways 39 = .ok (.ireturn, 1) := by decide +kernel
theorem dX11_ways_40 : decode cX11_ways 40 = .ok (.sipush 1440, 3) := by decide +kernel
theorem dX11_ways_43 : decode cX11_ways 43 = .ok (.iload_n 3, 1) := by decide +kernel
theorem dX11_ways_44 : decode cX11_ways 44 = .ok (.imul, 1) := by decide +kernel
theorem dX11_ways_45 : decode cX11_ways 45 = .ok (.iload 4, 2) := by decide +kernel
theorem dX11_ways_47 : decode cX11_ways 47 = .ok (.iadd, 1) := by decide +kernel
theorem dX11_ways_48 : decode cX11_ways 48 = .ok (.istore 5, 2) := by decide +kernel
theorem dX11_ways_50 : decode cX11_ways 50 = .ok (.aload_n 0, 1) := by decide +kernel
theorem dX11_ways_51 : decode cX11_ways 51 = .ok (.getfield 51, 3) := by decide +kernel
theorem dX11_ways_54 : decode cX11_ways 54 = .ok (.iload_n 3, 1) := by decide +kernel
theorem dX11_ways_55 : decode cX11_ways 55 = .ok (.iload 5, 2) := by decide +kernel
theorem dX11_ways_57 : decode cX11_ways 57 = .ok (.invokevirtual 156, 3) := by decide +kernel
theorem dX11_ways_60 : decode cX11_ways 60 = .ok (.aload_n 0, 1) := by decide +kernel
theorem dX11_ways_61 : decode cX11_ways 61 = .ok (.getfield 60, 3) := by decide +kernel
theorem dX11_ways_64 : decode cX11_ways 64 = .ok (.iload_n 1, 1) := by decide +kernel
theorem dX11_ways_65 : decode cX11_ways 65 = .ok (.iload 5, 2) := by decide +kernel
theorem dX11_ways_67 : decode cX11_ways 67 = .ok (.aload_n 0, 1) := by decide +kernel
theorem dX11_ways_68 : decode cX11_ways 68 = .ok (.getfield 12, 3) := by decide +kernel
theorem dX11_ways_71 : decode cX11_ways 71 = .ok (.invokevirtual 160, 3) := by decide +kernel
theorem dX11_ways_74 : decode cX11_ways 74 = .ok (.invokevirtual 164, 3) := by decide +kernel
theorem dX11_ways_77 : decode cX11_ways 77 = .ok (.aload_n 0, 1) := by decide +kernel
theorem dX11_ways_78 : decode cX11_ways 78 = .ok (.getfield 69, 3) := by decide +kernel
theorem dX11_ways_81 : decode cX11_ways 81 = .ok (.iload_n 2, 1) := by decide +kernel
theorem dX11_ways_82 : decode cX11_ways 82 = .ok (.invokevirtual 168, 3) := by decide +kernel
theorem dX11_ways_85 : decode cX11_ways 85 = .ok (.ireturn, 1) := by decide +kernel
theorem dX11_way_0 : decode cX11_way 0 = .ok (.aload_n 0, 1) := by decide +kernel
theorem dX11_way_1 : decode cX11_way 1 = .ok (.getfield 69, 3) := by decide +kernel
theorem dX11_way_4 : decode cX11_way 4 = .ok (.iload_n 1, 1) := by decide +kernel
theorem dX11_way_5 : decode cX11_way 5 = .ok (.invokevirtual 172, 3) := by decide +kernel
theorem dX11_way_8 : decode cX11_way 8 = .ok (.ifCond .eq 24, 3) := by decide +kernel
theorem dX11_way_11 : decode cX11_way 11 = .ok (.iload_n 2, 1) := by decide +kernel
theorem dX11_way_12 : decode cX11_way 12 = .ok (.iconst 0, 1) := by decide +kernel
theorem dX11_way_13 : decode cX11_way 13 = .ok (.iconst 4, 1) := by decide +kernel
theorem dX11_way_14 : decode cX11_way 14 = .ok (.invokestatic 90, 3) := by decide +kernel
theorem dX11_way_17 : decode cX11_way 17 = .ok (.ifCond .eq 15, 3) := by decide +kernel
theorem dX11_way_20 : decode cX11_way 20 = .ok (.aload_n 0, 1) := by decide +kernel
theorem dX11_way_21 : decode cX11_way 21 = .ok (.getfield 69, 3) := by decide +kernel
theorem dX11_way_24 : decode cX11_way 24 = .ok (.iload_n 1, 1) := by decide +kernel
theorem dX11_way_25 : decode cX11_way 25 = .ok (.iload_n 2, 1) := by decide +kernel
theorem dX11_way_26 : decode cX11_way 26 = .ok (.invokevirtual 173, 3) := by decide +kernel
theorem dX11_way_29 : decode cX11_way 29 = .ok (.goto 5, 3) := by decide +kernel
theorem dX11_way_32 : decode cX11_way 32 = .ok (.bipush (-2), 2) := by decide +kernel
theorem dX11_way_34 : decode cX11_way 34 = .ok (.ireturn, 1) := by decide +kernel
theorem dX11_leg_0 : decode cX11_leg 0 = .ok (.aload_n 0, 1) := by decide +kernel
theorem dX11_leg_1 : decode cX11_leg 1 = .ok (.getfield 69, 3) := by decide +kernel
theorem dX11_leg_4 : decode cX11_leg 4 = .ok (.iload_n 1, 1) := by decide +kernel
theorem dX11_leg_5 : decode cX11_leg 5 = .ok (.iload_n 2, 1) := by decide +kernel
theorem dX11_leg_6 : decode cX11_leg 6 = .ok (.invokevirtual 176, 3) := by decide +kernel
theorem dX11_leg_9 : decode cX11_leg 9 = .ok (.ifCond .eq 26, 3) := by decide +kernel
theorem dX11_leg_12 : decode cX11_leg 12 = .ok (.iload_n 3, 1) := by decide +kernel
theorem dX11_leg_13 : decode cX11_leg 13 = .ok (.iconst 0, 1) := by decide +kernel
theorem dX11_leg_14 : decode cX11_leg 14 = .ok (.bipush 8, 2) := by decide +kernel
theorem dX11_leg_16 : decode cX11_leg 16 = .ok (.invokestatic 90, 3) := by decide +kernel
theorem dX11_leg_19 : decode cX11_leg 19 = .ok (.ifCond .eq 16, 3) := by decide +kernel
theorem dX11_leg_22 : decode cX11_leg 22 = .ok (.aload_n 0, 1) := by decide +kernel
theorem dX11_leg_23 : decode cX11_leg 23 = .ok (.getfield 69, 3) := by decide +kernel
theorem dX11_leg_26 : decode cX11_leg 26 = .ok (.iload_n 1, 1) := by decide +kernel
theorem dX11_leg_27 : decode cX11_leg 27 = .ok (.iload_n 2, 1) := by decide +kernel
theorem dX11_leg_28 : decode cX11_leg 28 = .ok (.iload_n 3, 1) := by decide +kernel
theorem dX11_leg_29 : decode cX11_leg 29 = .ok (.invokevirtual 179, 3) := by decide +kernel
theorem dX11_leg_32 : decode cX11_leg 32 = .ok (.goto 5, 3) := by decide +kernel
theorem dX11_leg_35 : decode cX11_leg 35 = .ok (.bipush (-2), 2) := by decide +kernel
theorem dX11_leg_37 : decode cX11_leg 37 = .ok (.ireturn, 1) := by decide +kernel
theorem dX11_take_0 : decode cX11_take 0 = .ok (.aload_n 0, 1) := by decide +kernel
theorem dX11_take_1 : decode cX11_take 1 = .ok (.getfield 69, 3) := by decide +kernel
theorem dX11_take_4 : decode cX11_take 4 = .ok (.iload_n 1, 1) := by decide +kernel
theorem dX11_take_5 : decode cX11_take 5 = .ok (.invokevirtual 172, 3) := by decide +kernel
theorem dX11_take_8 : decode cX11_take 8 = .ok (.ifCond .eq 18, 3) := by decide +kernel
theorem dX11_take_11 : decode cX11_take 11 = .ok (.aload_n 0, 1) := by decide +kernel
theorem dX11_take_12 : decode cX11_take 12 = .ok (.getfield 42, 3) := by decide +kernel
theorem dX11_take_15 : decode cX11_take 15 = .ok (.aload_n 0, 1) := by decide +kernel
theorem dX11_take_16 : decode cX11_take 16 = .ok (.getfield 69, 3) := by decide +kernel
theorem dX11_take_19 : decode cX11_take 19 = .ok (.iload_n 1, 1) := by decide +kernel
theorem dX11_take_20 : decode cX11_take 20 = .ok (.invokevirtual 182, 3) := by decide +kernel
theorem dX11_take_23 : decode cX11_take 23 = .ok (.goto 5, 3) := by decide +kernel
theorem dX11_take_26 : decode cX11_take 26 = .ok (.bipush (-2), 2) := by decide +kernel
theorem dX11_take_28 : decode cX11_take 28 = .ok (.ireturn, 1) := by decide +kernel
theorem dX11_give_0 : decode cX11_give 0 = .ok (.aload_n 0, 1) := by decide +kernel
theorem dX11_give_1 : decode cX11_give 1 = .ok (.getfield 42, 3) := by decide +kernel
theorem dX11_give_4 : decode cX11_give 4 = .ok (.iload_n 1, 1) := by decide +kernel
theorem dX11_give_5 : decode cX11_give 5 = .ok (.invokevirtual 186, 3) := by decide +kernel
theorem dX11_give_8 : decode cX11_give 8 = .ok (.ifCond .ne 6, 3) := by decide +kernel
theorem dX11_give_11 : decode cX11_give 11 = .ok (.bipush (-2), 2) := by decide +kernel
theorem dX11_give_13 : decode cX11_give 13 = .ok (.ireturn, 1) := by decide +kernel
theorem dX11_give_14 : decode cX11_give 14 = .ok (.aload_n 0, 1) := by decide +kernel
theorem dX11_give_15 : decode cX11_give 15 = .ok (.getfield 42, 3) := by decide +kernel
theorem dX11_give_18 : decode cX11_give 18 = .ok (.iload_n 1, 1) := by decide +kernel
theorem dX11_give_19 : decode cX11_give 19 = .ok (.invokevirtual 189, 3) := by decide +kernel
theorem dX11_give_22 : decode cX11_give 22 = .ok (.iconst 1, 1) := by decide +kernel
theorem dX11_give_23 : decode cX11_give 23 = .ok (.ireturn, 1) := by decide +kernel
theorem dX11_still_0 : decode cX11_still 0 = .ok (.aload_n 0, 1) := by decide +kernel
theorem dX11_still_1 : decode cX11_still 1 = .ok (.getfield 42, 3) := by decide +kernel
theorem dX11_still_4 : decode cX11_still 4 = .ok (.iload_n 1, 1) := by decide +kernel
theorem dX11_still_5 : decode cX11_still 5 = .ok (.invokevirtual 186, 3) := by decide +kernel
theorem dX11_still_8 : decode cX11_still 8 = .ok (.ifCond .ne 6, 3) := by decide +kernel
theorem dX11_still_11 : decode cX11_still 11 = .ok (.bipush (-2), 2) := by decide +kernel
theorem dX11_still_13 : decode cX11_still 13 = .ok (.ireturn, 1) := by decide +kernel
theorem dX11_still_14 : decode cX11_still 14 = .ok (.aload_n 0, 1) := by decide +kernel
theorem dX11_still_15 : decode cX11_still 15 = .ok (.getfield 42, 3) := by decide +kernel
theorem dX11_still_18 : decode cX11_still 18 = .ok (.iload_n 1, 1) := by decide +kernel
theorem dX11_still_19 : decode cX11_still 19 = .ok (.invokevirtual 193, 3) := by decide +kernel
theorem dX11_still_22 : decode cX11_still 22 = .ok (.istore_n 2, 1) := by decide +kernel
theorem dX11_still_23 : decode cX11_still 23 = .ok (.iload_n 2, 1) := by decide +kernel
theorem dX11_still_24 : decode cX11_still 24 = .ok (.ifCond .ge 8, 3) := by decide +kernel
theorem dX11_still_27 : decode cX11_still 27 = .ok (.iload_n 2, 1) := by decide +kernel
theorem dX11_still_28 : decode cX11_still 28 = .ok (.ineg, 1) := by decide +kernel
theorem dX11_still_29 : decode cX11_still 29 = .ok (.goto 4, 3) := by decide +kernel
theorem dX11_still_32 : decode cX11_still 32 = .ok (.iconst 0, 1) := by decide +kernel
theorem dX11_still_33 : decode cX11_still 33 = .ok (.ireturn, 1) := by decide +kernel
theorem dX11_comes_0 : decode cX11_comes 0 = .ok (.aload_n 0, 1) := by decide +kernel
theorem dX11_comes_1 : decode cX11_comes 1 = .ok (.getfield 42, 3) := by decide +kernel
theorem dX11_comes_4 : decode cX11_comes 4 = .ok (.iload_n 1, 1) := by decide +kernel
theorem dX11_comes_5 : decode cX11_comes 5 = .ok (.invokevirtual 186, 3) := by decide +kernel
theorem dX11_comes_8 : decode cX11_comes 8 = .ok (.ifCond .eq 18, 3) := by decide +kernel
theorem dX11_comes_11 : decode cX11_comes 11 = .ok (.iconst (-1), 1) := by decide +kernel
theorem dX11_comes_12 : decode cX11_comes 12 = .ok (.aload_n 0, 1) := by decide +kernel
theorem dX11_comes_13 : decode cX11_comes 13 = .ok (.getfield 42, 3) := by decide +kernel
theorem dX11_comes_16 : decode cX11_comes 16 = .ok (.iload_n 1, 1) := by decide +kernel
theorem dX11_comes_17 : decode cX11_comes 17 = .ok (.invokevirtual 193, 3) := by decide +kernel
theorem dX11_comes_20 : decode cX11_comes 20 = .ok (.invokestatic 196, 3) := by decide +kernel
theorem dX11_comes_23 : decode cX11_comes 23 = .ok (.goto 5, 3) := by decide +kernel
theorem dX11_comes_26 : decode cX11_comes 26 = .ok (.bipush (-2), 2) := by decide +kernel
theorem dX11_comes_28 : decode cX11_comes 28 = .ok (.ireturn, 1) := by decide +kernel
theorem dX11_taken_0 : decode cX11_taken 0 = .ok (.aload_n 0, 1) := by decide +kernel
theorem dX11_taken_1 : decode cX11_taken 1 = .ok (.getfield 19, 3) := by decide +kernel
theorem dX11_taken_4 : decode cX11_taken 4 = .ok (.iload_n 1, 1) := by decide +kernel
theorem dX11_taken_5 : decode cX11_taken 5 = .ok (.iload_n 3, 1) := by decide +kernel
theorem dX11_taken_6 : decode cX11_taken 6 = .ok (.invokevirtual 122, 3) := by decide +kernel
theorem dX11_taken_9 : decode cX11_taken 9 = .ok (.ifCond .eq 23, 3) := by decide +kernel
theorem dX11_taken_12 : decode cX11_taken 12 = .ok (.iload_n 2, 1) := by decide +kernel
theorem dX11_taken_13 : decode cX11_taken 13 = .ok (.invokestatic 106, 3) := by decide +kernel
theorem dX11_taken_16 : decode cX11_taken 16 = .ok (.ifCond .eq 16, 3) := by decide +kernel
theorem dX11_taken_19 : decode cX11_taken 19 = .ok (.aload_n 0, 1) := by decide +kernel
theorem dX11_taken_20 : decode cX11_taken 20 = .ok (.getfield 33, 3) := by decide +kernel
theorem dX11_taken_23 : decode cX11_taken 23 = .ok (.iload_n 1, 1) := by decide +kernel
theorem dX11_taken_24 : decode cX11_taken 24 = .ok (.iload_n 2, 1) := by decide +kernel
theorem dX11_taken_25 : decode cX11_taken 25 = .ok (.iload_n 3, 1) := by decide +kernel
theorem dX11_taken_26 : decode cX11_taken 26 = .ok (.invokevirtual 201, 3) := by decide +kernel
theorem dX11_taken_29 : decode cX11_taken 29 = .ok (.goto 5, 3) := by decide +kernel
theorem dX11_taken_32 : decode cX11_taken 32 = .ok (.bipush (-2), 2) := by decide +kernel
theorem dX11_taken_34 : decode cX11_taken 34 = .ok (.ireturn, 1) := by decide +kernel
theorem dX11_latest_0 : decode cX11_latest 0 = .ok (.aload_n 0, 1) := by decide +kernel
theorem dX11_latest_1 : decode cX11_latest 1 = .ok (.getfield 12, 3) := by decide +kernel
theorem dX11_latest_4 : decode cX11_latest 4 = .ok (.iload_n 1, 1) := by decide +kernel
theorem dX11_latest_5 : decode cX11_latest 5 = .ok (.invokevirtual 117, 3) := by decide +kernel
theorem dX11_latest_8 : decode cX11_latest 8 = .ok (.ifCond .eq 21, 3) := by decide +kernel
theorem dX11_latest_11 : decode cX11_latest 11 = .ok (.aload_n 0, 1) := by decide +kernel
theorem dX11_latest_12 : decode cX11_latest 12 = .ok (.getfield 12, 3) := by decide +kernel
theorem dX11_latest_15 : decode cX11_latest 15 = .ok (.iload_n 2, 1) := by decide +kernel
theorem dX11_latest_16 : decode cX11_latest 16 = .ok (.invokevirtual 117, 3) := by decide +kernel
theorem dX11_latest_19 : decode cX11_latest 19 = .ok (.ifCond .eq 10, 3) := by decide +kernel
theorem dX11_latest_22 : decode cX11_latest 22 = .ok (.iload_n 3, 1) := by decide +kernel
theorem dX11_latest_23 : decode cX11_latest 23 = .ok (.invokestatic 106, 3) := by decide +kernel
theorem dX11_latest_26 : decode cX11_latest 26 = .ok (.ifCond .ne 6, 3) := by decide +kernel
theorem dX11_latest_29 : decode cX11_latest 29 = .ok (.bipush (-2), 2) := by decide +kernel
theorem dX11_latest_31 : decode cX11_latest 31 = .ok (.ireturn, 1) := by decide +kernel
theorem dX11_latest_32 : decode cX11_latest 32 = .ok (.sipush 1440, 3) := by decide +kernel
theorem dX11_latest_35 : decode cX11_latest 35 = .ok (.iload_n 3, 1) := by decide +kernel
theorem dX11_latest_36 : decode cX11_latest 36 = .ok (.imul, 1) := by decide +kernel
theorem dX11_latest_37 : decode cX11_latest 37 = .ok (.istore 5, 2) := by decide +kernel
theorem dX11_latest_39 : decode cX11_latest 39 = .ok (.aload_n 0, 1) := by decide +kernel
theorem dX11_latest_40 : decode cX11_latest 40 = .ok (.getfield 51, 3) := by decide +kernel
theorem dX11_latest_43 : decode cX11_latest 43 = .ok (.iload_n 3, 1) := by decide +kernel
theorem dX11_latest_44 : decode cX11_latest 44 = .ok (.iload 5, 2) := by decide +kernel
theorem dX11_latest_46 : decode cX11_latest 46 = .ok (.invokevirtual 156, 3) := by decide +kernel
theorem dX11_latest_49 : decode cX11_latest 49 = .ok (.iconst (-1), 1) := by decide +kernel
theorem dX11_latest_50 : decode cX11_latest 50 = .ok (.istore 6, 2) := by decide +kernel
theorem dX11_latest_52 : decode cX11_latest 52 = .ok (.sipush 1024, 3) := by decide +kernel
theorem dX11_latest_55 : decode cX11_latest 55 = .ok (.istore 7, 2) := by decide +kernel
theorem dX11_latest_57 : decode cX11_latest 57 = .ok (.iload 7, 2) := by decide +kernel
theorem dX11_latest_59 : decode cX11_latest 59 = .ok (.ifCond .le 72, 3) := by decide +kernel
theorem dX11_latest_62 : decode cX11_latest 62 = .ok (.iload 6, 2) := by decide +kernel
theorem dX11_latest_64 : decode cX11_latest 64 = .ok (.iload 7, 2) := by decide +kernel
theorem dX11_latest_66 : decode cX11_latest 66 = .ok (.iadd, 1) := by decide +kernel
theorem dX11_latest_67 : decode cX11_latest 67 = .ok (.istore 8, 2) := by decide +kernel
theorem dX11_latest_69 : decode cX11_latest 69 = .ok (.iload 8, 2) := by decide +kernel
theorem dX11_latest_71 : decode cX11_latest 71 = .ok (.sipush 1440, 3) := by decide +kernel
theorem dX11_latest_74 : decode cX11_latest 74 = .ok (.if_icmp .ge 48, 3) := by decide +kernel
theorem dX11_latest_77 : decode cX11_latest 77 = .ok (.aload_n 0, 1) := by decide +kernel
theorem dX11_latest_78 : decode cX11_latest 78 = .ok (.getfield 60, 3) := by decide +kernel
theorem dX11_latest_81 : decode cX11_latest 81 = .ok (.iload_n 1, 1) := by decide +kernel
theorem dX11_latest_82 : decode cX11_latest 82 = .ok (.iload 5, 2) := by decide +kernel
theorem dX11_latest_84 : decode cX11_latest 84 = .ok (.iload 8, 2) := by decide +kernel
theorem dX11_latest_86 : decode cX11_latest 86 = .ok (.iadd, 1) := by decide +kernel
theorem dX11_latest_87 : decode cX11_latest 87 = .ok (.invokevirtual 204, 3) := by decide +kernel
theorem dX11_latest_90 : decode cX11_latest 90 = .ok (.aload_n 0, 1) := by decide +kernel
theorem dX11_latest_91 : decode cX11_latest 91 = .ok (.getfield 60, 3) := by decide +kernel
theorem dX11_latest_94 : decode cX11_latest 94 = .ok (.getfield 207, 3) := by decide +kernel
theorem dX11_latest_97 : decode cX11_latest 97 = .ok (.iload_n 2, 1) := by decide +kernel
theorem dX11_latest_98 : decode cX11_latest 98 = .ok (.iaload, 1) := by decide +kernel
theorem dX11_latest_99 : decode cX11_latest 99 = .ok (.ldc 210, 2) := by decide +kernel
theorem dX11_latest_101 : decode cX11_latest 101 = .ok (.if_icmp .ge 21, 3) := by decide +kernel
theorem dX11_latest_104 : decode cX11_latest 104 = .ok (.aload_n 0, 1) := by decide +kernel
theorem dX11_latest_105 : decode cX11_latest 105 = .ok (.getfield 60, 3) := by decide +kernel
theorem dX11_latest_108 : decode cX11_latest 108 = .ok (.getfield 207, 3) := by decide +kernel
theorem dX11_latest_111 : decode cX11_latest 111 = .ok (.iload_n 2, 1) := by decide +kernel
theorem dX11_latest_112 : decode cX11_latest 112 = .ok (.iaload, 1) := by decide +kernel
theorem dX11_latest_113 : decode cX11_latest 113 = .ok (.iload 4, 2) := by decide +kernel
theorem dX11_latest_115 : decode cX11_latest 115 = .ok (.if_icmp .gt 7, 3) := by decide +kernel
theorem dX11_latest_118 : decode cX11_latest 118 = .ok (.iload 8, 2) := by decide +kernel
theorem dX11_latest_120 : decode cX11_latest 120 = .ok (.istore 6, 2) := by decide +kernel
theorem dX11_latest_122 : decode cX11_latest 122 = .ok (.iload 7, 2) := by decide +kernel
theorem dX11_latest_124 : decode cX11_latest 124 = .ok (.iconst 1, 1) := by decide +kernel
theorem dX11_latest_125 : decode cX11_latest 125 = .ok (.ishr, 1) := by decide +kernel
theorem dX11_latest_126 : decode cX11_latest 126 = .ok (.istore 7, 2) := by decide +kernel
theorem dX11_latest_128 : decode cX11_latest 128 = .ok (.goto (-71), 3) := by decide +kernel
theorem dX11_latest_131 : decode cX11_latest 131 = .ok (.iload 6, 2) := by decide +kernel
theorem dX11_latest_133 : decode cX11_latest 133 = .ok (.ireturn, 1) := by decide +kernel
theorem dX11_reach_0 : decode cX11_reach 0 = .ok (.aload_n 0, 1) := by decide +kernel
theorem dX11_reach_1 : decode cX11_reach 1 = .ok (.getfield 12, 3) := by decide +kernel
theorem dX11_reach_4 : decode cX11_reach 4 = .ok (.iload_n 1, 1) := by decide +kernel
theorem dX11_reach_5 : decode cX11_reach 5 = .ok (.invokevirtual 117, 3) := by decide +kernel
theorem dX11_reach_8 : decode cX11_reach 8 = .ok (.ifCond .eq 22, 3) := by decide +kernel
theorem dX11_reach_11 : decode cX11_reach 11 = .ok (.iload_n 2, 1) := by decide +kernel
theorem dX11_reach_12 : decode cX11_reach 12 = .ok (.invokestatic 106, 3) := by decide +kernel
theorem dX11_reach_15 : decode cX11_reach 15 = .ok (.ifCond .eq 15, 3) := by decide +kernel
theorem dX11_reach_18 : decode cX11_reach 18 = .ok (.iload_n 3, 1) := by decide +kernel
theorem dX11_reach_19 : decode cX11_reach 19 = .ok (.invokestatic 132, 3) := by decide +kernel
theorem dX11_reach_22 : decode cX11_reach 22 = .ok (.ifCond .eq 8, 3) := by decide +kernel
theorem dX11_reach_25 : decode cX11_reach 25 = .ok (.iload 4, 2) := by decide +kernel
theorem dX11_reach_27 : decode cX11_reach 27 = .ok (.ifCond .ge 6, 3) := by decide +kernel
theorem dX11_reach_30 : decode cX11_reach 30 = .ok (.bipush (-2), 2) := by decide +kernel
theorem dX11_reach_32 : decode cX11_reach 32 = .ok (.ireturn, 1) := by decide +kernel
theorem dX11_reach_33 : decode cX11_reach 33 = .ok (.sipush 1440, 3) := by decide +kernel
theorem dX11_reach_36 : decode cX11_reach 36 = .ok (.iload_n 2, 1) := by decide +kernel
theorem dX11_reach_37 : decode cX11_reach 37 = .ok (.imul, 1) := by decide +kernel
theorem dX11_reach_38 : decode cX11_reach 38 = .ok (.iload_n 3, 1) := by decide +kernel
theorem dX11_reach_39 : decode cX11_reach 39 = .ok (.iadd, 1) := by decide +kernel
theorem dX11_reach_40 : decode cX11_reach 40 = .ok (.istore 5, 2) := by decide +kernel
theorem dX11_reach_42 : decode cX11_reach 42 = .ok (.aload_n 0, 1) := by decide +kernel
theorem dX11_reach_43 : decode cX11_reach 43 = .ok (.getfield 51, 3) := by decide +kernel
theorem dX11_reach_46 : decode cX11_reach 46 = .ok (.iload_n 2, 1) := by decide +kernel
theorem dX11_reach_47 : decode cX11_reach 47 = .ok (.iload 5, 2) := by decide +kernel
theorem dX11_reach_49 : decode cX11_reach 49 = .ok (.invokevirtual 156, 3) := by decide +kernel
theorem dX11_reach_52 : decode cX11_reach 52 = .ok (.aload_n 0, 1) := by decide +kernel
theorem dX11_reach_53 : decode cX11_reach 53 = .ok (.getfield 60, 3) := by decide +kernel
theorem dX11_reach_56 : decode cX11_reach 56 = .ok (.iload_n 1, 1) := by decide +kernel
theorem dX11_reach_57 : decode cX11_reach 57 = .ok (.iload 5, 2) := by decide +kernel
theorem dX11_reach_59 : decode cX11_reach 59 = .ok (.invokevirtual 204, 3) := by decide +kernel
theorem dX11_reach_62 : decode cX11_reach 62 = .ok (.iconst 0, 1) := by decide +kernel
theorem dX11_reach_63 : decode cX11_reach 63 = .ok (.istore 6, 2) := by decide +kernel
theorem dX11_reach_65 : decode cX11_reach 65 = .ok (.iconst 0, 1) := by decide +kernel
theorem dX11_reach_66 : decode cX11_reach 66 = .ok (.istore 7, 2) := by decide +kernel
theorem dX11_reach_68 : decode cX11_reach 68 = .ok (.iload 7, 2) := by decide +kernel
theorem dX11_reach_70 : decode cX11_reach 70 = .ok (.aload_n 0, 1) := by decide +kernel
theorem dX11_reach_71 : decode cX11_reach 71 = .ok (.getfield 12, 3) := by decide +kernel
theorem dX11_reach_74 : decode cX11_reach 74 = .ok (.getfield 211, 3) := by decide +kernel
theorem dX11_reach_77 : decode cX11_reach 77 = .ok (.if_icmp .ge 51, 3) := by decide +kernel
theorem dX11_reach_80 : decode cX11_reach 80 = .ok (.aload_n 0, 1) := by decide +kernel
theorem dX11_reach_81 : decode cX11_reach 81 = .ok (.getfield 60, 3) := by decide +kernel
theorem dX11_reach_84 : decode cX11_reach 84 = .ok (.getfield 207, 3) := by decide +kernel
theorem dX11_reach_87 : decode cX11_reach 87 = .ok (.iload 7, 2) := by decide +kernel
theorem dX11_reach_89 : decode cX11_reach 89 = .ok (.iaload, 1) := by decide +kernel
theorem dX11_reach_90 : decode cX11_reach 90 = .ok (.ldc 210, 2) := by decide +kernel
theorem dX11_reach_92 : decode cX11_reach 92 = .ok (.if_icmp .ge 30, 3) := by decide +kernel
theorem dX11_reach_95 : decode cX11_reach 95 = .ok (.aload_n 0, 1) := by decide +kernel
theorem dX11_reach_96 : decode cX11_reach 96 = .ok (.getfield 60, 3) := by decide +kernel
theorem dX11_reach_99 : decode cX11_reach 99 = .ok (.getfield 207, 3) := by decide +kernel
theorem dX11_reach_102 : decode cX11_reach 102 = .ok (.iload 7, 2) := by decide +kernel
theorem dX11_reach_104 : decode cX11_reach 104 = .ok (.iaload, 1) := by decide +kernel
theorem dX11_reach_105 : decode cX11_reach 105 = .ok (.iload 5, 2) := by decide +kernel
theorem dX11_reach_107 : decode cX11_reach 107 = .ok (.isub, 1) := by decide +kernel
theorem dX11_reach_108 : decode cX11_reach 108 = .ok (.iload 4, 2) := by decide +kernel
theorem dX11_reach_110 : decode cX11_reach 110 = .ok (.if_icmp .gt 12, 3) := by decide +kernel
theorem dX11_reach_113 : decode cX11_reach 113 = .ok (.iload 6, 2) := by decide +kernel
theorem dX11_reach_115 : decode cX11_reach 115 = .ok (.iconst 1, 1) := by decide +kernel
theorem dX11_reach_116 : decode cX11_reach 116 = .ok (.iload 7, 2) := by decide +kernel
theorem dX11_reach_118 : decode cX11_reach 118 = .ok (.ishl, 1) := by decide +kernel
theorem dX11_reach_119 : decode cX11_reach 119 = .ok (.ior, 1) := by decide +kernel
theorem dX11_reach_120 : decode cX11_reach 120 = .ok (.istore 6, 2) := by decide +kernel
theorem dX11_reach_122 : decode cX11_reach 122 = .ok (.iinc 7 1, 3) := by decide +kernel
theorem dX11_reach_125 : decode cX11_reach 125 = .ok (.goto (-57), 3) := by decide +kernel
theorem dX11_reach_128 : decode cX11_reach 128 = .ok (.iload 6, 2) := by decide +kernel
theorem dX11_reach_130 : decode cX11_reach 130 = .ok (.ireturn, 1) := by decide +kernel
theorem dX11_meet_0 : decode cX11_meet 0 = .ok (.iload_n 1, 1) := by decide +kernel
theorem dX11_meet_1 : decode cX11_meet 1 = .ok (.ifCond .eq 29, 3) := by decide +kernel
theorem dX11_meet_4 : decode cX11_meet 4 = .ok (.iload_n 1, 1) := by decide +kernel
theorem dX11_meet_5 : decode cX11_meet 5 = .ok (.aload_n 0, 1) := by decide +kernel
theorem dX11_meet_6 : decode cX11_meet 6 = .ok (.getfield 12, 3) := by decide +kernel
theorem dX11_meet_9 : decode cX11_meet 9 = .ok (.getfield 211, 3) := by decide +kernel
theorem dX11_meet_12 : decode cX11_meet 12 = .ok (.iushr, 1) := by decide +kernel
theorem dX11_meet_13 : decode cX11_meet 13 = .ok (.ifCond .ne 17, 3) := by decide +kernel
theorem dX11_meet_16 : decode cX11_meet 16 = .ok (.iload_n 2, 1) := by decide +kernel
theorem dX11_meet_17 : decode cX11_meet 17 = .ok (.invokestatic 106, 3) := by decide +kernel
theorem dX11_meet_20 : decode cX11_meet 20 = .ok (.ifCond .eq 10, 3) := by decide +kernel
theorem dX11_meet_23 : decode cX11_meet 23 = .ok (.iload_n 3, 1) := by decide +kernel
theorem dX11_meet_24 : decode cX11_meet 24 = .ok (.invokestatic 132, 3) := by decide +kernel
theorem dX11_meet_27 : decode cX11_meet 27 = .ok (.ifCond .ne 6, 3) := by decide +kernel
theorem dX11_meet_30 : decode cX11_meet 30 = .ok (.bipush (-2), 2) := by decide +kernel
theorem dX11_meet_32 : decode cX11_meet 32 = .ok (.ireturn, 1) := by decide +kernel
theorem dX11_meet_33 : decode cX11_meet 33 = .ok (.aload_n 0, 1) := by decide +kernel
theorem dX11_meet_34 : decode cX11_meet 34 = .ok (.iload_n 1, 1) := by decide +kernel
theorem dX11_meet_35 : decode cX11_meet 35 = .ok (.iload_n 2, 1) := by decide +kernel
theorem dX11_meet_36 : decode cX11_meet 36 = .ok (.iload_n 3, 1) := by decide +kernel
theorem dX11_meet_37 : decode cX11_meet 37 = .ok (.invokevirtual 214, 3) := by decide +kernel
theorem dX11_meet_40 : decode cX11_meet 40 = .ok (.iconst (-1), 1) := by decide +kernel
theorem dX11_meet_41 : decode cX11_meet 41 = .ok (.istore 4, 2) := by decide +kernel
theorem dX11_meet_43 : decode cX11_meet 43 = .ok (.iconst 0, 1) := by decide +kernel
theorem dX11_meet_44 : decode cX11_meet 44 = .ok (.istore 5, 2) := by decide +kernel
theorem dX11_meet_46 : decode cX11_meet 46 = .ok (.iload 5, 2) := by decide +kernel
theorem dX11_meet_48 : decode cX11_meet 48 = .ok (.aload_n 0, 1) := by decide +kernel
theorem dX11_meet_49 : decode cX11_meet 49 = .ok (.getfield 12, 3) := by decide +kernel
theorem dX11_meet_52 : decode cX11_meet 52 = .ok (.getfield 211, 3) := by decide +kernel
theorem dX11_meet_55 : decode cX11_meet 55 = .ok (.if_icmp .ge 40, 3) := by decide +kernel
theorem dX11_meet_58 : decode cX11_meet 58 = .ok (.aload_n 0, 1) := by decide +kernel
theorem dX11_meet_59 : decode cX11_meet 59 = .ok (.getfield 82, 3) := by decide +kernel
theorem dX11_meet_62 : decode cX11_meet 62 = .ok (.iload 5, 2) := by decide +kernel
theorem dX11_meet_64 : decode cX11_meet 64 = .ok (.iaload, 1) := by decide +kernel
theorem dX11_meet_65 : decode cX11_meet 65 = .ok (.iload 4, 2) := by decide +kernel
theorem dX11_meet_67 : decode cX11_meet 67 = .ok (.ifCond .ge 8, 3) := by decide +kernel
theorem dX11_meet_70 : decode cX11_meet 70 = .ok (.ldc 210, 2) := by decide +kernel
theorem dX11_meet_72 : decode cX11_meet 72 = .ok (.goto 10, 3) := by decide +kernel
theorem dX11_meet_75 : decode cX11_meet 75 = .ok (.aload_n 0, 1) := by decide +kernel
theorem dX11_meet_76 : decode cX11_meet 76 = .ok (.getfield 82, 3) := by decide +kernel
theorem dX11_meet_79 : decode cX11_meet 79 = .ok (.iload 4, 2) := by decide +kernel
theorem dX11_meet_81 : decode cX11_meet 81 = .ok (.iaload, 1) := by decide +kernel
theorem dX11_meet_82 : decode cX11_meet 82 = .ok (.if_icmp .ge 7, 3) := by decide +kernel
theorem dX11_meet_85 : decode cX11_meet 85 = .ok (.iload 5, 2) := by decide +kernel
theorem dX11_meet_87 : decode cX11_meet 87 = .ok (.istore 4, 2) := by decide +kernel
theorem dX11_meet_89 : decode cX11_meet 89 = .ok (.iinc 5 1, 3) := by decide +kernel
theorem dX11_meet_92 : decode cX11_meet 92 = .ok (.goto (-46), 3) := by decide +kernel
theorem dX11_meet_95 : decode cX11_meet 95 = .ok (.iload 4, 2) := by decide +kernel
theorem dX11_meet_97 : decode cX11_meet 97 = .ok (.ifCond .lt 14, 3) := by decide +kernel
theorem dX11_meet_100 : decode cX11_meet 100 = .ok (.aload_n 0, 1) := by decide +kernel
theorem dX11_meet_101 : decode cX11_meet 101 = .ok (.aload_n 0, 1) := by decide +kernel
theorem dX11_meet_102 : decode cX11_meet 102 = .ok (.getfield 82, 3) := by decide +kernel
theorem dX11_meet_105 : decode cX11_meet 105 = .ok (.iload 4, 2) := by decide +kernel
theorem dX11_meet_107 : decode cX11_meet 107 = .ok (.iaload, 1) := by decide +kernel
theorem dX11_meet_108 : decode cX11_meet 108 = .ok (.putfield 86, 3) := by decide +kernel
theorem dX11_meet_111 : decode cX11_meet 111 = .ok (.iload 4, 2) := by decide +kernel
theorem dX11_meet_113 : decode cX11_meet 113 = .ok (.ireturn, 1) := by decide +kernel
theorem dX11_met_0 : decode cX11_met 0 = .ok (.aload_n 0, 1) := by decide +kernel
theorem dX11_met_1 : decode cX11_met 1 = .ok (.getfield 86, 3) := by decide +kernel
theorem dX11_met_4 : decode cX11_met 4 = .ok (.ireturn, 1) := by decide +kernel
theorem dX11_table_0 : decode cX11_table 0 = .ok (.aload_n 0, 1) := by decide +kernel
theorem dX11_table_1 : decode cX11_table 1 = .ok (.getfield 12, 3) := by decide +kernel
theorem dX11_table_4 : decode cX11_table 4 = .ok (.iload_n 1, 1) := by decide +kernel
theorem dX11_table_5 : decode cX11_table 5 = .ok (.invokevirtual 117, 3) := by decide +kernel
theorem dX11_table_8 : decode cX11_table 8 = .ok (.ifCond .eq 20, 3) := by decide +kernel
theorem dX11_table_11 : decode cX11_table 11 = .ok (.iload_n 2, 1) := by decide +kernel
theorem dX11_table_12 : decode cX11_table 12 = .ok (.invokestatic 106, 3) := by decide +kernel
theorem dX11_table_15 : decode cX11_table 15 = .ok (.ifCond .eq 13, 3) := by decide +kernel
theorem dX11_table_18 : decode cX11_table 18 = .ok (.iload 4, 2) := by decide +kernel
theorem dX11_table_20 : decode cX11_table 20 = .ok (.iconst 0, 1) := by decide +kernel
theorem dX11_table_21 : decode cX11_table 21 = .ok (.iconst 3, 1) := by decide +kernel
theorem dX11_table_22 : decode cX11_table 22 = .ok (.invokestatic 90, 3) := by decide +kernel
theorem dX11_table_25 : decode cX11_table 25 = .ok (.ifCond .ne 6, 3) := by decide +kernel
theorem dX11_table_28 : decode cX11_table 28 = .ok (.bipush (-2), 2) := by decide +kernel
theorem dX11_table_30 : decode cX11_table 30 = .ok (.ireturn, 1) := by decide +kernel
theorem dX11_table_31 : decode cX11_table 31 = .ok (.aload_n 0, 1) := by decide +kernel
theorem dX11_table_32 : decode cX11_table 32 = .ok (.getfield 78, 3) := by decide +kernel
theorem dX11_table_35 : decode cX11_table 35 = .ok (.iload_n 1, 1) := by decide +kernel
theorem dX11_table_36 : decode cX11_table 36 = .ok (.iload_n 2, 1) := by decide +kernel
theorem dX11_table_37 : decode cX11_table 37 = .ok (.invokevirtual 216, 3) := by decide +kernel
theorem dX11_table_40 : decode cX11_table 40 = .ok (.istore 5, 2) := by decide +kernel
theorem dX11_table_42 : decode cX11_table 42 = .ok (.iload_n 3, 1) := by decide +kernel
theorem dX11_table_43 : decode cX11_table 43 = .ok (.iconst 0, 1) := by decide +kernel
theorem dX11_table_44 : decode cX11_table 44 = .ok (.iload 5, 2) := by decide +kernel
theorem dX11_table_46 : decode cX11_table 46 = .ok (.iconst 1, 1) := by decide +kernel
theorem dX11_table_47 : decode cX11_table 47 = .ok (.isub, 1) := by decide +kernel
theorem dX11_table_48 : decode cX11_table 48 = .ok (.invokestatic 90, 3) := by decide +kernel
theorem dX11_table_51 : decode cX11_table 51 = .ok (.ifCond .eq 17, 3) := by decide +kernel
theorem dX11_table_54 : decode cX11_table 54 = .ok (.aload_n 0, 1) := by decide +kernel
theorem dX11_table_55 : decode cX11_table 55 = .ok (.getfield 78, 3) := by decide +kernel
theorem dX11_table_58 : decode cX11_table 58 = .ok (.iload_n 3, 1) := by decide +kernel
theorem dX11_table_59 : decode cX11_table 59 = .ok (.iload_n 2, 1) := by decide +kernel
theorem dX11_table_60 : decode cX11_table 60 = .ok (.iload 4, 2) := by decide +kernel
theorem dX11_table_62 : decode cX11_table 62 = .ok (.invokevirtual 218, 3) := by decide +kernel
theorem dX11_table_65 : decode cX11_table 65 = .ok (.goto 4, 3) := by decide +kernel
theorem dX11_table_68 : decode cX11_table 68 = .ok (.iconst (-1), 1) := by decide +kernel
theorem dX11_table_69 : decode cX11_table 69 = .ok (.ireturn, 1) := by decide +kernel
theorem dX11_count_0 : decode cX11_count 0 = .ok (.iload_n 1, 1) := by decide +kernel
theorem dX11_count_1 : decode cX11_count 1 = .ok (.tableswitch 102 0 6 #[43, 51, 59, 67, 75, 83, 91], 43) := by decide +kernel
theorem dX11_count_44 : decode cX11_count 44 = .ok (.aload_n 0, 1) := by decide +kernel
theorem dX11_count_45 : decode cX11_count 45 = .ok (.getfield 12, 3) := by decide +kernel
theorem dX11_count_48 : decode cX11_count 48 = .ok (.getfield 211, 3) := by decide +kernel
theorem dX11_count_51 : decode cX11_count 51 = .ok (.ireturn, 1) := by decide +kernel
theorem dX11_count_52 : decode cX11_count 52 = .ok (.aload_n 0, 1) := by decide +kernel
theorem dX11_count_53 : decode cX11_count 53 = .ok (.getfield 19, 3) := by decide +kernel
theorem dX11_count_56 : decode cX11_count 56 = .ok (.getfield 221, 3) := by decide +kernel
theorem dX11_count_59 : decode cX11_count 59 = .ok (.ireturn, 1) := by decide +kernel
theorem dX11_count_60 : decode cX11_count 60 = .ok (.aload_n 0, 1) := by decide +kernel
theorem dX11_count_61 : decode cX11_count 61 = .ok (.getfield 26, 3) := by decide +kernel
theorem dX11_count_64 : decode cX11_count 64 = .ok (.getfield 222, 3) := by decide +kernel
theorem dX11_count_67 : decode cX11_count 67 = .ok (.ireturn, 1) := by decide +kernel
theorem dX11_count_68 : decode cX11_count 68 = .ok (.aload_n 0, 1) := by decide +kernel
theorem dX11_count_69 : decode cX11_count 69 = .ok (.getfield 69, 3) := by decide +kernel
theorem dX11_count_72 : decode cX11_count 72 = .ok (.getfield 223, 3) := by decide +kernel
theorem dX11_count_75 : decode cX11_count 75 = .ok (.ireturn, 1) := by decide +kernel
theorem dX11_count_76 : decode cX11_count 76 = .ok (.aload_n 0, 1) := by decide +kernel
theorem dX11_count_77 : decode cX11_count 77 = .ok (.getfield 42, 3) := by decide +kernel
theorem dX11_count_80 : decode cX11_count 80 = .ok (.getfield 224, 3) := by decide +kernel
theorem dX11_count_83 : decode cX11_count 83 = .ok (.ireturn, 1) := by decide +kernel
theorem dX11_count_84 : decode cX11_count 84 = .ok (.aload_n 0, 1) := by decide +kernel
theorem dX11_count_85 : decode cX11_count 85 = .ok (.getfield 42, 3) := by decide +kernel
theorem dX11_count_88 : decode cX11_count 88 = .ok (.getfield 225, 3) := by decide +kernel
theorem dX11_count_91 : decode cX11_count 91 = .ok (.ireturn, 1) := by decide +kernel
theorem dX11_count_92 : decode cX11_count 92 = .ok (.aload_n 0, 1) := by decide +kernel
theorem dX11_count_93 : decode cX11_count 93 = .ok (.getfield 19, 3) := by decide +kernel
theorem dX11_count_96 : decode cX11_count 96 = .ok (.getfield 144, 3) := by decide +kernel
theorem dX11_count_99 : decode cX11_count 99 = .ok (.getfield 228, 3) := by decide +kernel
theorem dX11_count_102 : decode cX11_count 102 = .ok (.ireturn, 1) := by decide +kernel
theorem dX11_count_103 : decode cX11_count 103 = .ok (.bipush (-2), 2) := by decide +kernel
theorem dX11_count_105 : decode cX11_count 105 = .ok (.ireturn, 1) := by decide +kernel
theorem dX11_gather_0 : decode cX11_gather 0 = .ok (.sipush 1440, 3) := by decide +kernel
theorem dX11_gather_3 : decode cX11_gather 3 = .ok (.iload_n 2, 1) := by decide +kernel
theorem dX11_gather_4 : decode cX11_gather 4 = .ok (.imul, 1) := by decide +kernel
theorem dX11_gather_5 : decode cX11_gather 5 = .ok (.iload_n 3, 1) := by decide +kernel
theorem dX11_gather_6 : decode cX11_gather 6 = .ok (.iadd, 1) := by decide +kernel
theorem dX11_gather_7 : decode cX11_gather 7 = .ok (.istore 4, 2) := by decide +kernel
theorem dX11_gather_9 : decode cX11_gather 9 = .ok (.aload_n 0, 1) := by decide +kernel
theorem dX11_gather_10 : decode cX11_gather 10 = .ok (.getfield 51, 3) := by decide +kernel
theorem dX11_gather_13 : decode cX11_gather 13 = .ok (.iload_n 2, 1) := by decide +kernel
theorem dX11_gather_14 : decode cX11_gather 14 = .ok (.iload 4, 2) := by decide +kernel
theorem dX11_gather_16 : decode cX11_gather 16 = .ok (.invokevirtual 156, 3) := by decide +kernel
theorem dX11_gather_19 : decode cX11_gather 19 = .ok (.aload_n 0, 1) := by decide +kernel
theorem dX11_gather_20 : decode cX11_gather 20 = .ok (.getfield 82, 3) := by decide +kernel
theorem dX11_gather_23 : decode cX11_gather 23 = .ok (.iload 4, 2) := by decide +kernel
theorem dX11_gather_25 : decode cX11_gather 25 = .ok (.invokestatic 229, 3) := by decide +kernel
theorem dX11_gather_28 : decode cX11_gather 28 = .ok (.iconst 0, 1) := by decide +kernel
theorem dX11_gather_29 : decode cX11_gather 29 = .ok (.istore 5, 2) := by decide +kernel
theorem dX11_gather_31 : decode cX11_gather 31 = .ok (.iload 5, 2) := by decide +kernel
theorem dX11_gather_33 : decode cX11_gather 33 = .ok (.aload_n 0, 1) := by decide +kernel
theorem dX11_gather_34 : decode cX11_gather 34 = .ok (.getfield 12, 3) := by decide +kernel
theorem dX11_gather_37 : decode cX11_gather 37 = .ok (.getfield 211, 3) := by decide +kernel
theorem dX11_gather_40 : decode cX11_gather 40 = .ok (.if_icmp .ge 77, 3) := by decide +kernel
theorem dX11_gather_43 : decode cX11_gather 43 = .ok (.iload_n 1, 1) := by decide +kernel
theorem dX11_gather_44 : decode cX11_gather 44 = .ok (.iload 5, 2) := by decide +kernel
theorem dX11_gather_46 : decode cX11_gather 46 = .ok (.ishr, 1) := by decide +kernel
theorem dX11_gather_47 : decode cX11_gather 47 = .ok (.iconst 1, 1) := by decide +kernel
theorem dX11_gather_48 : decode cX11_gather 48 = .ok (.iand, 1) := by decide +kernel
theorem dX11_gather_49 : decode cX11_gather 49 = .ok (.ifCond .eq 62, 3) := by decide +kernel
theorem dX11_gather_52 : decode cX11_gather 52 = .ok (.aload_n 0, 1) := by decide +kernel
theorem dX11_gather_53 : decode cX11_gather 53 = .ok (.getfield 60, 3) := by decide +kernel
theorem dX11_gather_56 : decode cX11_gather 56 = .ok (.iload 5, 2) := by decide +kernel
theorem dX11_gather_58 : decode cX11_gather 58 = .ok (.iload 4, 2) := by decide +kernel
theorem dX11_gather_60 : decode cX11_gather 60 = .ok (.invokevirtual 204, 3) := by decide +kernel
theorem dX11_gather_63 : decode cX11_gather 63 = .ok (.iconst 0, 1) := by decide +kernel
theorem dX11_gather_64 : decode cX11_gather 64 = .ok (.istore 6, 2) := by decide +kernel
theorem dX11_gather_66 : decode cX11_gather 66 = .ok (.iload 6, 2) := by decide +kernel
theorem dX11_gather_68 : decode cX11_gather 68 = .ok (.aload_n 0, 1) := by decide +kernel
theorem dX11_gather_69 : decode cX11_gather 69 = .ok (.getfield 12, 3) := by decide +kernel
theorem dX11_gather_72 : decode cX11_gather 72 = .ok (.getfield 211, 3) := by decide +kernel
theorem dX11_gather_75 : decode cX11_gather 75 = .ok (.if_icmp .ge 36, 3) := by decide +kernel
theorem dX11_gather_78 : decode cX11_gather 78 = .ok (.aload_n 0, 1) := by decide +kernel
theorem dX11_gather_79 : decode cX11_gather 79 = .ok (.getfield 82, 3) := by decide +kernel
theorem dX11_gather_82 : decode cX11_gather 82 = .ok (.iload 6, 2) := by decide +kernel
theorem dX11_gather_84 : decode cX11_gather 84 = .ok (.aload_n 0, 1) := by decide +kernel
theorem dX11_gather_85 : decode cX11_gather 85 = .ok (.getfield 82, 3) := by decide +kernel
theorem dX11_gather_88 : decode cX11_gather 88 = .ok (.iload 6, 2) := by decide +kernel
theorem dX11_gather_90 : decode cX11_gather 90 = .ok (.iaload, 1) := by decide +kernel
theorem dX11_gather_91 : decode cX11_gather 91 = .ok (.aload_n 0, 1) := by decide +kernel
theorem dX11_gather_92 : decode cX11_gather 92 = .ok (.getfield 60, 3) := by decide +kernel
theorem dX11_gather_95 : decode cX11_gather 95 = .ok (.getfield 207, 3) := by decide +kernel
theorem dX11_gather_98 : decode cX11_gather 98 = .ok (.iload 6, 2) := by decide +kernel
theorem dX11_gather_100 : decode cX11_gather 100 = .ok (.iaload, 1) := by decide +kernel
theorem dX11_gather_101 : decode cX11_gather 101 = .ok (.invokestatic 196, 3) := by decide +kernel
theorem dX11_gather_104 : decode cX11_gather 104 = .ok (.iastore, 1) := by decide +kernel
theorem dX11_gather_105 : decode cX11_gather 105 = .ok (.iinc 6 1, 3) := by decide +kernel
theorem dX11_gather_108 : decode cX11_gather 108 = .ok (.goto (-42), 3) := by decide +kernel
theorem dX11_gather_111 : decode cX11_gather 111 = .ok (.iinc 5 1, 3) := by decide +kernel
theorem dX11_gather_114 : decode cX11_gather 114 = .ok (.goto (-83), 3) := by decide +kernel
theorem dX11_gather_117 : decode cX11_gather 117 = .ok (.return_, 1) := by decide +kernel
theorem dX11_between_0 : decode cX11_between 0 = .ok (.iload_n 0, 1) := by decide +kernel
theorem dX11_between_1 : decode cX11_between 1 = .ok (.iload_n 1, 1) := by decide +kernel
theorem dX11_between_2 : decode cX11_between 2 = .ok (.if_icmp .lt 12, 3) := by decide +kernel
theorem dX11_between_5 : decode cX11_between 5 = .ok (.iload_n 0, 1) := by decide +kernel
theorem dX11_between_6 : decode cX11_between 6 = .ok (.iload_n 2, 1) := by decide +kernel
theorem dX11_between_7 : decode cX11_between 7 = .ok (.if_icmp .gt 7, 3) := by decide +kernel
theorem dX11_between_10 : decode cX11_between 10 = .ok (.iconst 1, 1) := by decide +kernel
theorem dX11_between_11 : decode cX11_between 11 = .ok (.goto 4, 3) := by decide +kernel
theorem dX11_between_14 : decode cX11_between 14 = .ok (.iconst 0, 1) := by decide +kernel
theorem dX11_between_15 : decode cX11_between 15 = .ok (.ireturn, 1) := by decide +kernel
theorem dX11_isZone_0 : decode cX11_isZone 0 = .ok (.iload_n 0, 1) := by decide +kernel
theorem dX11_isZone_1 : decode cX11_isZone 1 = .ok (.iconst 0, 1) := by decide +kernel
theorem dX11_isZone_2 : decode cX11_isZone 2 = .ok (.iconst 3, 1) := by decide +kernel
theorem dX11_isZone_3 : decode cX11_isZone 3 = .ok (.invokestatic 90, 3) := by decide +kernel
theorem dX11_isZone_6 : decode cX11_isZone 6 = .ok (.ireturn, 1) := by decide +kernel
theorem dX11_isDay_0 : decode cX11_isDay 0 = .ok (.iload_n 0, 1) := by decide +kernel
theorem dX11_isDay_1 : decode cX11_isDay 1 = .ok (.iconst 0, 1) := by decide +kernel
theorem dX11_isDay_2 : decode cX11_isDay 2 = .ok (.bipush 99, 2) := by decide +kernel
theorem dX11_isDay_4 : decode cX11_isDay 4 = .ok (.invokestatic 90, 3) := by decide +kernel
theorem dX11_isDay_7 : decode cX11_isDay 7 = .ok (.ireturn, 1) := by decide +kernel
theorem dX11_isMinute_0 : decode cX11_isMinute 0 = .ok (.iload_n 0, 1) := by decide +kernel
theorem dX11_isMinute_1 : decode cX11_isMinute 1 = .ok (.iconst 0, 1) := by decide +kernel
theorem dX11_isMinute_2 : decode cX11_isMinute 2 = .ok (.sipush 1439, 3) := by decide +kernel
theorem dX11_isMinute_5 : decode cX11_isMinute 5 = .ok (.invokestatic 90, 3) := by decide +kernel
theorem dX11_isMinute_8 : decode cX11_isMinute 8 = .ok (.ireturn, 1) := by decide +kernel
theorem dX12_init_0 : decode cX12_init 0 = .ok (.aload_n 0, 1) := by decide +kernel
theorem dX12_init_1 : decode cX12_init 1 = .ok (.invokespecial 1, 3) := by decide +kernel
theorem dX12_init_4 : decode cX12_init 4 = .ok (.aload_n 0, 1) := by decide +kernel
theorem dX12_init_5 : decode cX12_init 5 = .ok (.bipush 12, 2) := by decide +kernel
theorem dX12_init_7 : decode cX12_init 7 = .ok (.newarray .int, 2) := by decide +kernel
theorem dX12_init_9 : decode cX12_init 9 = .ok (.putfield 7, 3) := by decide +kernel
theorem dX12_init_12 : decode cX12_init 12 = .ok (.aload_n 0, 1) := by decide +kernel
theorem dX12_init_13 : decode cX12_init 13 = .ok (.bipush 12, 2) := by decide +kernel
theorem dX12_init_15 : decode cX12_init 15 = .ok (.newarray .int, 2) := by decide +kernel
theorem dX12_init_17 : decode cX12_init 17 = .ok (.putfield 13, 3) := by decide +kernel
theorem dX12_init_20 : decode cX12_init 20 = .ok (.aload_n 0, 1) := by decide +kernel
theorem dX12_init_21 : decode cX12_init 21 = .ok (.bipush 16, 2) := by decide +kernel
theorem dX12_init_23 : decode cX12_init 23 = .ok (.newarray .int, 2) := by decide +kernel
theorem dX12_init_25 : decode cX12_init 25 = .ok (.putfield 16, 3) := by decide +kernel
theorem dX12_init_28 : decode cX12_init 28 = .ok (.aload_n 0, 1) := by decide +kernel
theorem dX12_init_29 : decode cX12_init 29 = .ok (.bipush 100, 2) := by decide +kernel
theorem dX12_init_31 : decode cX12_init 31 = .ok (.newarray .int, 2) := by decide +kernel
theorem dX12_init_33 : decode cX12_init 33 = .ok (.putfield 19, 3) := by decide +kernel
theorem dX12_init_36 : decode cX12_init 36 = .ok (.aload_n 0, 1) := by decide +kernel
theorem dX12_init_37 : decode cX12_init 37 = .ok (.bipush 24, 2) := by decide +kernel
theorem dX12_init_39 : decode cX12_init 39 = .ok (.newarray .int, 2) := by decide +kernel
theorem dX12_init_41 : decode cX12_init 41 = .ok (.putfield 22, 3) := by decide +kernel
theorem dX12_init_44 : decode cX12_init 44 = .ok (.aload_n 0, 1) := by decide +kernel
theorem dX12_init_45 : decode cX12_init 45 = .ok (.bipush 24, 2) := by decide +kernel
theorem dX12_init_47 : decode cX12_init 47 = .ok (.newarray .int, 2) := by decide +kernel
theorem dX12_init_49 : decode cX12_init 49 = .ok (.putfield 25, 3) := by decide +kernel
theorem dX12_init_52 : decode cX12_init 52 = .ok (.aload_n 0, 1) := by decide +kernel
theorem dX12_init_53 : decode cX12_init 53 = .ok (.bipush 24, 2) := by decide +kernel
theorem dX12_init_55 : decode cX12_init 55 = .ok (.newarray .int, 2) := by decide +kernel
theorem dX12_init_57 : decode cX12_init 57 = .ok (.putfield 28, 3) := by decide +kernel
theorem dX12_init_60 : decode cX12_init 60 = .ok (.aload_n 0, 1) := by decide +kernel
theorem dX12_init_61 : decode cX12_init 61 = .ok (.bipush 24, 2) := by decide +kernel
theorem dX12_init_63 : decode cX12_init 63 = .ok (.newarray .int, 2) := by decide +kernel
theorem dX12_init_65 : decode cX12_init 65 = .ok (.putfield 31, 3) := by decide +kernel
theorem dX12_init_68 : decode cX12_init 68 = .ok (.aload_n 0, 1) := by decide +kernel
theorem dX12_init_69 : decode cX12_init 69 = .ok (.sipush 192, 3) := by decide +kernel
theorem dX12_init_72 : decode cX12_init 72 = .ok (.newarray .int, 2) := by decide +kernel
theorem dX12_init_74 : decode cX12_init 74 = .ok (.putfield 34, 3) := by decide +kernel
theorem dX12_init_77 : decode cX12_init 77 = .ok (.aload_n 0, 1) := by decide +kernel
theorem dX12_init_78 : decode cX12_init 78 = .ok (.sipush 192, 3) := by decide +kernel
theorem dX12_init_81 : decode cX12_init 81 = .ok (.newarray .int, 2) := by decide +kernel
theorem dX12_init_83 : decode cX12_init 83 = .ok (.putfield 37, 3) := by decide +kernel
theorem dX12_init_86 : decode cX12_init 86 = .ok (.aload_n 0, 1) := by decide +kernel
theorem dX12_init_87 : decode cX12_init 87 = .ok (.sipush 192, 3) := by decide +kernel
theorem dX12_init_90 : decode cX12_init 90 = .ok (.newarray .int, 2) := by decide +kernel
theorem dX12_init_92 : decode cX12_init 92 = .ok (.putfield 40, 3) := by decide +kernel
theorem dX12_init_95 : decode cX12_init 95 = .ok (.aload_n 0, 1) := by decide +kernel
theorem dX12_init_96 : decode cX12_init 96 = .ok (.sipush 192, 3) := by decide +kernel
theorem dX12_init_99 : decode cX12_init 99 = .ok (.newarray .boolean, 2) := by decide +kernel
theorem dX12_init_101 : decode cX12_init 101 = .ok (.putfield 43, 3) := by decide +kernel
theorem dX12_init_104 : decode cX12_init 104 = .ok (.aload_n 0, 1) := by decide +kernel
theorem dX12_init_105 : decode cX12_init 105 = .ok (.sipush 2400, 3) := by decide +kernel
theorem dX12_init_108 : decode cX12_init 108 = .ok (.newarray .boolean, 2) := by decide +kernel
theorem dX12_init_110 : decode cX12_init 110 = .ok (.putfield 47, 3) := by decide +kernel
theorem dX12_init_113 : decode cX12_init 113 = .ok (.aload_n 0, 1) := by decide +kernel
theorem dX12_init_114 : decode cX12_init 114 = .ok (.bipush 20, 2) := by decide +kernel
theorem dX12_init_116 : decode cX12_init 116 = .ok (.newarray .int, 2) := by decide +kernel
theorem dX12_init_118 : decode cX12_init 118 = .ok (.putfield 50, 3) := by decide +kernel
theorem dX12_init_121 : decode cX12_init 121 = .ok (.aload_n 0, 1) := by decide +kernel
theorem dX12_init_122 : decode cX12_init 122 = .ok (.bipush 20, 2) := by decide +kernel
theorem dX12_init_124 : decode cX12_init 124 = .ok (.newarray .int, 2) := by decide +kernel
theorem dX12_init_126 : decode cX12_init 126 = .ok (.putfield 53, 3) := by decide +kernel
theorem dX12_init_129 : decode cX12_init 129 = .ok (.aload_n 0, 1) := by decide +kernel
theorem dX12_init_130 : decode cX12_init 130 = .ok (.bipush 20, 2) := by decide +kernel
theorem dX12_init_132 : decode cX12_init 132 = .ok (.newarray .int, 2) := by decide +kernel
theorem dX12_init_134 : decode cX12_init 134 = .ok (.putfield 56, 3) := by decide +kernel
theorem dX12_init_137 : decode cX12_init 137 = .ok (.aload_n 0, 1) := by decide +kernel
theorem dX12_init_138 : decode cX12_init 138 = .ok (.bipush 20, 2) := by decide +kernel
theorem dX12_init_140 : decode cX12_init 140 = .ok (.newarray .int, 2) := by decide +kernel
theorem dX12_init_142 : decode cX12_init 142 = .ok (.putfield 59, 3) := by decide +kernel
theorem dX12_init_145 : decode cX12_init 145 = .ok (.aload_n 0, 1) := by decide +kernel
theorem dX12_init_146 : decode cX12_init 146 = .ok (.bipush 20, 2) := by decide +kernel
theorem dX12_init_148 : decode cX12_init 148 = .ok (.newarray .int, 2) := by decide +kernel
theorem dX12_init_150 : decode cX12_init 150 = .ok (.putfield 62, 3) := by decide +kernel
theorem dX12_init_153 : decode cX12_init 153 = .ok (.aload_n 0, 1) := by decide +kernel
theorem dX12_init_154 : decode cX12_init 154 = .ok (.bipush 20, 2) := by decide +kernel
theorem dX12_init_156 : decode cX12_init 156 = .ok (.newarray .int, 2) := by decide +kernel
theorem dX12_init_158 : decode cX12_init 158 = .ok (.putfield 65, 3) := by decide +kernel
theorem dX12_init_161 : decode cX12_init 161 = .ok (.aload_n 0, 1) := by decide +kernel
theorem dX12_init_162 : decode cX12_init 162 = .ok (.bipush 20, 2) := by decide +kernel
theorem dX12_init_164 : decode cX12_init 164 = .ok (.newarray .int, 2) := by decide +kernel
theorem dX12_init_166 : decode cX12_init 166 = .ok (.putfield 68, 3) := by decide +kernel
theorem dX12_init_169 : decode cX12_init 169 = .ok (.aload_n 0, 1) := by decide +kernel
theorem dX12_init_170 : decode cX12_init 170 = .ok (.bipush 20, 2) := by decide +kernel
theorem dX12_init_172 : decode cX12_init 172 = .ok (.newarray .int, 2) := by decide +kernel
theorem dX12_init_174 : decode cX12_init 174 = .ok (.putfield 71, 3) := by decide +kernel
theorem dX12_init_177 : decode cX12_init 177 = .ok (.aload_n 0, 1) := by decide +kernel
theorem dX12_init_178 : decode cX12_init 178 = .ok (.bipush 60, 2) := by decide +kernel
theorem dX12_init_180 : decode cX12_init 180 = .ok (.newarray .int, 2) := by decide +kernel
theorem dX12_init_182 : decode cX12_init 182 = .ok (.putfield 74, 3) := by decide +kernel
theorem dX12_init_185 : decode cX12_init 185 = .ok (.aload_n 0, 1) := by decide +kernel
theorem dX12_init_186 : decode cX12_init 186 = .ok (.bipush 60, 2) := by decide +kernel
theorem dX12_init_188 : decode cX12_init 188 = .ok (.newarray .int, 2) := by decide +kernel
theorem dX12_init_190 : decode cX12_init 190 = .ok (.putfield 77, 3) := by decide +kernel
theorem dX12_init_193 : decode cX12_init 193 = .ok (.aload_n 0, 1) := by decide +kernel
theorem dX12_init_194 : decode cX12_init 194 = .ok (.bipush 60, 2) := by decide +kernel
theorem dX12_init_196 : decode cX12_init 196 = .ok (.newarray .int, 2) := by decide +kernel
theorem dX12_init_198 : decode cX12_init 198 = .ok (.putfield 80, 3) := by decide +kernel
theorem dX12_init_201 : decode cX12_init 201 = .ok (.aload_n 0, 1) := by decide +kernel
theorem dX12_init_202 : decode cX12_init 202 = .ok (.bipush 60, 2) := by decide +kernel
theorem dX12_init_204 : decode cX12_init 204 = .ok (.newarray .int, 2) := by decide +kernel
theorem dX12_init_206 : decode cX12_init 206 = .ok (.putfield 83, 3) := by decide +kernel
theorem dX12_init_209 : decode cX12_init 209 = .ok (.aload_n 0, 1) := by decide +kernel
theorem dX12_init_210 : decode cX12_init 210 = .ok (.sipush 19200, 3) := by decide +kernel
theorem dX12_init_213 : decode cX12_init 213 = .ok (.newarray .int, 2) := by decide +kernel
theorem dX12_init_215 : decode cX12_init 215 = .ok (.putfield 86, 3) := by decide +kernel
theorem dX12_init_218 : decode cX12_init 218 = .ok (.aload_n 0, 1) := by decide +kernel
theorem dX12_init_219 : decode cX12_init 219 = .ok (.sipush 2400, 3) := by decide +kernel
theorem dX12_init_222 : decode cX12_init 222 = .ok (.newarray .int, 2) := by decide +kernel
theorem dX12_init_224 : decode cX12_init 224 = .ok (.putfield 89, 3) := by decide +kernel
theorem dX12_init_227 : decode cX12_init 227 = .ok (.aload_n 0, 1) := by decide +kernel
theorem dX12_init_228 : decode cX12_init 228 = .ok (.sipush 2400, 3) := by decide +kernel
theorem dX12_init_231 : decode cX12_init 231 = .ok (.newarray .int, 2) := by decide +kernel
theorem dX12_init_233 : decode cX12_init 233 = .ok (.putfield 92, 3) := by decide +kernel
theorem dX12_init_236 : decode cX12_init 236 = .ok (.aload_n 0, 1) := by decide +kernel
theorem dX12_init_237 : decode cX12_init 237 = .ok (.sipush 19200, 3) := by decide +kernel
theorem dX12_init_240 : decode cX12_init 240 = .ok (.newarray .int, 2) := by decide +kernel
theorem dX12_init_242 : decode cX12_init 242 = .ok (.putfield 95, 3) := by decide +kernel
theorem dX12_init_245 : decode cX12_init 245 = .ok (.aload_n 0, 1) := by decide +kernel
theorem dX12_init_246 : decode cX12_init 246 = .ok (.sipush 19200, 3) := by decide +kernel
theorem dX12_init_249 : decode cX12_init 249 = .ok (.newarray .int, 2) := by decide +kernel
theorem dX12_init_251 : decode cX12_init 251 = .ok (.putfield 98, 3) := by decide +kernel
theorem dX12_init_254 : decode cX12_init 254 = .ok (.aload_n 0, 1) := by decide +kernel
theorem dX12_init_255 : decode cX12_init 255 = .ok (.sipush 1344, 3) := by decide +kernel
theorem dX12_init_258 : decode cX12_init 258 = .ok (.newarray .int, 2) := by decide +kernel
theorem dX12_init_260 : decode cX12_init 260 = .ok (.putfield 101, 3) := by decide +kernel
theorem dX12_init_263 : decode cX12_init 263 = .ok (.aload_n 0, 1) := by decide +kernel
theorem dX12_init_264 : decode cX12_init 264 = .ok (.sipush 1344, 3) := by decide +kernel
theorem dX12_init_267 : decode cX12_init 267 = .ok (.newarray .int, 2) := by decide +kernel
theorem dX12_init_269 : decode cX12_init 269 = .ok (.putfield 104, 3) := by decide +kernel
theorem dX12_init_272 : decode cX12_init 272 = .ok (.aload_n 0, 1) := by decide +kernel
theorem dX12_init_273 : decode cX12_init 273 = .ok (.bipush 112, 2) := by decide +kernel
theorem dX12_init_275 : decode cX12_init 275 = .ok (.newarray .int, 2) := by decide +kernel
theorem dX12_init_277 : decode cX12_init 277 = .ok (.putfield 107, 3) := by decide +kernel
theorem dX12_init_280 : decode cX12_init 280 = .ok (.aload_n 0, 1) := by decide +kernel
theorem dX12_init_281 : decode cX12_init 281 = .ok (.bipush 112, 2) := by decide +kernel
theorem dX12_init_283 : decode cX12_init 283 = .ok (.newarray .int, 2) := by decide +kernel
theorem dX12_init_285 : decode cX12_init 285 = .ok (.putfield 110, 3) := by decide +kernel
theorem dX12_init_288 : decode cX12_init 288 = .ok (.aload_n 0, 1) := by decide +kernel
theorem dX12_init_289 : decode cX12_init 289 = .ok (.bipush 112, 2) := by decide +kernel
theorem dX12_init_291 : decode cX12_init 291 = .ok (.newarray .int, 2) := by decide +kernel
theorem dX12_init_293 : decode cX12_init 293 = .ok (.putfield 113, 3) := by decide +kernel
theorem dX12_init_296 : decode cX12_init 296 = .ok (.aload_n 0, 1) := by decide +kernel
theorem dX12_init_297 : decode cX12_init 297 = .ok (.bipush 112, 2) := by decide +kernel
theorem dX12_init_299 : decode cX12_init 299 = .ok (.newarray .int, 2) := by decide +kernel
theorem dX12_init_301 : decode cX12_init 301 = .ok (.putfield 116, 3) := by decide +kernel
theorem dX12_init_304 : decode cX12_init 304 = .ok (.aload_n 0, 1) := by decide +kernel
theorem dX12_init_305 : decode cX12_init 305 = .ok (.bipush 112, 2) := by decide +kernel
theorem dX12_init_307 : decode cX12_init 307 = .ok (.newarray .int, 2) := by decide +kernel
theorem dX12_init_309 : decode cX12_init 309 = .ok (.putfield 119, 3) := by decide +kernel
theorem dX12_init_312 : decode cX12_init 312 = .ok (.aload_n 0, 1) := by decide +kernel
theorem dX12_init_313 : decode cX12_init 313 = .ok (.sipush 7056, 3) := by decide +kernel
theorem dX12_init_316 : decode cX12_init 316 = .ok (.newarray .int, 2) := by decide +kernel
theorem dX12_init_318 : decode cX12_init 318 = .ok (.putfield 122, 3) := by decide +kernel
theorem dX12_init_321 : decode cX12_init 321 = .ok (.aload_n 0, 1) := by decide +kernel
theorem dX12_init_322 : decode cX12_init 322 = .ok (.bipush 63, 2) := by decide +kernel
theorem dX12_init_324 : decode cX12_init 324 = .ok (.newarray .int, 2) := by decide +kernel
theorem dX12_init_326 : decode cX12_init 326 = .ok (.putfield 125, 3) := by decide +kernel
theorem dX12_init_329 : decode cX12_init 329 = .ok (.aload_n 0, 1) := by decide +kernel
theorem dX12_init_330 : decode cX12_init 330 = .ok (.bipush 30, 2) := by decide +kernel
theorem dX12_init_332 : decode cX12_init 332 = .ok (.newarray .int, 2) := by decide +kernel
theorem dX12_init_334 : decode cX12_init 334 = .ok (.putfield 128, 3) := by decide +kernel
theorem dX12_init_337 : decode cX12_init 337 = .ok (.aload_n 0, 1) := by decide +kernel
theorem dX12_init_338 : decode cX12_init 338 = .ok (.bipush 30, 2) := by decide +kernel
theorem dX12_init_340 : decode cX12_init 340 = .ok (.newarray .int, 2) := by decide +kernel
theorem dX12_init_342 : decode cX12_init 342 = .ok (.putfield 131, 3) := by decide +kernel
theorem dX12_init_345 : decode cX12_init 345 = .ok (.aload_n 0, 1) := by decide +kernel
theorem dX12_init_346 : decode cX12_init 346 = .ok (.sipush 1890, 3) := by decide +kernel
theorem dX12_init_349 : decode cX12_init 349 = .ok (.newarray .int, 2) := by decide +kernel
theorem dX12_init_351 : decode cX12_init 351 = .ok (.putfield 134, 3) := by decide +kernel
theorem dX12_init_354 : decode cX12_init 354 = .ok (.aload_n 0, 1) := by decide +kernel
theorem dX12_init_355 : decode cX12_init 355 = .ok (.bipush 30, 2) := by decide +kernel
theorem dX12_init_357 : decode cX12_init 357 = .ok (.newarray .boolean, 2) := by decide +kernel
theorem dX12_init_359 : decode cX12_init 359 = .ok (.putfield 137, 3) := by decide +kernel
theorem dX12_init_362 : decode cX12_init 362 = .ok (.aload_n 0, 1) := by decide +kernel
theorem dX12_init_363 : decode cX12_init 363 = .ok (.iconst (-1), 1) := by decide +kernel
theorem dX12_init_364 : decode cX12_init 364 = .ok (.putfield 140, 3) := by decide +kernel
theorem dX12_init_367 : decode cX12_init 367 = .ok (.aload_n 0, 1) := by decide +kernel
theorem dX12_init_368 : decode cX12_init 368 = .ok (.bipush 12, 2) := by decide +kernel
theorem dX12_init_370 : decode cX12_init 370 = .ok (.newarray .int, 2) := by decide +kernel
theorem dX12_init_372 : decode cX12_init 372 = .ok (.putfield 144, 3) := by decide +kernel
theorem dX12_init_375 : decode cX12_init 375 = .ok (.iconst 0, 1) := by decide +kernel
theorem dX12_init_376 : decode cX12_init 376 = .ok (.istore_n 1, 1) := by decide +kernel
theorem dX12_init_377 : decode cX12_init 377 = .ok (.iload_n 1, 1) := by decide +kernel
theorem dX12_init_378 : decode cX12_init 378 = .ok (.bipush 100, 2) := by decide +kernel
theorem dX12_init_380 : decode cX12_init 380 = .ok (.if_icmp .ge 19, 3) := by decide +kernel
theorem dX12_init_383 : decode cX12_init 383 = .ok (.aload_n 0, 1) := by decide +kernel
theorem dX12_init_384 : decode cX12_init 384 = .ok (.getfield 19, 3) := by decide +kernel
theorem dX12_init_387 : decode cX12_init 387 = .ok (.iload_n 1, 1) := by decide +kernel
theorem dX12_init_388 : decode cX12_init 388 = .ok (.iload_n 1, 1) := by decide +kernel
theorem dX12_init_389 : decode cX12_init 389 = .ok (.bipush 7, 2) := by decide +kernel
theorem dX12_init_391 : decode cX12_init 391 = .ok (.irem, 1) := by decide +kernel
theorem dX12_init_392 : decode cX12_init 392 = .ok (.iastore, 1) := by decide +kernel
theorem dX12_init_393 : decode cX12_init 393 = .ok (.iinc 1 1, 3) := by decide +kernel
theorem dX12_init_396 : decode cX12_init 396 = .ok (.goto (-19), 3) := by decide +kernel
theorem dX12_init_399 : decode cX12_init 399 = .ok (.return_, 1) := by decide +kernel
theorem dX12_in_0 : decode cX12_in 0 = .ok (.iload_n 0, 1) := by decide +kernel
theorem dX12_in_1 : decode cX12_in 1 = .ok (.iload_n 1, 1) := by decide +kernel
theorem dX12_in_2 : decode cX12_in 2 = .ok (.if_icmp .lt 12, 3) := by decide +kernel
theorem dX12_in_5 : decode cX12_in 5 = .ok (.iload_n 0, 1) := by decide +kernel
theorem dX12_in_6 : decode cX12_in 6 = .ok (.iload_n 2, 1) := by decide +kernel
theorem dX12_in_7 : decode cX12_in 7 = .ok (.if_icmp .gt 7, 3) := by decide +kernel
theorem dX12_in_10 : decode cX12_in 10 = .ok (.iconst 1, 1) := by decide +kernel
theorem dX12_in_11 : decode cX12_in 11 = .ok (.goto 4, 3) := by decide +kernel
theorem dX12_in_14 : decode cX12_in 14 = .ok (.iconst 0, 1) := by decide +kernel
theorem dX12_in_15 : decode cX12_in 15 = .ok (.ireturn, 1) := by decide +kernel
theorem dX12_isStop_0 : decode cX12_isStop 0 = .ok (.iload_n 1, 1) := by decide +kernel
theorem dX12_isStop_1 : decode cX12_isStop 1 = .ok (.iconst 0, 1) := by decide +kernel
theorem dX12_isStop_2 : decode cX12_isStop 2 = .ok (.aload_n 0, 1) := by decide +kernel
theorem dX12_isStop_3 : decode cX12_isStop 3 = .ok (.getfield 147, 3) := by decide +kernel
theorem dX12_isStop_6 : decode cX12_isStop 6 = .ok (.iconst 1, 1) := by decide +kernel
theorem dX12_isStop_7 : decode cX12_isStop 7 = .ok (.isub, 1) := by decide +kernel
theorem dX12_isStop_8 : decode cX12_isStop 8 = .ok (.invokestatic 150, 3) := by decide +kernel
theorem dX12_isStop_11 : decode cX12_isStop 11 = .ok (.ireturn, 1) := by decide +kernel
theorem dX12_isDay_0 : decode cX12_isDay 0 = .ok (.iload_n 0, 1) := by decide +kernel
theorem dX12_isDay_1 : decode cX12_isDay 1 = .ok (.iconst 0, 1) := by decide +kernel
theorem dX12_isDay_2 : decode cX12_isDay 2 = .ok (.bipush 99, 2) := by decide +kernel
theorem dX12_isDay_4 : decode cX12_isDay 4 = .ok (.invokestatic 150, 3) := by decide +kernel
theorem dX12_isDay_7 : decode cX12_isDay 7 = .ok (.ireturn, 1) := by decide +kernel
theorem dX12_isTrip_0 : decode cX12_isTrip 0 = .ok (.iload_n 1, 1) := by decide +kernel
theorem dX12_isTrip_1 : decode cX12_isTrip 1 = .ok (.iconst 0, 1) := by decide +kernel
theorem dX12_isTrip_2 : decode cX12_isTrip 2 = .ok (.aload_n 0, 1) := by decide +kernel
theorem dX12_isTrip_3 : decode cX12_isTrip 3 = .ok (.getfield 154, 3) := by decide +kernel
theorem dX12_isTrip_6 : decode cX12_isTrip 6 = .ok (.iconst 1, 1) := by decide +kernel
theorem dX12_isTrip_7 : decode cX12_isTrip 7 = .ok (.isub, 1) := by decide +kernel
theorem dX12_isTrip_8 : decode cX12_isTrip 8 = .ok (.invokestatic 150, 3) := by decide +kernel
theorem dX12_isTrip_11 : decode cX12_isTrip 11 = .ok (.ireturn, 1) := by decide +kernel
theorem dX12_isCall_0 : decode cX12_isCall 0 = .ok (.aload_n 0, 1) := by decide +kernel
theorem dX12_isCall_1 : decode cX12_isCall 1 = .ok (.iload_n 1, 1) := by decide +kernel
theorem dX12_isCall_2 : decode cX12_isCall 2 = .ok (.invokevirtual 157, 3) := by decide +kernel
theorem dX12_isCall_5 : decode cX12_isCall 5 = .ok (.ifCond .eq 23, 3) := by decide +kernel
theorem dX12_isCall_8 : decode cX12_isCall 8 = .ok (.iload_n 2, 1) := by decide +kernel
theorem dX12_isCall_9 : decode cX12_isCall 9 = .ok (.iconst 0, 1) := by decide +kernel
theorem dX12_isCall_10 : decode cX12_isCall 10 = .ok (.aload_n 0, 1) := by decide +kernel
theorem dX12_isCall_11 : decode cX12_isCall 11 = .ok (.getfield 31, 3) := by decide +kernel
theorem dX12_isCall_14 : decode cX12_isCall 14 = .ok (.iload_n 1, 1) := by decide +kernel
theorem dX12_isCall_15 : decode cX12_isCall 15 = .ok (.iaload, 1) := by decide +kernel
theorem dX12_isCall_16 : decode cX12_isCall 16 = .ok (.iconst 1, 1) := by decide +kernel
theorem dX12_isCall_17 : decode cX12_isCall 17 = .ok (.isub, 1) := by decide +kernel
theorem dX12_isCall_18 : decode cX12_isCall 18 = .ok (.invokestatic 150, 3) := by decide +kernel
theorem dX12_isCall_21 : decode cX12_isCall 21 = .ok (.ifCond .eq 7, 3) := by decide +kernel
theorem dX12_isCall_24 : decode cX12_isCall 24 = .ok (.iconst 1, 1) := by decide +kernel
theorem dX12_isCall_25 : decode cX12_isCall 25 = .ok (.goto 4, 3) := by decide +kernel
theorem dX12_isCall_28 : decode cX12_isCall 28 = .ok (.iconst 0, 1) := by decide +kernel
theorem dX12_isCall_29 : decode cX12_isCall 29 = .ok (.ireturn, 1) := by decide +kernel
theorem dX12_isWalk_0 : decode cX12_isWalk 0 = .ok (.iload_n 1, 1) := by decide +kernel
theorem dX12_isWalk_1 : decode cX12_isWalk 1 = .ok (.iconst 0, 1) := by decide +kernel
theorem dX12_isWalk_2 : decode cX12_isWalk 2 = .ok (.aload_n 0, 1) := by decide +kernel
theorem dX12_isWalk_3 : decode cX12_isWalk 3 = .ok (.getfield 161, 3) := by decide +kernel
theorem dX12_isWalk_6 : decode cX12_isWalk 6 = .ok (.iconst 1, 1) := by decide +kernel
theorem dX12_isWalk_7 : decode cX12_isWalk 7 = .ok (.isub, 1) := by decide +kernel
theorem dX12_isWalk_8 : decode cX12_isWalk 8 = .ok (.invokestatic 150, 3) := by decide +kernel
theorem dX12_isWalk_11 : decode cX12_isWalk 11 = .ok (.ireturn, 1) := by decide +kernel
theorem dX12_stop_0 : decode cX12_stop 0 = .ok (.iload_n 1, 1) := by decide +kernel
theorem dX12_stop_1 : decode cX12_stop 1 = .ok (.iconst 0, 1) := by decide +kernel
theorem dX12_stop_2 : decode cX12_stop 2 = .ok (.bipush 30, 2) := by decide +kernel
theorem dX12_stop_4 : decode cX12_stop 4 = .ok (.invokestatic 150, 3) := by decide +kernel
theorem dX12_stop_7 : decode cX12_stop 7 = .ok (.ifCond .eq 21, 3) := by decide +kernel
theorem dX12_stop_10 : decode cX12_stop 10 = .ok (.iload_n 2, 1) := by decide +kernel
theorem dX12_stop_11 : decode cX12_stop 11 = .ok (.iconst 0, 1) := by decide +kernel
theorem dX12_stop_12 : decode cX12_stop 12 = .ok (.iconst 3, 1) := by decide +kernel
theorem dX12_stop_13 : decode cX12_stop 13 = .ok (.invokestatic 150, 3) := by decide +kernel
theorem dX12_stop_16 : decode cX12_stop 16 = .ok (.ifCond .eq 12, 3) := by decide +kernel
theorem dX12_stop_19 : decode cX12_stop 19 = .ok (.aload_n 0, 1) := by decide +kernel
theorem dX12_stop_20 : decode cX12_stop 20 = .ok (.getfield 147, 3) := by decide +kernel
theorem dX12_stop_23 : decode cX12_stop 23 = .ok (.bipush 12, 2) := by decide +kernel
theorem dX12_stop_25 : decode cX12_stop 25 = .ok (.if_icmp .ne 6, 3) := by decide +kernel
theorem dX12_stop_28 : decode cX12_stop 28 = .ok (.bipush (-2), 2) := by decide +kernel
theorem dX12_stop_30 : decode cX12_stop 30 = .ok (.ireturn, 1) := by decide +kernel
theorem dX12_stop_31 : decode cX12_stop 31 = .ok (.aload_n 0, 1) := by decide +kernel
theorem dX12_stop_32 : decode cX12_stop 32 = .ok (.getfield 7, 3) := by decide +kernel
theorem dX12_stop_35 : decode cX12_stop 35 = .ok (.aload_n 0, 1) := by decide +kernel
theorem dX12_stop_36 : decode cX12_stop 36 = .ok (.getfield 147, 3) := by decide +kernel
theorem dX12_stop_39 : decode cX12_stop 39 = .ok (.iload_n 1, 1) := by decide +kernel
theorem dX12_stop_40 : decode cX12_stop 40 = .ok (.iastore, 1) := by decide +kernel
theorem dX12_stop_41 : decode cX12_stop 41 = .ok (.aload_n 0, 1) := by decide +kernel
theorem dX12_stop_42 : decode cX12_stop 42 = .ok (.getfield 13, 3) := by decide +kernel
theorem dX12_stop_45 : decode cX12_stop 45 = .ok (.aload_n 0, 1) := by decide +kernel
theorem dX12_stop_46 : decode cX12_stop 46 = .ok (.getfield 147, 3) := by decide +kernel
theorem dX12_stop_49 : decode cX12_stop 49 = .ok (.iload_n 2, 1) := by decide +kernel
theorem dX12_stop_50 : decode cX12_stop 50 = .ok (.iastore, 1) := by decide +kernel
theorem dX12_stop_51 : decode cX12_stop 51 = .ok (.aload_n 0, 1) := by decide +kernel
theorem dX12_stop_52 : decode cX12_stop 52 = .ok (.dup, 1) := by decide +kernel
theorem dX12_stop_53 : decode cX12_stop 53 = .ok (.getfield 147, 3) := by decide +kernel
theorem dX12_stop_56 : decode cX12_stop 56 = .ok (.iconst 1, 1) := by decide +kernel
theorem dX12_stop_57 : decode cX12_stop 57 = .ok (.iadd, 1) := by decide +kernel
theorem dX12_stop_58 : decode cX12_stop 58 = .ok (.putfield 147, 3) := by decide +kernel
theorem dX12_stop_61 : decode cX12_stop 61 = .ok (.aload_n 0, 1) := by decide +kernel
theorem dX12_stop_62 : decode cX12_stop 62 = .ok (.getfield 147, 3) := by decide +kernel
theorem dX12_stop_65 : decode cX12_stop 65 = .ok (.iconst 1, 1) := by decide +kernel
theorem dX12_stop_66 : decode cX12_stop 66 = .ok (.isub, 1) := by decide +kernel
theorem dX12_stop_67 : decode cX12_stop 67 = .ok (.ireturn, 1) := by decide +kernel
theorem dX12_fare_0 : decode cX12_fare 0 = .ok (.iload_n 1, 1) := by decide +kernel
theorem dX12_fare_1 : decode cX12_fare 1 = .ok (.iconst 0, 1) := by decide +kernel
theorem dX12_fare_2 : decode cX12_fare 2 = .ok (.iconst 3, 1) := by decide +kernel
theorem dX12_fare_3 : decode cX12_fare 3 = .ok (.invokestatic 150, 3) := by decide +kernel
theorem dX12_fare_6 : decode cX12_fare 6 = .ok (.ifCond .eq 22, 3) := by decide +kernel
theorem dX12_fare_9 : decode cX12_fare 9 = .ok (.iload_n 2, 1) := by decide +kernel
theorem dX12_fare_10 : decode cX12_fare 10 = .ok (.iconst 0, 1) := by decide +kernel
theorem dX12_fare_11 : decode cX12_fare 11 = .ok (.iconst 3, 1) := by decide +kernel
theorem dX12_fare_12 : decode cX12_fare 12 = .ok (.invokestatic 150, 3) := by decide +kernel
theorem dX12_fare_15 : decode cX12_fare 15 = .ok (.ifCond .eq 13, 3) := by decide +kernel
theorem dX12_fare_18 : decode cX12_fare 18 = .ok (.iload_n 3, 1) := by decide +kernel
theorem dX12_fare_19 : decode cX12_fare 19 = .ok (.iconst 0, 1) := by decide +kernel
theorem dX12_fare_20 : decode cX12_fare 20 = .ok (.bipush 9, 2) := by decide +kernel
theorem dX12_fare_22 : decode cX12_fare 22 = .ok (.invokestatic 150, 3) := by decide +kernel
theorem dX12_fare_25 : decode cX12_fare 25 = .ok (.ifCond .ne 6, 3) := by decide +kernel
theorem dX12_fare_28 : decode cX12_fare 28 = .ok (.bipush (-2), 2) := by decide +kernel
theorem dX12_fare_30 : decode cX12_fare 30 = .ok (.ireturn, 1) := by decide +kernel
theorem dX12_fare_31 : decode cX12_fare 31 = .ok (.aload_n 0, 1) := by decide +kernel
theorem dX12_fare_32 : decode cX12_fare 32 = .ok (.getfield 16, 3) := by decide +kernel
theorem dX12_fare_35 : decode cX12_fare 35 = .ok (.iconst 4, 1) := by decide +kernel
theorem dX12_fare_36 : decode cX12_fare 36 = .ok (.iload_n 1, 1) := by decide +kernel
theorem dX12_fare_37 : decode cX12_fare 37 = .ok (.imul, 1) := by decide +kernel
theorem dX12_fare_38 : decode cX12_fare 38 = .ok (.iload_n 2, 1) := by decide +kernel
theorem dX12_fare_39 : decode cX12_fare 39 = .ok (.iadd, 1) := by decide +kernel
theorem dX12_fare_40 : decode cX12_fare 40 = .ok (.iaload, 1) := by decide +kernel
theorem dX12_fare_41 : decode cX12_fare 41 = .ok (.istore 4, 2) := by decide +kernel
theorem dX12_fare_43 : decode cX12_fare 43 = .ok (.aload_n 0, 1) := by decide +kernel
theorem dX12_fare_44 : decode cX12_fare 44 = .ok (.getfield 16, 3) := by decide +kernel
theorem dX12_fare_47 : decode cX12_fare 47 = .ok (.iconst 4, 1) := by decide +kernel
theorem dX12_fare_48 : decode cX12_fare 48 = .ok (.iload_n 1, 1) := by decide +kernel
theorem dX12_fare_49 : decode cX12_fare 49 = .ok (.imul, 1) := by decide +kernel
theorem dX12_fare_50 : decode cX12_fare 50 = .ok (.iload_n 2, 1) := by decide +kernel
theorem dX12_fare_51 : decode cX12_fare 51 = .ok (.iadd, 1) := by decide +kernel
theorem dX12_fare_52 : decode cX12_fare 52 = .ok (.iload_n 3, 1) := by decide +kernel
theorem dX12_fare_53 : decode cX12_fare 53 = .ok (.iastore, 1) := by decide +kernel
theorem dX12_fare_54 : decode cX12_fare 54 = .ok (.iload 4, 2) := by decide +kernel
theorem dX12_fare_56 : decode cX12_fare 56 = .ok (.ireturn, 1) := by decide +kernel
theorem dX12_day_0 : decode cX12_day 0 = .ok (.iload_n 1, 1) := by decide +kernel
theorem dX12_day_1 : decode cX12_day 1 = .ok (.invokestatic 164, 3) := by decide +kernel
theorem dX12_day_4 : decode cX12_day 4 = .ok (.ifCond .eq 13, 3) := by decide +kernel
theorem dX12_day_7 : decode cX12_day 7 = .ok (.iload_n 2, 1) := by decide +kernel
theorem dX12_day_8 : decode cX12_day 8 = .ok (.iconst 0, 1) := by decide +kernel
theorem dX12_day_9 : decode cX12_day 9 = .ok (.bipush 6, 2) := by decide +kernel
theorem dX12_day_11 : decode cX12_day 11 = .ok (.invokestatic 150, 3) := by decide +kernel
theorem dX12_day_14 : decode cX12_day 14 = .ok (.ifCond .ne 6, 3) := by decide +kernel
theorem dX12_day_17 : decode cX12_day 17 = .ok (.bipush (-2), 2) := by decide +kernel
theorem dX12_day_19 : decode cX12_day 19 = .ok (.ireturn, 1) := by decide +kernel
theorem dX12_day_20 : decode cX12_day 20 = .ok (.aload_n 0, 1) := by decide +kernel
theorem dX12_day_21 : decode cX12_day 21 = .ok (.getfield 19, 3) := by decide +kernel
theorem dX12_day_24 : decode cX12_day 24 = .ok (.iload_n 1, 1) := by decide +kernel
theorem dX12_day_25 : decode cX12_day 25 = .ok (.iaload, 1) := by decide +kernel
theorem dX12_day_26 : decode cX12_day 26 = .ok (.istore_n 3, 1) := by decide +kernel
theorem dX12_day_27 : decode cX12_day 27 = .ok (.aload_n 0, 1) := by decide +kernel
theorem dX12_day_28 : decode cX12_day 28 = .ok (.getfield 19, 3) := by decide +kernel
theorem dX12_day_31 : decode cX12_day 31 = .ok (.iload_n 1, 1) := by decide +kernel
theorem dX12_day_32 : decode cX12_day 32 = .ok (.iload_n 2, 1) := by decide +kernel
theorem dX12_day_33 : decode cX12_day 33 = .ok (.iastore, 1) := by decide +kernel
theorem dX12_day_34 : decode cX12_day 34 = .ok (.iload_n 3, 1) := by decide +kernel
theorem dX12_day_35 : decode cX12_day 35 = .ok (.ireturn, 1) := by decide +kernel
theorem dX12_trip_0 : decode cX12_trip 0 = .ok (.iload_n 1, 1) := by decide +kernel
theorem dX12_trip_1 : decode cX12_trip 1 = .ok (.iconst 0, 1) := by decide +kernel
theorem dX12_trip_2 : decode cX12_trip 2 = .ok (.iconst 2, 1) := by decide +kernel
theorem dX12_trip_3 : decode cX12_trip 3 = .ok (.invokestatic 150, 3) := by decide +kernel
theorem dX12_trip_6 : decode cX12_trip 6 = .ok (.ifCond .eq 43, 3) := by decide +kernel
theorem dX12_trip_9 : decode cX12_trip 9 = .ok (.iload_n 2, 1) := by decide +kernel
theorem dX12_trip_10 : decode cX12_trip 10 = .ok (.iconst 1, 1) := by decide +kernel
theorem dX12_trip_11 : decode cX12_trip 11 = .ok (.bipush 127, 2) := by decide +kernel
theorem dX12_trip_13 : decode cX12_trip 13 = .ok (.invokestatic 150, 3) := by decide +kernel
theorem dX12_trip_16 : decode cX12_trip 16 = .ok (.ifCond .eq 33, 3) := by decide +kernel
theorem dX12_trip_19 : decode cX12_trip 19 = .ok (.iload_n 1, 1) := by decide +kernel
theorem dX12_trip_20 : decode cX12_trip 20 = .ok (.ifCond .ne 10, 3) := by decide +kernel
theorem dX12_trip_23 : decode cX12_trip 23 = .ok (.iload_n 3, 1) := by decide +kernel
theorem dX12_trip_24 : decode cX12_trip 24 = .ok (.ifCond .eq 16, 3) := by decide +kernel
theorem dX12_trip_27 : decode cX12_trip 27 = .ok (.goto 22, 3) := by decide +kernel
theorem dX12_trip_30 : decode cX12_trip 30 = .ok (.iload_n 3, 1) := by decide +kernel
theorem dX12_trip_31 : decode cX12_trip 31 = .ok (.iconst 1, 1) := by decide +kernel
theorem dX12_trip_32 : decode cX12_trip 32 = .ok (.bipush 50, 2) := by decide +kernel
theorem dX12_trip_34 : decode cX12_trip 34 = .ok (.invokestatic 150, 3) := by decide +kernel
theorem dX12_trip_37 : decode cX12_trip 37 = .ok (.ifCond .eq 12, 3) := by decide +kernel
theorem dX12_trip_40 : decode cX12_trip 40 = .ok (.aload_n 0, 1) := by decide +kernel
theorem dX12_trip_41 : decode cX12_trip 41 = .ok (.getfield 154, 3) := by decide +kernel
theorem dX12_trip_44 : decode cX12_trip 44 = .ok (.bipush 24, 2) := by decide +kernel
theorem dX12_trip_46 : decode cX12_trip 46 = .ok (.if_icmp .ne 6, 3) := by decide +kernel
theorem dX12_trip_49 : decode cX12_trip 49 = .ok (.bipush (-2), 2) := by decide +kernel
theorem dX12_trip_51 : decode cX12_trip 51 = .ok (.ireturn, 1) := by decide +kernel
theorem dX12_trip_52 : decode cX12_trip 52 = .ok (.aload_n 0, 1) := by decide +kernel
theorem dX12_trip_53 : decode cX12_trip 53 = .ok (.getfield 22, 3) := by decide +kernel
theorem dX12_trip_56 : decode cX12_trip 56 = .ok (.aload_n 0, 1) := by decide +kernel
theorem dX12_trip_57 : decode cX12_trip 57 = .ok (.getfield 154, 3) := by decide +kernel
theorem dX12_trip_60 : decode cX12_trip 60 = .ok (.iload_n 1, 1) := by decide +kernel
theorem dX12_trip_61 : decode cX12_trip 61 = .ok (.iastore, 1) := by decide +kernel
theorem dX12_trip_62 : decode cX12_trip 62 = .ok (.aload_n 0, 1) := by decide +kernel
theorem dX12_trip_63 : decode cX12_trip 63 = .ok (.getfield 25, 3) := by decide +kernel
theorem dX12_trip_66 : decode cX12_trip 66 = .ok (.aload_n 0, 1) := by decide +kernel
theorem dX12_trip_67 : decode cX12_trip 67 = .ok (.getfield 154, 3) := by decide +kernel
theorem dX12_trip_70 : decode cX12_trip 70 = .ok (.iload_n 2, 1) := by decide +kernel
theorem dX12_trip_71 : decode cX12_trip 71 = .ok (.iastore, 1) := by decide +kernel
theorem dX12_trip_72 : decode cX12_trip 72 = .ok (.aload_n 0, 1) := by decide +kernel
theorem dX12_trip_73 : decode cX12_trip 73 = .ok (.getfield 28, 3) := by decide +kernel
theorem dX12_trip_76 : decode cX12_trip 76 = .ok (.aload_n 0, 1) := by decide +kernel
theorem dX12_trip_77 : decode cX12_trip 77 = .ok (.getfield 154, 3) := by decide +kernel
theorem dX12_trip_80 : decode cX12_trip 80 = .ok (.iload_n 3, 1) := by decide +kernel
theorem dX12_trip_81 : decode cX12_trip 81 = .ok (.iastore, 1) := by decide +kernel
theorem dX12_trip_82 : decode cX12_trip 82 = .ok (.aload_n 0, 1) := by decide +kernel
theorem dX12_trip_83 : decode cX12_trip 83 = .ok (.getfield 31, 3) := by decide +kernel
theorem dX12_trip_86 : decode cX12_trip 86 = .ok (.aload_n 0, 1) := by decide +kernel
theorem dX12_trip_87 : decode cX12_trip 87 = .ok (.getfield 154, 3) := by decide +kernel
theorem dX12_trip_90 : decode cX12_trip 90 = .ok (.iconst 0, 1) := by decide +kernel
theorem dX12_trip_91 : decode cX12_trip 91 = .ok (.iastore, 1) := by decide +kernel
theorem dX12_trip_92 : decode cX12_trip 92 = .ok (.aload_n 0, 1) := by decide +kernel
theorem dX12_trip_93 : decode cX12_trip 93 = .ok (.dup, 1) := by decide +kernel
theorem dX12_trip_94 : decode cX12_trip 94 = .ok (.getfield 154, 3) := by decide +kernel
theorem dX12_trip_97 : decode cX12_trip 97 = .ok (.iconst 1, 1) := by decide +kernel
theorem dX12_trip_98 : decode cX12_trip 98 = .ok (.iadd, 1) := by decide +kernel
theorem dX12_trip_99 : decode cX12_trip 99 = .ok (.putfield 154, 3) := by decide +kernel
theorem dX12_trip_102 : decode cX12_trip 102 = .ok (.aload_n 0, 1) := by decide +kernel
theorem dX12_trip_103 : decode cX12_trip 103 = .ok (.getfield 154, 3) := by decide +kernel
theorem dX12_trip_106 : decode cX12_trip 106 = .ok (.iconst 1, 1) := by decide +kernel
theorem dX12_trip_107 : decode cX12_trip 107 = .ok (.isub, 1) := by decide +kernel
theorem dX12_trip_108 : decode cX12_trip 108 = .ok (.ireturn, 1) := by decide +kernel
theorem dX12_call_0 : decode cX12_call 0 = .ok (.aload_n 0, 1) := by decide +kernel
theorem dX12_call_1 : decode cX12_call 1 = .ok (.iload_n 1, 1) := by decide +kernel
theorem dX12_call_2 : decode cX12_call 2 = .ok (.invokevirtual 157, 3) := by decide +kernel
theorem dX12_call_5 : decode cX12_call 5 = .ok (.ifCond .eq 22, 3) := by decide +kernel
theorem dX12_call_8 : decode cX12_call 8 = .ok (.aload_n 0, 1) := by decide +kernel
theorem dX12_call_9 : decode cX12_call 9 = .ok (.iload_n 2, 1) := by decide +kernel
theorem dX12_call_10 : decode cX12_call 10 = .ok (.invokevirtual 167, 3) := by decide +kernel
theorem dX12_call_13 : decode cX12_call 13 = .ok (.ifCond .eq 14, 3) := by decide +kernel
theorem dX12_call_16 : decode cX12_call 16 = .ok (.aload_n 0, 1) := by decide +kernel
theorem dX12_call_17 : decode cX12_call 17 = .ok (.getfield 31, 3) := by decide +kernel
theorem dX12_call_20 : decode cX12_call 20 = .ok (.iload_n 1, 1) := by decide +kernel
theorem dX12_call_21 : decode cX12_call 21 = .ok (.iaload, 1) := by decide +kernel
theorem dX12_call_22 : decode cX12_call 22 = .ok (.bipush 8, 2) := by decide +kernel
theorem dX12_call_24 : decode cX12_call 24 = .ok (.if_icmp .ne 6, 3) := by decide +kernel
theorem dX12_call_27 : decode cX12_call 27 = .ok (.bipush (-2), 2) := by decide +kernel
theorem dX12_call_29 : decode cX12_call 29 = .ok (.ireturn, 1) := by decide +kernel
theorem dX12_call_30 : decode cX12_call 30 = .ok (.bipush 8, 2) := by decide +kernel
theorem dX12_call_32 : decode cX12_call 32 = .ok (.iload_n 1, 1) := by decide +kernel
theorem dX12_call_33 : decode cX12_call 33 = .ok (.imul, 1) := by decide +kernel
theorem dX12_call_34 : decode cX12_call 34 = .ok (.aload_n 0, 1) := by decide +kernel
theorem dX12_call_35 : decode cX12_call 35 = .ok (.getfield 31, 3) := by decide +kernel
theorem dX12_call_38 : decode cX12_call 38 = .ok (.iload_n 1, 1) := by decide +kernel
theorem dX12_call_39 : decode cX12_call 39 = .ok (.iaload, 1) := by decide +kernel
theorem dX12_call_40 : decode cX12_call 40 = .ok (.iadd, 1) := by decide +kernel
theorem dX12_call_41 : decode cX12_call 41 = .ok (.istore 5, 2) := by decide +kernel
theorem dX12_call_43 : decode cX12_call 43 = .ok (.aload_n 0, 1) := by decide +kernel
theorem dX12_call_44 : decode cX12_call 44 = .ok (.getfield 31, 3) := by decide +kernel
theorem dX12_call_47 : decode cX12_call 47 = .ok (.iload_n 1, 1) := by decide +kernel
theorem dX12_call_48 : decode cX12_call 48 = .ok (.iaload, 1) := by decide +kernel
theorem dX12_call_49 : decode cX12_call 49 = .ok (.ifCond .ne 7, 3) := by decide +kernel
theorem dX12_call_52 : decode cX12_call 52 = .ok (.iconst 0, 1) := by decide +kernel
theorem dX12_call_53 : decode cX12_call 53 = .ok (.goto 12, 3) := by decide +kernel
theorem dX12_call_56 : decode cX12_call 56 = .ok (.aload_n 0, 1) := by decide +kernel
theorem dX12_call_57 : decode cX12_call 57 = .ok (.getfield 40, 3) := by decide +kernel
theorem dX12_call_60 : decode cX12_call 60 = .ok (.iload 5, 2) := by decide +kernel
theorem dX12_call_62 : decode cX12_call 62 = .ok (.iconst 1, 1) := by decide +kernel
theorem dX12_call_63 : decode cX12_call 63 = .ok (.isub, 1) := by decide +kernel
theorem dX12_call_64 : decode cX12_call 64 = .ok (.iaload, 1) := by decide +kernel
theorem dX12_call_65 : decode cX12_call 65 = .ok (.istore 6, 2) := by decide +kernel
theorem dX12_call_67 : decode cX12_call 67 = .ok (.iload_n 3, 1) := by decide +kernel
theorem dX12_call_68 : decode cX12_call 68 = .ok (.iload 6, 2) := by decide +kernel
theorem dX12_call_70 : decode cX12_call 70 = .ok (.if_icmp .lt 33, 3) := by decide +kernel
theorem dX12_call_73 : decode cX12_call 73 = .ok (.iload 4, 2) := by decide +kernel
theorem dX12_call_75 : decode cX12_call 75 = .ok (.iload_n 3, 1) := by decide +kernel
theorem dX12_call_76 : decode cX12_call 76 = .ok (.if_icmp .lt 27, 3) := by decide +kernel
theorem dX12_call_79 : decode cX12_call 79 = .ok (.iload 4, 2) := by decide +kernel
theorem dX12_call_81 : decode cX12_call 81 = .ok (.aload_n 0, 1) := by decide +kernel
theorem dX12_call_82 : decode cX12_call 82 = .ok (.getfield 22, 3) := by decide +kernel
theorem dX12_call_85 : decode cX12_call 85 = .ok (.iload_n 1, 1) := by decide +kernel
theorem dX12_call_86 : decode cX12_call 86 = .ok (.iaload, 1) := by decide +kernel
theorem dX12_call_87 : decode cX12_call 87 = .ok (.iconst 2, 1) := by decide +kernel
theorem dX12_call_88 : decode cX12_call 88 = .ok (.if_icmp .ne 9, 3) := by decide +kernel
theorem dX12_call_91 : decode cX12_call 91 = .ok (.sipush 2879, 3) := by decide +kernel
theorem dX12_call_94 : decode cX12_call 94 = .ok (.goto 6, 3) := by decide +kernel
theorem dX12_call_97 : decode cX12_call 97 = .ok (.sipush 1439, 3) := by decide +kernel
theorem dX12_call_100 : decode cX12_call 100 = .ok (.if_icmp .le 6, 3) := by decide +kernel
theorem dX12_call_103 : decode cX12_call 103 = .ok (.bipush (-2), 2) := by decide +kernel
theorem dX12_call_105 : decode cX12_call 105 = .ok (.ireturn, 1) := by decide +kernel
theorem dX12_call_106 : decode cX12_call 106 = .ok (.aload_n 0, 1) := by decide +kernel
theorem dX12_call_107 : decode cX12_call 107 = .ok (.getfield 34, 3) := by decide +kernel
theorem dX12_call_110 : decode cX12_call 110 = .ok (.iload 5, 2) := by decide +kernel
theorem dX12_call_112 : decode cX12_call 112 = .ok (.iload_n 2, 1) := by decide +kernel
theorem dX12_call_113 : decode cX12_call 113 = .ok (.iastore, 1) := by decide +kernel
theorem dX12_call_114 : decode cX12_call 114 = .ok (.aload_n 0, 1) := by decide +kernel
theorem dX12_call_115 : decode cX12_call 115 = .ok (.getfield 37, 3) := by decide +kernel
theorem dX12_call_118 : decode cX12_call 118 = .ok (.iload 5, 2) := by decide +kernel
theorem dX12_call_120 : decode cX12_call 120 = .ok (.iload_n 3, 1) := by decide +kernel
theorem dX12_call_121 : decode cX12_call 121 = .ok (.iastore, 1) := by decide +kernel
theorem dX12_call_122 : decode cX12_call 122 = .ok (.aload_n 0, 1) := by decide +kernel
theorem dX12_call_123 : decode cX12_call 123 = .ok (.getfield 40, 3) := by decide +kernel
theorem dX12_call_126 : decode cX12_call 126 = .ok (.iload 5, 2) := by decide +kernel
theorem dX12_call_128 : decode cX12_call 128 = .ok (.iload 4, 2) := by decide +kernel
theorem dX12_call_130 : decode cX12_call 130 = .ok (.iastore, 1) := by decide +kernel
theorem dX12_call_131 : decode cX12_call 131 = .ok (.aload_n 0, 1) := by decide +kernel
theorem dX12_call_132 : decode cX12_call 132 = .ok (.getfield 43, 3) := by decide +kernel
theorem dX12_call_135 : decode cX12_call 135 = .ok (.iload 5, 2) := by decide +kernel
theorem dX12_call_137 : decode cX12_call 137 = .ok (.iconst 0, 1) := by decide +kernel
theorem dX12_call_138 : decode cX12_call 138 = .ok (.bastore, 1) := by decide +kernel
theorem dX12_call_139 : decode cX12_call 139 = .ok (.aload_n 0, 1) := by decide +kernel
theorem dX12_call_140 : decode cX12_call 140 = .ok (.getfield 31, 3) := by decide +kernel
theorem dX12_call_143 : decode cX12_call 143 = .ok (.iload_n 1, 1) := by decide +kernel
theorem dX12_call_144 : decode cX12_call 144 = .ok (.dup2, 1) := by decide +kernel
theorem dX12_call_145 : decode cX12_call 145 = .ok (.iaload, 1) := by decide +kernel
theorem dX12_call_146 : decode cX12_call 146 = .ok (.iconst 1, 1) := by decide +kernel
theorem dX12_call_147 : decode cX12_call 147 = .ok (.iadd, 1) := by decide +kernel
theorem dX12_call_148 : decode cX12_call 148 = .ok (.iastore, 1) := by decide +kernel
theorem dX12_call_149 : decode cX12_call 149 = .ok (.aload_n 0, 1) := by decide +kernel
theorem dX12_call_150 : decode cX12_call 150 = .ok (.getfield 31, 3) := by decide +kernel
theorem dX12_call_153 : decode cX12_call 153 = .ok (.iload_n 1, 1) := by decide +kernel
theorem dX12_call_154 : decode cX12_call 154 = .ok (.iaload, 1) := by decide +kernel
theorem dX12_call_155 : decode cX12_call 155 = .ok (.iconst 1, 1) := by decide +kernel
theorem dX12_call_156 : decode cX12_call 156 = .ok (.isub, 1) := by decide +kernel
theorem dX12_call_157 : decode cX12_call 157 = .ok (.ireturn, 1) := by decide +kernel
theorem dX12_miss_0 : decode cX12_miss 0 = .ok (.aload_n 0, 1) := by decide +kernel
theorem dX12_miss_1 : decode cX12_miss 1 = .ok (.iload_n 1, 1) := by decide +kernel
theorem dX12_miss_2 : decode cX12_miss 2 = .ok (.iload_n 2, 1) := by decide +kernel
theorem dX12_miss_3 : decode cX12_miss 3 = .ok (.invokevirtual 170, 3) := by decide +kernel
theorem dX12_miss_6 : decode cX12_miss 6 = .ok (.ifCond .ne 6, 3) := by decide +kernel
theorem dX12_miss_9 : decode cX12_miss 9 = .ok (.bipush (-2), 2) := by decide +kernel
theorem dX12_miss_11 : decode cX12_miss 11 = .ok (.ireturn, 1) := by decide +kernel
theorem dX12_miss_12 : decode cX12_miss 12 = .ok (.aload_n 0, 1) := by decide +kernel
theorem dX12_miss_13 : decode cX12_miss 13 = .ok (.getfield 43, 3) := by decide +kernel
theorem dX12_miss_16 : decode cX12_miss 16 = .ok (.bipush 8, 2) := by decide +kernel
theorem dX12_miss_18 : decode cX12_miss 18 = .ok (.iload_n 1, 1) := by decide +kernel
theorem dX12_miss_19 : decode cX12_miss 19 = .ok (.imul, 1) := by decide +kernel
theorem dX12_miss_20 : decode cX12_miss 20 = .ok (.iload_n 2, 1) := by decide +kernel
theorem dX12_miss_21 : decode cX12_miss 21 = .ok (.iadd, 1) := by decide +kernel
theorem dX12_miss_22 : decode cX12_miss 22 = .ok (.baload, 1) := by decide +kernel
theorem dX12_miss_23 : decode cX12_miss 23 = .ok (.istore 4, 2) := by decide +kernel
theorem dX12_miss_25 : decode cX12_miss 25 = .ok (.aload_n 0, 1) := by decide +kernel
theorem dX12_miss_26 : decode cX12_miss 26 = .ok (.getfield 43, 3) := by decide +kernel
theorem dX12_miss_29 : decode cX12_miss 29 = .ok (.bipush 8, 2) := by decide +kernel
theorem dX12_miss_31 : decode cX12_miss 31 = .ok (.iload_n 1, 1) := by decide +kernel
theorem dX12_miss_32 : decode cX12_miss 32 = .ok (.imul, 1) := by decide +kernel
theorem dX12_miss_33 : decode cX12_miss 33 = .ok (.iload_n 2, 1) := by decide +kernel
theorem dX12_miss_34 : decode cX12_miss 34 = .ok (.iadd, 1) := by decide +kernel
theorem dX12_miss_35 : decode cX12_miss 35 = .ok (.iload_n 3, 1) := by decide +kernel
theorem dX12_miss_36 : decode cX12_miss 36 = .ok (.bastore, 1) := by decide +kernel
theorem dX12_miss_37 : decode cX12_miss 37 = .ok (.iload 4, 2) := by decide +kernel
theorem dX12_miss_39 : decode cX12_miss 39 = .ok (.ifCond .eq 7, 3) := by decide +kernel
theorem dX12_miss_42 : decode cX12_miss 42 = .ok (.iconst 1, 1) := by decide +kernel
theorem dX12_miss_43 : decode cX12_miss 43 = .ok (.goto 4, 3) := by decide +kernel
theorem dX12_miss_46 : decode cX12_miss 46 = .ok (.iconst 0, 1) := by decide +kernel
theorem dX12_miss_47 : decode cX12_miss 47 = .ok (.ireturn, 1) := by decide +kernel
theorem dX12_walk_0 : decode cX12_walk 0 = .ok (.aload_n 0, 1) := by decide +kernel
theorem dX12_walk_1 : decode cX12_walk 1 = .ok (.iload_n 1, 1) := by decide +kernel
theorem dX12_walk_2 : decode cX12_walk 2 = .ok (.invokevirtual 167, 3) := by decide +kernel
theorem dX12_walk_5 : decode cX12_walk 5 = .ok (.ifCond .eq 36, 3) := by decide +kernel
theorem dX12_walk_8 : decode cX12_walk 8 = .ok (.aload_n 0, 1) := by decide +kernel
theorem dX12_walk_9 : decode cX12_walk 9 = .ok (.iload_n 2, 1) := by decide +kernel
theorem dX12_walk_10 : decode cX12_walk 10 = .ok (.invokevirtual 167, 3) := by decide +kernel
theorem dX12_walk_13 : decode cX12_walk 13 = .ok (.ifCond .eq 28, 3) := by decide +kernel
theorem dX12_walk_16 : decode cX12_walk 16 = .ok (.iload_n 1, 1) := by decide +kernel
theorem dX12_walk_17 : decode cX12_walk 17 = .ok (.iload_n 2, 1) := by decide +kernel
theorem dX12_walk_18 : decode cX12_walk 18 = .ok (.if_icmp .eq 23, 3) := by decide +kernel
theorem dX12_walk_21 : decode cX12_walk 21 = .ok (.iload_n 3, 1) := by decide +kernel
theorem dX12_walk_22 : decode cX12_walk 22 = .ok (.iconst 1, 1) := by decide +kernel
theorem dX12_walk_23 : decode cX12_walk 23 = .ok (.sipush 240, 3) := by decide +kernel
theorem dX12_walk_26 : decode cX12_walk 26 = .ok (.invokestatic 150, 3) := by decide +kernel
theorem dX12_walk_29 : decode cX12_walk 29 = .ok (.ifCond .eq 12, 3) := by decide +kernel
theorem dX12_walk_32 : decode cX12_walk 32 = .ok (.aload_n 0, 1) := by decide +kernel
theorem dX12_walk_33 : decode cX12_walk 33 = .ok (.getfield 161, 3) := by decide +kernel
theorem dX12_walk_36 : decode cX12_walk 36 = .ok (.bipush 20, 2) := by decide +kernel
theorem dX12_walk_38 : decode cX12_walk 38 = .ok (.if_icmp .ne 6, 3) := by decide +kernel
theorem dX12_walk_41 : decode cX12_walk 41 = .ok (.bipush (-2), 2) := by decide +kernel
theorem dX12_walk_43 : decode cX12_walk 43 = .ok (.ireturn, 1) := by decide +kernel
theorem dX12_walk_44 : decode cX12_walk 44 = .ok (.aload_n 0, 1) := by decide +kernel
theorem dX12_walk_45 : decode cX12_walk 45 = .ok (.getfield 50, 3) := by decide +kernel
theorem dX12_walk_48 : decode cX12_walk 48 = .ok (.aload_n 0, 1) := by decide +kernel
theorem dX12_walk_49 : decode cX12_walk 49 = .ok (.getfield 161, 3) := by decide +kernel
theorem dX12_walk_52 : decode cX12_walk 52 = .ok (.iload_n 1, 1) := by decide +kernel
theorem dX12_walk_53 : decode cX12_walk 53 = .ok (.iastore, 1) := by decide +kernel
theorem dX12_walk_54 : decode cX12_walk 54 = .ok (.aload_n 0, 1) := by decide +kernel
theorem dX12_walk_55 : decode cX12_walk 55 = .ok (.getfield 53, 3) := by decide +kernel
theorem dX12_walk_58 : decode cX12_walk 58 = .ok (.aload_n 0, 1) := by decide +kernel
theorem dX12_walk_59 : decode cX12_walk 59 = .ok (.getfield 161, 3) := by decide +kernel
theorem dX12_walk_62 : decode cX12_walk 62 = .ok (.iload_n 2, 1) := by decide +kernel
theorem dX12_walk_63 : decode cX12_walk 63 = .ok (.iastore, 1) := by decide +kernel
theorem dX12_walk_64 : decode cX12_walk 64 = .ok (.aload_n 0, 1) := by decide +kernel
theorem dX12_walk_65 : decode cX12_walk 65 = .ok (.getfield 56, 3) := by decide +kernel
theorem dX12_walk_68 : decode cX12_walk 68 = .ok (.aload_n 0, 1) := by decide +kernel
theorem dX12_walk_69 : decode cX12_walk 69 = .ok (.getfield 161, 3) := by decide +kernel
theorem dX12_walk_72 : decode cX12_walk 72 = .ok (.iload_n 3, 1) := by decide +kernel
theorem dX12_walk_73 : decode cX12_walk 73 = .ok (.iastore, 1) := by decide +kernel
theorem dX12_walk_74 : decode cX12_walk 74 = .ok (.aload_n 0, 1) := by decide +kernel
theorem dX12_walk_75 : decode cX12_walk 75 = .ok (.getfield 59, 3) := by decide +kernel
theorem dX12_walk_78 : decode cX12_walk 78 = .ok (.aload_n 0, 1) := by decide +kernel
theorem dX12_walk_79 : decode cX12_walk 79 = .ok (.getfield 161, 3) := by decide +kernel
theorem dX12_walk_82 : decode cX12_walk 82 = .ok (.iconst 3, 1) := by decide +kernel
theorem dX12_walk_83 : decode cX12_walk 83 = .ok (.iastore, 1) := by decide +kernel
theorem dX12_walk_84 : decode cX12_walk 84 = .ok (.aload_n 0, 1) := by decide +kernel
theorem dX12_walk_85 : decode cX12_walk 85 = .ok (.dup, 1) := by decide +kernel
theorem dX12_walk_86 : decode cX12_walk 86 = .ok (.getfield 161, 3) := by decide +kernel
theorem dX12_walk_89 : decode cX12_walk 89 = .ok (.iconst 1, 1) := by decide +kernel
theorem dX12_walk_90 : decode cX12_walk 90 = .ok (.iadd, 1) := by decide +kernel
theorem dX12_walk_91 : decode cX12_walk 91 = .ok (.putfield 161, 3) := by decide +kernel
theorem dX12_walk_94 : decode cX12_walk 94 = .ok (.aload_n 0, 1) := by decide +kernel
theorem dX12_walk_95 : decode cX12_walk 95 = .ok (.getfield 161, 3) := by decide +kernel
theorem dX12_walk_98 : decode cX12_walk 98 = .ok (.iconst 1, 1) := by decide +kernel
theorem dX12_walk_99 : decode cX12_walk 99 = .ok (.isub, 1) := by decide +kernel
theorem dX12_walk_100 : decode cX12_walk 100 = .ok (.ireturn, 1) := by decide +kernel
theorem dX12_shuttle_0 : decode cX12_shuttle 0 = .ok (.aload_n 0, 1) := by decide +kernel
theorem dX12_shuttle_1 : decode cX12_shuttle 1 = .ok (.iload_n 1, 1) := by decide +kernel
theorem dX12_shuttle_2 : decode cX12_shuttle 2 = .ok (.invokevirtual 174, 3) := by decide +kernel
theorem dX12_shuttle_5 : decode cX12_shuttle 5 = .ok (.ifCond .eq 37, 3) := by decide +kernel
theorem dX12_shuttle_8 : decode cX12_shuttle 8 = .ok (.iload_n 2, 1) := by decide +kernel
theorem dX12_shuttle_9 : decode cX12_shuttle 9 = .ok (.iconst 0, 1) := by decide +kernel
theorem dX12_shuttle_10 : decode cX12_shuttle 10 = .ok (.sipush 1439, 3) := by decide +kernel
theorem dX12_shuttle_13 : decode cX12_shuttle 13 = .ok (.invokestatic 150, 3) := by decide +kernel
theorem dX12_shuttle_16 : decode cX12_shuttle 16 = .ok (.ifCond .eq 26, 3) := by decide +kernel
theorem dX12_shuttle_19 : decode cX12_shuttle 19 = .ok (.iload_n 3, 1) := by decide +kernel
theorem dX12_shuttle_20 : decode cX12_shuttle 20 = .ok (.iload_n 2, 1) := by decide +kernel
theorem dX12_shuttle_21 : decode cX12_shuttle 21 = .ok (.sipush 1439, 3) := by decide +kernel
theorem dX12_shuttle_24 : decode cX12_shuttle 24 = .ok (.invokestatic 150, 3) := by decide +kernel
theorem dX12_shuttle_27 : decode cX12_shuttle 27 = .ok (.ifCond .eq 15, 3) := by decide +kernel
theorem dX12_shuttle_30 : decode cX12_shuttle 30 = .ok (.iload 4, 2) := by decide +kernel
theorem dX12_shuttle_32 : decode cX12_shuttle 32 = .ok (.iconst 1, 1) := by decide +kernel
theorem dX12_shuttle_33 : decode cX12_shuttle 33 = .ok (.sipush 1440, 3) := by decide +kernel
theorem dX12_shuttle_36 : decode cX12_shuttle 36 = .ok (.invokestatic 150, 3) := by decide +kernel
theorem dX12_shuttle_39 : decode cX12_shuttle 39 = .ok (.ifCond .ne 6, 3) := by decide +kernel
theorem dX12_shuttle_42 : decode cX12_shuttle 42 = .ok (.bipush (-2), 2) := by decide +kernel
theorem dX12_shuttle_44 : decode cX12_shuttle 44 = .ok (.ireturn, 1) := by decide +kernel
theorem dX12_shuttle_45 : decode cX12_shuttle 45 = .ok (.aload_n 0, 1) := by decide +kernel
theorem dX12_shuttle_46 : decode cX12_shuttle 46 = .ok (.getfield 59, 3) := by decide +kernel
theorem dX12_shuttle_49 : decode cX12_shuttle 49 = .ok (.iload_n 1, 1) := by decide +kernel
theorem dX12_shuttle_50 : decode cX12_shuttle 50 = .ok (.iaload, 1) := by decide +kernel
theorem dX12_shuttle_51 : decode cX12_shuttle 51 = .ok (.istore 5, 2) := by decide +kernel
theorem dX12_shuttle_53 : decode cX12_shuttle 53 = .ok (.aload_n 0, 1) := by decide +kernel
theorem dX12_shuttle_54 : decode cX12_shuttle 54 = .ok (.getfield 59, 3) := by decide +kernel
theorem dX12_shuttle_57 : decode cX12_shuttle 57 = .ok (.iload_n 1, 1) := by decide +kernel
theorem dX12_shuttle_58 : decode cX12_shuttle 58 = .ok (.iconst 4, 1) := by decide +kernel
theorem dX12_shuttle_59 : decode cX12_shuttle 59 = .ok (.iastore, 1) := by decide +kernel
theorem dX12_shuttle_60 : decode cX12_shuttle 60 = .ok (.aload_n 0, 1) := by decide +kernel
theorem dX12_shuttle_61 : decode cX12_shuttle 61 = .ok (.getfield 62, 3) := by decide +kernel
theorem dX12_shuttle_64 : decode cX12_shuttle 64 = .ok (.iload_n 1, 1) := by decide +kernel
theorem dX12_shuttle_65 : decode cX12_shuttle 65 = .ok (.iload_n 2, 1) := by decide +kernel
theorem dX12_shuttle_66 : decode cX12_shuttle 66 = .ok (.iastore, 1) := by decide +kernel
theorem dX12_shuttle_67 : decode cX12_shuttle 67 = .ok (.aload_n 0, 1) := by decide +kernel
theorem dX12_shuttle_68 : decode cX12_shuttle 68 = .ok (.getfield 65, 3) := by decide +kernel
theorem dX12_shuttle_71 : decode cX12_shuttle 71 = .ok (.iload_n 1, 1) := by decide +kernel
theorem dX12_shuttle_72 : decode cX12_shuttle 72 = .ok (.iload_n 3, 1) := by decide +kernel
theorem dX12_shuttle_73 : decode cX12_shuttle 73 = .ok (.iastore, 1) := by decide +kernel
theorem dX12_shuttle_74 : decode cX12_shuttle 74 = .ok (.aload_n 0, 1) := by decide +kernel
theorem dX12_shuttle_75 : decode cX12_shuttle 75 = .ok (.getfield 68, 3) := by decide +kernel
theorem dX12_shuttle_78 : decode cX12_shuttle 78 = .ok (.iload_n 1, 1) := by decide +kernel
theorem dX12_shuttle_79 : decode cX12_shuttle 79 = .ok (.iload 4, 2) := by decide +kernel
theorem dX12_shuttle_81 : decode cX12_shuttle 81 = .ok (.iastore, 1) := by decide +kernel
theorem dX12_shuttle_82 : decode cX12_shuttle 82 = .ok (.iload 5, 2) := by decide +kernel
theorem dX12_shuttle_84 : decode cX12_shuttle 84 = .ok (.ireturn, 1) := by decide +kernel
theorem dX12_asked_0 : decode cX12_asked 0 = .ok (.aload_n 0, 1) := by decide +kernel
theorem dX12_asked_1 : decode cX12_asked 1 = .ok (.iload_n 1, 1) := by decide +kernel
theorem dX12_asked_2 : decode cX12_asked 2 = .ok (.invokevirtual 174, 3) := by decide +kernel
theorem dX12_asked_5 : decode cX12_asked 5 = .ok (.ifCond .eq 24, 3) := by decide +kernel
theorem dX12_asked_8 : decode cX12_asked 8 = .ok (.aload_n 0, 1) := by decide +kernel
theorem dX12_asked_9 : decode cX12_asked 9 = .ok (.getfield 59, 3) := by decide +kernel
theorem dX12_asked_12 : decode cX12_asked 12 = .ok (.iload_n 1, 1) := by decide +kernel
theorem dX12_asked_13 : decode cX12_asked 13 = .ok (.iaload, 1) := by decide +kernel
theorem dX12_asked_14 : decode cX12_asked 14 = .ok (.iconst 3, 1) := by decide +kernel
theorem dX12_asked_15 : decode cX12_asked 15 = .ok (.if_icmp .eq 14, 3) := by decide +kernel
theorem dX12_asked_18 : decode cX12_asked 18 = .ok (.iload_n 2, 1) := by decide +kernel
theorem dX12_asked_19 : decode cX12_asked 19 = .ok (.iconst 1, 1) := by decide +kernel
theorem dX12_asked_20 : decode cX12_asked 20 = .ok (.sipush 600, 3) := by decide +kernel
theorem dX12_asked_23 : decode cX12_asked 23 = .ok (.invokestatic 150, 3) := by decide +kernel
theorem dX12_asked_26 : decode cX12_asked 26 = .ok (.ifCond .ne 6, 3) := by decide +kernel
theorem dX12_asked_29 : decode cX12_asked 29 = .ok (.bipush (-2), 2) := by decide +kernel
theorem dX12_asked_31 : decode cX12_asked 31 = .ok (.ireturn, 1) := by decide +kernel
theorem dX12_asked_32 : decode cX12_asked 32 = .ok (.aload_n 0, 1) := by decide +kernel
theorem dX12_asked_33 : decode cX12_asked 33 = .ok (.getfield 59, 3) := by decide +kernel
theorem dX12_asked_36 : decode cX12_asked 36 = .ok (.iload_n 1, 1) := by decide +kernel
theorem dX12_asked_37 : decode cX12_asked 37 = .ok (.iaload, 1) := by decide +kernel
theorem dX12_asked_38 : decode cX12_asked 38 = .ok (.istore_n 3, 1) := by decide +kernel
theorem dX12_asked_39 : decode cX12_asked 39 = .ok (.aload_n 0, 1) := by decide +kernel
theorem dX12_asked_40 : decode cX12_asked 40 = .ok (.getfield 59, 3) := by decide +kernel
theorem dX12_asked_43 : decode cX12_asked 43 = .ok (.iload_n 1, 1) := by decide +kernel
theorem dX12_asked_44 : decode cX12_asked 44 = .ok (.iconst 5, 1) := by decide +kernel
theorem dX12_asked_45 : decode cX12_asked 45 = .ok (.iastore, 1) := by decide +kernel
theorem dX12_asked_46 : decode cX12_asked 46 = .ok (.aload_n 0, 1) := by decide +kernel
theorem dX12_asked_47 : decode cX12_asked 47 = .ok (.getfield 71, 3) := by decide +kernel
theorem dX12_asked_50 : decode cX12_asked 50 = .ok (.iload_n 1, 1) := by decide +kernel
theorem dX12_asked_51 : decode cX12_asked 51 = .ok (.iload_n 2, 1) := by decide +kernel
theorem dX12_asked_52 : decode cX12_asked 52 = .ok (.iastore, 1) := by decide +kernel
theorem dX12_asked_53 : decode cX12_asked 53 = .ok (.iload_n 3, 1) := by decide +kernel
theorem dX12_asked_54 : decode cX12_asked 54 = .ok (.ireturn, 1) := by decide +kernel
theorem dX12_lateAt_0 : decode cX12_lateAt 0 = .ok (.iconst 0, 1) := by decide +kernel
theorem dX12_lateAt_1 : decode cX12_lateAt 1 = .ok (.istore 4, 2) := by decide +kernel
theorem dX12_lateAt_3 : decode cX12_lateAt 3 = .ok (.iconst 0, 1) := by decide +kernel
theorem dX12_lateAt_4 : decode cX12_lateAt 4 = .ok (.istore 5, 2) := by decide +kernel
theorem dX12_lateAt_6 : decode cX12_lateAt 6 = .ok (.iload 5, 2) := by decide +kernel
theorem dX12_lateAt_8 : decode cX12_lateAt 8 = .ok (.aload_n 0, 1) := by decide +kernel
theorem dX12_lateAt_9 : decode cX12_lateAt 9 = .ok (.getfield 177, 3) := by decide +kernel
theorem dX12_lateAt_12 : decode cX12_lateAt 12 = .ok (.if_icmp .ge 54, 3) := by decide +kernel
theorem dX12_lateAt_15 : decode cX12_lateAt 15 = .ok (.aload_n 0, 1) := by decide +kernel
theorem dX12_lateAt_16 : decode cX12_lateAt 16 = .ok (.getfield 74, 3) := by decide +kernel
theorem dX12_lateAt_19 : decode cX12_lateAt 19 = .ok (.iload 5, 2) := by decide +kernel
theorem dX12_lateAt_21 : decode cX12_lateAt 21 = .ok (.iaload, 1) := by decide +kernel
theorem dX12_lateAt_22 : decode cX12_lateAt 22 = .ok (.iload_n 1, 1) := by decide +kernel
theorem dX12_lateAt_23 : decode cX12_lateAt 23 = .ok (.if_icmp .ne 37, 3) := by decide +kernel
theorem dX12_lateAt_26 : decode cX12_lateAt 26 = .ok (.aload_n 0, 1) := by decide +kernel
theorem dX12_lateAt_27 : decode cX12_lateAt 27 = .ok (.getfield 77, 3) := by decide +kernel
theorem dX12_lateAt_30 : decode cX12_lateAt 30 = .ok (.iload 5, 2) := by decide +kernel
theorem dX12_lateAt_32 : decode cX12_lateAt 32 = .ok (.iaload, 1) := by decide +kernel
theorem dX12_lateAt_33 : decode cX12_lateAt 33 = .ok (.iload_n 2, 1) := by decide +kernel
theorem dX12_lateAt_34 : decode cX12_lateAt 34 = .ok (.if_icmp .ne 26, 3) := by decide +kernel
theorem dX12_lateAt_37 : decode cX12_lateAt 37 = .ok (.aload_n 0, 1) := by decide +kernel
theorem dX12_lateAt_38 : decode cX12_lateAt 38 = .ok (.getfield 80, 3) := by decide +kernel
theorem dX12_lateAt_41 : decode cX12_lateAt 41 = .ok (.iload 5, 2) := by decide +kernel
theorem dX12_lateAt_43 : decode cX12_lateAt 43 = .ok (.iaload, 1) := by decide +kernel
theorem dX12_lateAt_44 : decode cX12_lateAt 44 = .ok (.iload_n 3, 1) := by decide +kernel
theorem dX12_lateAt_45 : decode cX12_lateAt 45 = .ok (.if_icmp .gt 15, 3) := by decide +kernel
theorem dX12_lateAt_48 : decode cX12_lateAt 48 = .ok (.iload 4, 2) := by decide +kernel
theorem dX12_lateAt_50 : decode cX12_lateAt 50 = .ok (.aload_n 0, 1) := by decide +kernel
theorem dX12_lateAt_51 : decode cX12_lateAt 51 = .ok (.getfield 83, 3) := by decide +kernel
theorem dX12_lateAt_54 : decode cX12_lateAt 54 = .ok (.iload 5, 2) := by decide +kernel
theorem dX12_lateAt_56 : decode cX12_lateAt 56 = .ok (.iaload, 1) := by decide +kernel
theorem dX12_lateAt_57 : decode cX12_lateAt 57 = .ok (.iadd, 1) := by decide +kernel
theorem dX12_lateAt_58 : decode cX12_lateAt 58 = .ok (.istore 4, 2) := by decide +kernel
theorem dX12_lateAt_60 : decode cX12_lateAt 60 = .ok (.iinc 5 1, 3) := by decide +kernel
theorem dX12_lateAt_63 : decode cX12_lateAt 63 = .ok (.goto (-57), 3) := by decide +kernel
theorem dX12_lateAt_66 : decode cX12_lateAt 66 = .ok (.iload 4, 2) := by decide +kernel
theorem dX12_lateAt_68 : decode cX12_lateAt 68 = .ok (.ireturn, 1) := by decide +kernel
theorem dX12_late_0 : decode cX12_late 0 = .ok (.aload_n 0, 1) := by decide +kernel
theorem dX12_late_1 : decode cX12_late 1 = .ok (.iload_n 1, 1) := by decide +kernel
theorem dX12_late_2 : decode cX12_late 2 = .ok (.iload_n 3, 1) := by decide +kernel
theorem dX12_late_3 : decode cX12_late 3 = .ok (.invokevirtual 170, 3) := by decide +kernel
theorem dX12_late_6 : decode cX12_late 6 = .ok (.ifCond .eq 31, 3) := by decide +kernel
theorem dX12_late_9 : decode cX12_late 9 = .ok (.iload_n 2, 1) := by decide +kernel
theorem dX12_late_10 : decode cX12_late 10 = .ok (.invokestatic 164, 3) := by decide +kernel
theorem dX12_late_13 : decode cX12_late 13 = .ok (.ifCond .eq 24, 3) := by decide +kernel
theorem dX12_late_16 : decode cX12_late 16 = .ok (.iload 4, 2) := by decide +kernel
theorem dX12_late_18 : decode cX12_late 18 = .ok (.iconst 1, 1) := by decide +kernel
theorem dX12_late_19 : decode cX12_late 19 = .ok (.sipush 240, 3) := by decide +kernel
theorem dX12_late_22 : decode cX12_late 22 = .ok (.invokestatic 150, 3) := by decide +kernel
theorem dX12_late_25 : decode cX12_late 25 = .ok (.ifCond .eq 12, 3) := by decide +kernel
theorem dX12_late_28 : decode cX12_late 28 = .ok (.aload_n 0, 1) := by decide +kernel
theorem dX12_late_29 : decode cX12_late 29 = .ok (.getfield 177, 3) := by decide +kernel
theorem dX12_late_32 : decode cX12_late 32 = .ok (.bipush 60, 2) := by decide +kernel
theorem dX12_late_34 : decode cX12_late 34 = .ok (.if_icmp .ne 6, 3) := by decide +kernel
theorem dX12_late_37 : decode cX12_late 37 = .ok (.bipush (-2), 2) := by decide +kernel
theorem dX12_late_39 : decode cX12_late 39 = .ok (.ireturn, 1) := by decide +kernel
theorem dX12_late_40 : decode cX12_late 40 = .ok (.aload_n 0, 1) := by decide +kernel
theorem dX12_late_41 : decode cX12_late 41 = .ok (.getfield 74, 3) := by decide +kernel
theorem dX12_late_44 : decode cX12_late 44 = .ok (.aload_n 0, 1) := by decide +kernel
theorem dX12_late_45 : decode cX12_late 45 = .ok (.getfield 177, 3) := by decide +kernel
theorem dX12_late_48 : decode cX12_late 48 = .ok (.iload_n 1, 1) := by decide +kernel
theorem dX12_late_49 : decode cX12_late 49 = .ok (.iastore, 1) := by decide +kernel
theorem dX12_late_50 : decode cX12_late 50 = .ok (.aload_n 0, 1) := by decide +kernel
theorem dX12_late_51 : decode cX12_late 51 = .ok (.getfield 77, 3) := by decide +kernel
theorem dX12_late_54 : decode cX12_late 54 = .ok (.aload_n 0, 1) := by decide +kernel
theorem dX12_late_55 : decode cX12_late 55 = .ok (.getfield 177, 3) := by decide +kernel
theorem dX12_late_58 : decode cX12_late 58 = .ok (.iload_n 2, 1) := by decide +kernel
theorem dX12_late_59 : decode cX12_late 59 = .ok (.iastore, 1) := by decide +kernel
theorem dX12_late_60 : decode cX12_late 60 = .ok (.aload_n 0, 1) := by decide +kernel
theorem dX12_late_61 : decode cX12_late 61 = .ok (.getfield 80, 3) := by decide +kernel
theorem dX12_late_64 : decode cX12_late 64 = .ok (.aload_n 0, 1) := by decide +kernel
theorem dX12_late_65 : decode cX12_late 65 = .ok (.getfield 177, 3) := by decide +kernel
theorem dX12_late_68 : decode cX12_late 68 = .ok (.iload_n 3, 1) := by decide +kernel
theorem dX12_late_69 : decode cX12_late 69 = .ok (.iastore, 1) := by decide +kernel
theorem dX12_late_70 : decode cX12_late 70 = .ok (.aload_n 0, 1) := by decide +kernel
theorem dX12_late_71 : decode cX12_late 71 = .ok (.getfield 83, 3) := by decide +kernel
theorem dX12_late_74 : decode cX12_late 74 = .ok (.aload_n 0, 1) := by decide +kernel
theorem dX12_late_75 : decode cX12_late 75 = .ok (.getfield 177, 3) := by decide +kernel
theorem dX12_late_78 : decode cX12_late 78 = .ok (.iload 4, 2) := by decide +kernel
theorem dX12_late_80 : decode cX12_late 80 = .ok (.iastore, 1) := by decide +kernel
theorem dX12_late_81 : decode cX12_late 81 = .ok (.aload_n 0, 1) := by decide +kernel
theorem dX12_late_82 : decode cX12_late 82 = .ok (.dup, 1) := by decide +kernel
theorem dX12_late_83 : decode cX12_late 83 = .ok (.getfield 177, 3) := by decide +kernel
theorem dX12_late_86 : decode cX12_late 86 = .ok (.iconst 1, 1) := by decide +kernel
theorem dX12_late_87 : decode cX12_late 87 = .ok (.iadd, 1) := by decide +kernel
theorem dX12_late_88 : decode cX12_late 88 = .ok (.putfield 177, 3) := by decide +kernel
theorem dX12_late_91 : decode cX12_late 91 = .ok (.aload_n 0, 1) := by decide +kernel
theorem dX12_late_92 : decode cX12_late 92 = .ok (.iload_n 1, 1) := by decide +kernel
theorem dX12_late_93 : decode cX12_late 93 = .ok (.iload_n 2, 1) := by decide +kernel
theorem dX12_late_94 : decode cX12_late 94 = .ok (.iload_n 3, 1) := by decide +kernel
theorem dX12_late_95 : decode cX12_late 95 = .ok (.invokevirtual 180, 3) := by decide +kernel
theorem dX12_late_98 : decode cX12_late 98 = .ok (.ireturn, 1) := by decide +kernel
theorem dX12_gone_0 : decode cX12_gone 0 = .ok (.aload_n 0, 1) := by decide +kernel
theorem dX12_gone_1 : decode cX12_gone 1 = .ok (.iload_n 1, 1) := by decide +kernel
theorem dX12_gone_2 : decode cX12_gone 2 = .ok (.invokevirtual 157, 3) := by decide +kernel
theorem dX12_gone_5 : decode cX12_gone 5 = .ok (.ifCond .eq 10, 3) := by decide +kernel
theorem dX12_gone_8 : decode cX12_gone 8 = .ok (.iload_n 2, 1) := by decide +kernel
theorem dX12_gone_9 : decode cX12_gone 9 = .ok (.invokestatic 164, 3) := by decide +kernel
theorem dX12_gone_12 : decode cX12_gone 12 = .ok (.ifCond .ne 6, 3) := by decide +kernel
theorem dX12_gone_15 : decode cX12_gone 15 = .ok (.bipush (-2), 2) := by decide +kernel
theorem dX12_gone_17 : decode cX12_gone 17 = .ok (.ireturn, 1) := by decide +kernel
theorem dX12_gone_18 : decode cX12_gone 18 = .ok (.aload_n 0, 1) := by decide +kernel
theorem dX12_gone_19 : decode cX12_gone 19 = .ok (.getfield 47, 3) := by decide +kernel
theorem dX12_gone_22 : decode cX12_gone 22 = .ok (.bipush 100, 2) := by decide +kernel
theorem dX12_gone_24 : decode cX12_gone 24 = .ok (.iload_n 1, 1) := by decide +kernel
theorem dX12_gone_25 : decode cX12_gone 25 = .ok (.imul, 1) := by decide +kernel
theorem dX12_gone_26 : decode cX12_gone 26 = .ok (.iload_n 2, 1) := by decide +kernel
theorem dX12_gone_27 : decode cX12_gone 27 = .ok (.iadd, 1) := by decide +kernel
theorem dX12_gone_28 : decode cX12_gone 28 = .ok (.baload, 1) := by decide +kernel
theorem dX12_gone_29 : decode cX12_gone 29 = .ok (.istore 4, 2) := by decide +kernel
theorem dX12_gone_31 : decode cX12_gone 31 = .ok (.aload_n 0, 1) := by decide +kernel
theorem dX12_gone_32 : decode cX12_gone 32 = .ok (.getfield 47, 3) := by decide +kernel
theorem dX12_gone_35 : decode cX12_gone 35 = .ok (.bipush 100, 2) := by decide +kernel
theorem dX12_gone_37 : decode cX12_gone 37 = .ok (.iload_n 1, 1) := by decide +kernel
theorem dX12_gone_38 : decode cX12_gone 38 = .ok (.imul, 1) := by decide +kernel
theorem dX12_gone_39 : decode cX12_gone 39 = .ok (.iload_n 2, 1) := by decide +kernel
theorem dX12_gone_40 : decode cX12_gone 40 = .ok (.iadd, 1) := by decide +kernel
theorem dX12_gone_41 : decode cX12_gone 41 = .ok (.iload_n 3, 1) := by decide +kernel
theorem dX12_gone_42 : decode cX12_gone 42 = .ok (.bastore, 1) := by decide +kernel
theorem dX12_gone_43 : decode cX12_gone 43 = .ok (.iload 4, 2) := by decide +kernel
theorem dX12_gone_45 : decode cX12_gone 45 = .ok (.ifCond .eq 7, 3) := by decide +kernel
theorem dX12_gone_48 : decode cX12_gone 48 = .ok (.iconst 1, 1) := by decide +kernel
theorem dX12_gone_49 : decode cX12_gone 49 = .ok (.goto 4, 3) := by decide +kernel
theorem dX12_gone_52 : decode cX12_gone 52 = .ok (.iconst 0, 1) := by decide +kernel
theorem dX12_gone_53 : decode cX12_gone 53 = .ok (.ireturn, 1) := by decide +kernel
theorem dX12_runs_0 : decode cX12_runs 0 = .ok (.aload_n 0, 1) := by decide +kernel
theorem dX12_runs_1 : decode cX12_runs 1 = .ok (.getfield 25, 3) := by decide +kernel
theorem dX12_runs_4 : decode cX12_runs 4 = .ok (.iload_n 1, 1) := by decide +kernel
theorem dX12_runs_5 : decode cX12_runs 5 = .ok (.iaload, 1) := by decide +kernel
theorem dX12_runs_6 : decode cX12_runs 6 = .ok (.aload_n 0, 1) := by decide +kernel
theorem dX12_runs_7 : decode cX12_runs 7 = .ok (.getfield 19, 3) := by decide +kernel
theorem dX12_runs_10 : decode cX12_runs 10 = .ok (.iload_n 2, 1) := by decide +kernel
theorem dX12_runs_11 : decode cX12_runs 11 = .ok (.iaload, 1) := by decide +kernel
theorem dX12_runs_12 : decode cX12_runs 12 = .ok (.ishr, 1) := by decide +kernel
theorem dX12_runs_13 : decode cX12_runs 13 = .ok (.iconst 1, 1) := by decide +kernel
theorem dX12_runs_14 : decode cX12_runs 14 = .ok (.iand, 1) := by decide +kernel
theorem dX12_runs_15 : decode cX12_runs 15 = .ok (.iconst 1, 1) := by decide +kernel
theorem dX12_runs_16 : decode cX12_runs 16 = .ok (.if_icmp .ne 21, 3) := by decide +kernel
theorem dX12_runs_19 : decode cX12_runs 19 = .ok (.aload_n 0, 1) := by decide +kernel
theorem dX12_runs_20 : decode cX12_runs 20 = .ok (.getfield 47, 3) := by decide +kernel
theorem dX12_runs_23 : decode cX12_runs 23 = .ok (.bipush 100, 2) := by decide +kernel
theorem dX12_runs_25 : decode cX12_runs 25 = .ok (.iload_n 1, 1) := by decide +kernel
theorem dX12_runs_26 : decode cX12_runs 26 = .ok (.imul, 1) := by decide +kernel
theorem dX12_runs_27 : decode cX12_runs 27 = .ok (.iload_n 2, 1) := by decide +kernel
theorem dX12_runs_28 : decode cX12_runs 28 = .ok (.iadd, 1) := by decide +kernel
theorem dX12_runs_29 : decode cX12_runs 29 = .ok (.baload, 1) := by decide +kernel
theorem dX12_runs_30 : decode cX12_runs 30 = .ok (.ifCond .ne 7, 3) := by decide +kernel
