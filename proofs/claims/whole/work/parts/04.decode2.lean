theorem dX5_ask_40 : decode cX5_ask 40 = .ok (.iconst 3, 1) := by decide +kernel
theorem dX5_ask_41 : decode cX5_ask 41 = .ok (.if_icmp .gt 46, 3) := by decide +kernel
theorem dX5_ask_44 : decode cX5_ask 44 = .ok (.aload_n 0, 1) := by decide +kernel
theorem dX5_ask_45 : decode cX5_ask 45 = .ok (.iload 4, 2) := by decide +kernel
theorem dX5_ask_47 : decode cX5_ask 47 = .ok (.iconst 1, 1) := by decide +kernel
theorem dX5_ask_48 : decode cX5_ask 48 = .ok (.isub, 1) := by decide +kernel
theorem dX5_ask_49 : decode cX5_ask 49 = .ok (.invokevirtual 57, 3) := by decide +kernel
theorem dX5_ask_52 : decode cX5_ask 52 = .ok (.iconst 0, 1) := by decide +kernel
theorem dX5_ask_53 : decode cX5_ask 53 = .ok (.istore 5, 2) := by decide +kernel
theorem dX5_ask_55 : decode cX5_ask 55 = .ok (.iload 5, 2) := by decide +kernel
theorem dX5_ask_57 : decode cX5_ask 57 = .ok (.aload_n 0, 1) := by decide +kernel
theorem dX5_ask_58 : decode cX5_ask 58 = .ok (.getfield 39, 3) := by decide +kernel
theorem dX5_ask_61 : decode cX5_ask 61 = .ok (.getfield 61, 3) := by decide +kernel
theorem dX5_ask_64 : decode cX5_ask 64 = .ok (.if_icmp .ge 17, 3) := by decide +kernel
theorem dX5_ask_67 : decode cX5_ask 67 = .ok (.aload_n 0, 1) := by decide +kernel
theorem dX5_ask_68 : decode cX5_ask 68 = .ok (.iload 4, 2) := by decide +kernel
theorem dX5_ask_70 : decode cX5_ask 70 = .ok (.iload 5, 2) := by decide +kernel
theorem dX5_ask_72 : decode cX5_ask 72 = .ok (.invokevirtual 66, 3) := by decide +kernel
theorem dX5_ask_75 : decode cX5_ask 75 = .ok (.iinc 5 1, 3) := by decide +kernel
theorem dX5_ask_78 : decode cX5_ask 78 = .ok (.goto (-23), 3) := by decide +kernel
theorem dX5_ask_81 : decode cX5_ask 81 = .ok (.iinc 4 1, 3) := by decide +kernel
theorem dX5_ask_84 : decode cX5_ask 84 = .ok (.goto (-46), 3) := by decide +kernel
theorem dX5_ask_87 : decode cX5_ask 87 = .ok (.return_, 1) := by decide +kernel
theorem dX5_askSoonest_0 : decode cX5_askSoonest 0 = .ok (.aload_n 0, 1) := by decide +kernel
theorem dX5_askSoonest_1 : decode cX5_askSoonest 1 = .ok (.iload_n 1, 1) := by decide +kernel
theorem dX5_askSoonest_2 : decode cX5_askSoonest 2 = .ok (.iload_n 2, 1) := by decide +kernel
theorem dX5_askSoonest_3 : decode cX5_askSoonest 3 = .ok (.iconst 0, 1) := by decide +kernel
theorem dX5_askSoonest_4 : decode cX5_askSoonest 4 = .ok (.invokevirtual 70, 3) := by decide +kernel
theorem dX5_askSoonest_7 : decode cX5_askSoonest 7 = .ok (.iconst 0, 1) := by decide +kernel
theorem dX5_askSoonest_8 : decode cX5_askSoonest 8 = .ok (.istore_n 3, 1) := by decide +kernel
theorem dX5_askSoonest_9 : decode cX5_askSoonest 9 = .ok (.iload_n 3, 1) := by decide +kernel
theorem dX5_askSoonest_10 : decode cX5_askSoonest 10 = .ok (.aload_n 0, 1) := by decide +kernel
theorem dX5_askSoonest_11 : decode cX5_askSoonest 11 = .ok (.getfield 27, 3) := by decide +kernel
theorem dX5_askSoonest_14 : decode cX5_askSoonest 14 = .ok (.getfield 74, 3) := by decide +kernel
theorem dX5_askSoonest_17 : decode cX5_askSoonest 17 = .ok (.if_icmp .ge 73, 3) := by decide +kernel
theorem dX5_askSoonest_20 : decode cX5_askSoonest 20 = .ok (.aload_n 0, 1) := by decide +kernel
theorem dX5_askSoonest_21 : decode cX5_askSoonest 21 = .ok (.getfield 21, 3) := by decide +kernel
theorem dX5_askSoonest_24 : decode cX5_askSoonest 24 = .ok (.iload_n 3, 1) := by decide +kernel
theorem dX5_askSoonest_25 : decode cX5_askSoonest 25 = .ok (.ldc 50, 2) := by decide +kernel
theorem dX5_askSoonest_27 : decode cX5_askSoonest 27 = .ok (.iastore, 1) := by decide +kernel
theorem dX5_askSoonest_28 : decode cX5_askSoonest 28 = .ok (.iconst 0, 1) := by decide +kernel
theorem dX5_askSoonest_29 : decode cX5_askSoonest 29 = .ok (.istore 4, 2) := by decide +kernel
theorem dX5_askSoonest_31 : decode cX5_askSoonest 31 = .ok (.iload 4, 2) := by decide +kernel
theorem dX5_askSoonest_33 : decode cX5_askSoonest 33 = .ok (.iconst 3, 1) := by decide +kernel
theorem dX5_askSoonest_34 : decode cX5_askSoonest 34 = .ok (.if_icmp .gt 38, 3) := by decide +kernel
theorem dX5_askSoonest_37 : decode cX5_askSoonest 37 = .ok (.aload_n 0, 1) := by decide +kernel
theorem dX5_askSoonest_38 : decode cX5_askSoonest 38 = .ok (.getfield 21, 3) := by decide +kernel
theorem dX5_askSoonest_41 : decode cX5_askSoonest 41 = .ok (.iload_n 3, 1) := by decide +kernel
theorem dX5_askSoonest_42 : decode cX5_askSoonest 42 = .ok (.aload_n 0, 1) := by decide +kernel
theorem dX5_askSoonest_43 : decode cX5_askSoonest 43 = .ok (.getfield 21, 3) := by decide +kernel
theorem dX5_askSoonest_46 : decode cX5_askSoonest 46 = .ok (.iload_n 3, 1) := by decide +kernel
theorem dX5_askSoonest_47 : decode cX5_askSoonest 47 = .ok (.iaload, 1) := by decide +kernel
theorem dX5_askSoonest_48 : decode cX5_askSoonest 48 = .ok (.aload_n 0, 1) := by decide +kernel
theorem dX5_askSoonest_49 : decode cX5_askSoonest 49 = .ok (.getfield 9, 3) := by decide +kernel
theorem dX5_askSoonest_52 : decode cX5_askSoonest 52 = .ok (.aload_n 0, 1) := by decide +kernel
theorem dX5_askSoonest_53 : decode cX5_askSoonest 53 = .ok (.iload 4, 2) := by decide +kernel
theorem dX5_askSoonest_55 : decode cX5_askSoonest 55 = .ok (.iconst 0, 1) := by decide +kernel
theorem dX5_askSoonest_56 : decode cX5_askSoonest 56 = .ok (.invokevirtual 77, 3) := by decide +kernel
theorem dX5_askSoonest_59 : decode cX5_askSoonest 59 = .ok (.iload_n 3, 1) := by decide +kernel
theorem dX5_askSoonest_60 : decode cX5_askSoonest 60 = .ok (.iadd, 1) := by decide +kernel
theorem dX5_askSoonest_61 : decode cX5_askSoonest 61 = .ok (.iaload, 1) := by decide +kernel
theorem dX5_askSoonest_62 : decode cX5_askSoonest 62 = .ok (.invokestatic 81, 3) := by decide +kernel
theorem dX5_askSoonest_65 : decode cX5_askSoonest 65 = .ok (.iastore, 1) := by decide +kernel
theorem dX5_askSoonest_66 : decode cX5_askSoonest 66 = .ok (.iinc 4 1, 3) := by decide +kernel
theorem dX5_askSoonest_69 : decode cX5_askSoonest 69 = .ok (.goto (-38), 3) := by decide +kernel
theorem dX5_askSoonest_72 : decode cX5_askSoonest 72 = .ok (.aload_n 0, 1) := by decide +kernel
theorem dX5_askSoonest_73 : decode cX5_askSoonest 73 = .ok (.getfield 18, 3) := by decide +kernel
theorem dX5_askSoonest_76 : decode cX5_askSoonest 76 = .ok (.iload_n 3, 1) := by decide +kernel
theorem dX5_askSoonest_77 : decode cX5_askSoonest 77 = .ok (.aload_n 0, 1) := by decide +kernel
theorem dX5_askSoonest_78 : decode cX5_askSoonest 78 = .ok (.getfield 21, 3) := by decide +kernel
theorem dX5_askSoonest_81 : decode cX5_askSoonest 81 = .ok (.iload_n 3, 1) := by decide +kernel
theorem dX5_askSoonest_82 : decode cX5_askSoonest 82 = .ok (.iaload, 1) := by decide +kernel
theorem dX5_askSoonest_83 : decode cX5_askSoonest 83 = .ok (.iastore, 1) := by decide +kernel
theorem dX5_askSoonest_84 : decode cX5_askSoonest 84 = .ok (.iinc 3 1, 3) := by decide +kernel
theorem dX5_askSoonest_87 : decode cX5_askSoonest 87 = .ok (.goto (-78), 3) := by decide +kernel
theorem dX5_askSoonest_90 : decode cX5_askSoonest 90 = .ok (.iconst 0, 1) := by decide +kernel
theorem dX5_askSoonest_91 : decode cX5_askSoonest 91 = .ok (.istore_n 3, 1) := by decide +kernel
theorem dX5_askSoonest_92 : decode cX5_askSoonest 92 = .ok (.iload_n 3, 1) := by decide +kernel
theorem dX5_askSoonest_93 : decode cX5_askSoonest 93 = .ok (.aload_n 0, 1) := by decide +kernel
theorem dX5_askSoonest_94 : decode cX5_askSoonest 94 = .ok (.getfield 35, 3) := by decide +kernel
theorem dX5_askSoonest_97 : decode cX5_askSoonest 97 = .ok (.getfield 86, 3) := by decide +kernel
theorem dX5_askSoonest_100 : decode cX5_askSoonest 100 = .ok (.if_icmp .ge 82, 3) := by decide +kernel
theorem dX5_askSoonest_103 : decode cX5_askSoonest 103 = .ok (.aload_n 0, 1) := by decide +kernel
theorem dX5_askSoonest_104 : decode cX5_askSoonest 104 = .ok (.getfield 35, 3) := by decide +kernel
theorem dX5_askSoonest_107 : decode cX5_askSoonest 107 = .ok (.iload_n 3, 1) := by decide +kernel
theorem dX5_askSoonest_108 : decode cX5_askSoonest 108 = .ok (.aload_n 0, 1) := by decide +kernel
theorem dX5_askSoonest_109 : decode cX5_askSoonest 109 = .ok (.getfield 21, 3) := by decide +kernel
theorem dX5_askSoonest_112 : decode cX5_askSoonest 112 = .ok (.aload_n 0, 1) := by decide +kernel
theorem dX5_askSoonest_113 : decode cX5_askSoonest 113 = .ok (.getfield 35, 3) := by decide +kernel
theorem dX5_askSoonest_116 : decode cX5_askSoonest 116 = .ok (.getfield 89, 3) := by decide +kernel
theorem dX5_askSoonest_119 : decode cX5_askSoonest 119 = .ok (.iload_n 3, 1) := by decide +kernel
theorem dX5_askSoonest_120 : decode cX5_askSoonest 120 = .ok (.iaload, 1) := by decide +kernel
theorem dX5_askSoonest_121 : decode cX5_askSoonest 121 = .ok (.iaload, 1) := by decide +kernel
theorem dX5_askSoonest_122 : decode cX5_askSoonest 122 = .ok (.aload_n 0, 1) := by decide +kernel
theorem dX5_askSoonest_123 : decode cX5_askSoonest 123 = .ok (.getfield 43, 3) := by decide +kernel
theorem dX5_askSoonest_126 : decode cX5_askSoonest 126 = .ok (.invokevirtual 92, 3) := by decide +kernel
theorem dX5_askSoonest_129 : decode cX5_askSoonest 129 = .ok (.istore 4, 2) := by decide +kernel
theorem dX5_askSoonest_131 : decode cX5_askSoonest 131 = .ok (.iload 4, 2) := by decide +kernel
theorem dX5_askSoonest_133 : decode cX5_askSoonest 133 = .ok (.aload_n 0, 1) := by decide +kernel
theorem dX5_askSoonest_134 : decode cX5_askSoonest 134 = .ok (.getfield 39, 3) := by decide +kernel
theorem dX5_askSoonest_137 : decode cX5_askSoonest 137 = .ok (.getfield 96, 3) := by decide +kernel
theorem dX5_askSoonest_140 : decode cX5_askSoonest 140 = .ok (.if_icmp .ge 36, 3) := by decide +kernel
theorem dX5_askSoonest_143 : decode cX5_askSoonest 143 = .ok (.aload_n 0, 1) := by decide +kernel
theorem dX5_askSoonest_144 : decode cX5_askSoonest 144 = .ok (.getfield 18, 3) := by decide +kernel
theorem dX5_askSoonest_147 : decode cX5_askSoonest 147 = .ok (.aload_n 0, 1) := by decide +kernel
theorem dX5_askSoonest_148 : decode cX5_askSoonest 148 = .ok (.getfield 35, 3) := by decide +kernel
theorem dX5_askSoonest_151 : decode cX5_askSoonest 151 = .ok (.getfield 99, 3) := by decide +kernel
theorem dX5_askSoonest_154 : decode cX5_askSoonest 154 = .ok (.iload_n 3, 1) := by decide +kernel
theorem dX5_askSoonest_155 : decode cX5_askSoonest 155 = .ok (.iaload, 1) := by decide +kernel
theorem dX5_askSoonest_156 : decode cX5_askSoonest 156 = .ok (.aload_n 0, 1) := by decide +kernel
theorem dX5_askSoonest_157 : decode cX5_askSoonest 157 = .ok (.getfield 18, 3) := by decide +kernel
theorem dX5_askSoonest_160 : decode cX5_askSoonest 160 = .ok (.aload_n 0, 1) := by decide +kernel
theorem dX5_askSoonest_161 : decode cX5_askSoonest 161 = .ok (.getfield 35, 3) := by decide +kernel
theorem dX5_askSoonest_164 : decode cX5_askSoonest 164 = .ok (.getfield 99, 3) := by decide +kernel
theorem dX5_askSoonest_167 : decode cX5_askSoonest 167 = .ok (.iload_n 3, 1) := by decide +kernel
theorem dX5_askSoonest_168 : decode cX5_askSoonest 168 = .ok (.iaload, 1) := by decide +kernel
theorem dX5_askSoonest_169 : decode cX5_askSoonest 169 = .ok (.iaload, 1) := by decide +kernel
theorem dX5_askSoonest_170 : decode cX5_askSoonest 170 = .ok (.iload 4, 2) := by decide +kernel
theorem dX5_askSoonest_172 : decode cX5_askSoonest 172 = .ok (.invokestatic 81, 3) := by decide +kernel
theorem dX5_askSoonest_175 : decode cX5_askSoonest 175 = .ok (.iastore, 1) := by decide +kernel
theorem dX5_askSoonest_176 : decode cX5_askSoonest 176 = .ok (.iinc 3 1, 3) := by decide +kernel
theorem dX5_askSoonest_179 : decode cX5_askSoonest 179 = .ok (.goto (-87), 3) := by decide +kernel
theorem dX5_askSoonest_182 : decode cX5_askSoonest 182 = .ok (.return_, 1) := by decide +kernel
theorem dX5_mostFare_0 : decode cX5_mostFare 0 = .ok (.aload_n 0, 1) := by decide +kernel
theorem dX5_mostFare_1 : decode cX5_mostFare 1 = .ok (.getfield 47, 3) := by decide +kernel
theorem dX5_mostFare_4 : decode cX5_mostFare 4 = .ok (.iload_n 1, 1) := by decide +kernel
theorem dX5_mostFare_5 : decode cX5_mostFare 5 = .ok (.imul, 1) := by decide +kernel
theorem dX5_mostFare_6 : decode cX5_mostFare 6 = .ok (.ireturn, 1) := by decide +kernel
theorem dX5_endedAt_0 : decode cX5_endedAt 0 = .ok (.aload_n 0, 1) := by decide +kernel
theorem dX5_endedAt_1 : decode cX5_endedAt 1 = .ok (.iload_n 1, 1) := by decide +kernel
theorem dX5_endedAt_2 : decode cX5_endedAt 2 = .ok (.iload_n 2, 1) := by decide +kernel
theorem dX5_endedAt_3 : decode cX5_endedAt 3 = .ok (.invokevirtual 102, 3) := by decide +kernel
theorem dX5_endedAt_6 : decode cX5_endedAt 6 = .ok (.ifCond .eq 19, 3) := by decide +kernel
theorem dX5_endedAt_9 : decode cX5_endedAt 9 = .ok (.aload_n 0, 1) := by decide +kernel
theorem dX5_endedAt_10 : decode cX5_endedAt 10 = .ok (.getfield 9, 3) := by decide +kernel
theorem dX5_endedAt_13 : decode cX5_endedAt 13 = .ok (.aload_n 0, 1) := by decide +kernel
theorem dX5_endedAt_14 : decode cX5_endedAt 14 = .ok (.iload_n 1, 1) := by decide +kernel
theorem dX5_endedAt_15 : decode cX5_endedAt 15 = .ok (.iload_n 2, 1) := by decide +kernel
theorem dX5_endedAt_16 : decode cX5_endedAt 16 = .ok (.invokevirtual 77, 3) := by decide +kernel
theorem dX5_endedAt_19 : decode cX5_endedAt 19 = .ok (.iload_n 3, 1) := by decide +kernel
theorem dX5_endedAt_20 : decode cX5_endedAt 20 = .ok (.iadd, 1) := by decide +kernel
theorem dX5_endedAt_21 : decode cX5_endedAt 21 = .ok (.iaload, 1) := by decide +kernel
theorem dX5_endedAt_22 : decode cX5_endedAt 22 = .ok (.goto 5, 3) := by decide +kernel
theorem dX5_endedAt_25 : decode cX5_endedAt 25 = .ok (.ldc 50, 2) := by decide +kernel
theorem dX5_endedAt_27 : decode cX5_endedAt 27 = .ok (.ireturn, 1) := by decide +kernel
theorem dX5_readyAt_0 : decode cX5_readyAt 0 = .ok (.iload_n 1, 1) := by decide +kernel
theorem dX5_readyAt_1 : decode cX5_readyAt 1 = .ok (.iconst 3, 1) := by decide +kernel
theorem dX5_readyAt_2 : decode cX5_readyAt 2 = .ok (.if_icmp .ge 28, 3) := by decide +kernel
theorem dX5_readyAt_5 : decode cX5_readyAt 5 = .ok (.aload_n 0, 1) := by decide +kernel
theorem dX5_readyAt_6 : decode cX5_readyAt 6 = .ok (.iload_n 1, 1) := by decide +kernel
theorem dX5_readyAt_7 : decode cX5_readyAt 7 = .ok (.iload_n 2, 1) := by decide +kernel
theorem dX5_readyAt_8 : decode cX5_readyAt 8 = .ok (.invokevirtual 102, 3) := by decide +kernel
theorem dX5_readyAt_11 : decode cX5_readyAt 11 = .ok (.ifCond .eq 19, 3) := by decide +kernel
theorem dX5_readyAt_14 : decode cX5_readyAt 14 = .ok (.aload_n 0, 1) := by decide +kernel
theorem dX5_readyAt_15 : decode cX5_readyAt 15 = .ok (.getfield 15, 3) := by decide +kernel
theorem dX5_readyAt_18 : decode cX5_readyAt 18 = .ok (.aload_n 0, 1) := by decide +kernel
theorem dX5_readyAt_19 : decode cX5_readyAt 19 = .ok (.iload_n 1, 1) := by decide +kernel
theorem dX5_readyAt_20 : decode cX5_readyAt 20 = .ok (.iload_n 2, 1) := by decide +kernel
theorem dX5_readyAt_21 : decode cX5_readyAt 21 = .ok (.invokevirtual 77, 3) := by decide +kernel
theorem dX5_readyAt_24 : decode cX5_readyAt 24 = .ok (.iload_n 3, 1) := by decide +kernel
theorem dX5_readyAt_25 : decode cX5_readyAt 25 = .ok (.iadd, 1) := by decide +kernel
theorem dX5_readyAt_26 : decode cX5_readyAt 26 = .ok (.iaload, 1) := by decide +kernel
theorem dX5_readyAt_27 : decode cX5_readyAt 27 = .ok (.goto 5, 3) := by decide +kernel
theorem dX5_readyAt_30 : decode cX5_readyAt 30 = .ok (.ldc 50, 2) := by decide +kernel
theorem dX5_readyAt_32 : decode cX5_readyAt 32 = .ok (.ireturn, 1) := by decide +kernel
theorem dX5_arrival_0 : decode cX5_arrival 0 = .ok (.aload_n 0, 1) := by decide +kernel
theorem dX5_arrival_1 : decode cX5_arrival 1 = .ok (.iload_n 1, 1) := by decide +kernel
theorem dX5_arrival_2 : decode cX5_arrival 2 = .ok (.iload_n 2, 1) := by decide +kernel
theorem dX5_arrival_3 : decode cX5_arrival 3 = .ok (.iload_n 3, 1) := by decide +kernel
theorem dX5_arrival_4 : decode cX5_arrival 4 = .ok (.invokevirtual 106, 3) := by decide +kernel
theorem dX5_arrival_7 : decode cX5_arrival 7 = .ok (.istore 4, 2) := by decide +kernel
theorem dX5_arrival_9 : decode cX5_arrival 9 = .ok (.iconst 0, 1) := by decide +kernel
theorem dX5_arrival_10 : decode cX5_arrival 10 = .ok (.istore 5, 2) := by decide +kernel
theorem dX5_arrival_12 : decode cX5_arrival 12 = .ok (.iload 5, 2) := by decide +kernel
theorem dX5_arrival_14 : decode cX5_arrival 14 = .ok (.aload_n 0, 1) := by decide +kernel
theorem dX5_arrival_15 : decode cX5_arrival 15 = .ok (.getfield 35, 3) := by decide +kernel
theorem dX5_arrival_18 : decode cX5_arrival 18 = .ok (.getfield 86, 3) := by decide +kernel
theorem dX5_arrival_21 : decode cX5_arrival 21 = .ok (.if_icmp .ge 63, 3) := by decide +kernel
theorem dX5_arrival_24 : decode cX5_arrival 24 = .ok (.aload_n 0, 1) := by decide +kernel
theorem dX5_arrival_25 : decode cX5_arrival 25 = .ok (.getfield 35, 3) := by decide +kernel
theorem dX5_arrival_28 : decode cX5_arrival 28 = .ok (.getfield 99, 3) := by decide +kernel
theorem dX5_arrival_31 : decode cX5_arrival 31 = .ok (.iload 5, 2) := by decide +kernel
theorem dX5_arrival_33 : decode cX5_arrival 33 = .ok (.iaload, 1) := by decide +kernel
theorem dX5_arrival_34 : decode cX5_arrival 34 = .ok (.iload_n 3, 1) := by decide +kernel
theorem dX5_arrival_35 : decode cX5_arrival 35 = .ok (.if_icmp .ne 43, 3) := by decide +kernel
theorem dX5_arrival_38 : decode cX5_arrival 38 = .ok (.aload_n 0, 1) := by decide +kernel
theorem dX5_arrival_39 : decode cX5_arrival 39 = .ok (.iload_n 1, 1) := by decide +kernel
theorem dX5_arrival_40 : decode cX5_arrival 40 = .ok (.iload_n 2, 1) := by decide +kernel
theorem dX5_arrival_41 : decode cX5_arrival 41 = .ok (.aload_n 0, 1) := by decide +kernel
theorem dX5_arrival_42 : decode cX5_arrival 42 = .ok (.getfield 35, 3) := by decide +kernel
theorem dX5_arrival_45 : decode cX5_arrival 45 = .ok (.getfield 89, 3) := by decide +kernel
theorem dX5_arrival_48 : decode cX5_arrival 48 = .ok (.iload 5, 2) := by decide +kernel
theorem dX5_arrival_50 : decode cX5_arrival 50 = .ok (.iaload, 1) := by decide +kernel
theorem dX5_arrival_51 : decode cX5_arrival 51 = .ok (.invokevirtual 106, 3) := by decide +kernel
theorem dX5_arrival_54 : decode cX5_arrival 54 = .ok (.istore 6, 2) := by decide +kernel
theorem dX5_arrival_56 : decode cX5_arrival 56 = .ok (.iload 4, 2) := by decide +kernel
theorem dX5_arrival_58 : decode cX5_arrival 58 = .ok (.aload_n 0, 1) := by decide +kernel
theorem dX5_arrival_59 : decode cX5_arrival 59 = .ok (.getfield 35, 3) := by decide +kernel
theorem dX5_arrival_62 : decode cX5_arrival 62 = .ok (.iload 5, 2) := by decide +kernel
theorem dX5_arrival_64 : decode cX5_arrival 64 = .ok (.iload 6, 2) := by decide +kernel
theorem dX5_arrival_66 : decode cX5_arrival 66 = .ok (.aload_n 0, 1) := by decide +kernel
theorem dX5_arrival_67 : decode cX5_arrival 67 = .ok (.getfield 43, 3) := by decide +kernel
theorem dX5_arrival_70 : decode cX5_arrival 70 = .ok (.invokevirtual 92, 3) := by decide +kernel
theorem dX5_arrival_73 : decode cX5_arrival 73 = .ok (.invokestatic 81, 3) := by decide +kernel
theorem dX5_arrival_76 : decode cX5_arrival 76 = .ok (.istore 4, 2) := by decide +kernel
theorem dX5_arrival_78 : decode cX5_arrival 78 = .ok (.iinc 5 1, 3) := by decide +kernel
theorem dX5_arrival_81 : decode cX5_arrival 81 = .ok (.goto (-69), 3) := by decide +kernel
theorem dX5_arrival_84 : decode cX5_arrival 84 = .ok (.iload 4, 2) := by decide +kernel
theorem dX5_arrival_86 : decode cX5_arrival 86 = .ok (.aload_n 0, 1) := by decide +kernel
theorem dX5_arrival_87 : decode cX5_arrival 87 = .ok (.getfield 39, 3) := by decide +kernel
theorem dX5_arrival_90 : decode cX5_arrival 90 = .ok (.getfield 96, 3) := by decide +kernel
theorem dX5_arrival_93 : decode cX5_arrival 93 = .ok (.if_icmp .ge 8, 3) := by decide +kernel
theorem dX5_arrival_96 : decode cX5_arrival 96 = .ok (.iload 4, 2) := by decide +kernel
theorem dX5_arrival_98 : decode cX5_arrival 98 = .ok (.goto 5, 3) := by decide +kernel
theorem dX5_arrival_101 : decode cX5_arrival 101 = .ok (.ldc 50, 2) := by decide +kernel
theorem dX5_arrival_103 : decode cX5_arrival 103 = .ok (.ireturn, 1) := by decide +kernel
theorem dX5_canCost_0 : decode cX5_canCost 0 = .ok (.iload_n 1, 1) := by decide +kernel
theorem dX5_canCost_1 : decode cX5_canCost 1 = .ok (.iconst 0, 1) := by decide +kernel
theorem dX5_canCost_2 : decode cX5_canCost 2 = .ok (.iconst 3, 1) := by decide +kernel
theorem dX5_canCost_3 : decode cX5_canCost 3 = .ok (.invokestatic 109, 3) := by decide +kernel
theorem dX5_canCost_6 : decode cX5_canCost 6 = .ok (.ifCond .eq 20, 3) := by decide +kernel
theorem dX5_canCost_9 : decode cX5_canCost 9 = .ok (.iload_n 2, 1) := by decide +kernel
theorem dX5_canCost_10 : decode cX5_canCost 10 = .ok (.iconst 0, 1) := by decide +kernel
theorem dX5_canCost_11 : decode cX5_canCost 11 = .ok (.aload_n 0, 1) := by decide +kernel
theorem dX5_canCost_12 : decode cX5_canCost 12 = .ok (.iload_n 1, 1) := by decide +kernel
theorem dX5_canCost_13 : decode cX5_canCost 13 = .ok (.invokevirtual 113, 3) := by decide +kernel
theorem dX5_canCost_16 : decode cX5_canCost 16 = .ok (.invokestatic 109, 3) := by decide +kernel
theorem dX5_canCost_19 : decode cX5_canCost 19 = .ok (.ifCond .eq 7, 3) := by decide +kernel
theorem dX5_canCost_22 : decode cX5_canCost 22 = .ok (.iconst 1, 1) := by decide +kernel
theorem dX5_canCost_23 : decode cX5_canCost 23 = .ok (.goto 4, 3) := by decide +kernel
theorem dX5_canCost_26 : decode cX5_canCost 26 = .ok (.iconst 0, 1) := by decide +kernel
theorem dX5_canCost_27 : decode cX5_canCost 27 = .ok (.ireturn, 1) := by decide +kernel
theorem dX5_row_0 : decode cX5_row 0 = .ok (.iload_n 1, 1) := by decide +kernel
theorem dX5_row_1 : decode cX5_row 1 = .ok (.aload_n 0, 1) := by decide +kernel
theorem dX5_row_2 : decode cX5_row 2 = .ok (.getfield 47, 3) := by decide +kernel
theorem dX5_row_5 : decode cX5_row 5 = .ok (.iload_n 1, 1) := by decide +kernel
theorem dX5_row_6 : decode cX5_row 6 = .ok (.iload_n 1, 1) := by decide +kernel
theorem dX5_row_7 : decode cX5_row 7 = .ok (.iconst 1, 1) := by decide +kernel
theorem dX5_row_8 : decode cX5_row 8 = .ok (.isub, 1) := by decide +kernel
theorem dX5_row_9 : decode cX5_row 9 = .ok (.imul, 1) := by decide +kernel
theorem dX5_row_10 : decode cX5_row 10 = .ok (.iconst 2, 1) := by decide +kernel
theorem dX5_row_11 : decode cX5_row 11 = .ok (.idiv, 1) := by decide +kernel
theorem dX5_row_12 : decode cX5_row 12 = .ok (.imul, 1) := by decide +kernel
theorem dX5_row_13 : decode cX5_row 13 = .ok (.iadd, 1) := by decide +kernel
theorem dX5_row_14 : decode cX5_row 14 = .ok (.iload_n 2, 1) := by decide +kernel
theorem dX5_row_15 : decode cX5_row 15 = .ok (.iadd, 1) := by decide +kernel
theorem dX5_row_16 : decode cX5_row 16 = .ok (.bipush 12, 2) := by decide +kernel
theorem dX5_row_18 : decode cX5_row 18 = .ok (.imul, 1) := by decide +kernel
theorem dX5_row_19 : decode cX5_row 19 = .ok (.ireturn, 1) := by decide +kernel
theorem dX5_getReady_0 : decode cX5_getReady 0 = .ok (.iconst 0, 1) := by decide +kernel
theorem dX5_getReady_1 : decode cX5_getReady 1 = .ok (.istore_n 2, 1) := by decide +kernel
theorem dX5_getReady_2 : decode cX5_getReady 2 = .ok (.iload_n 2, 1) := by decide +kernel
theorem dX5_getReady_3 : decode cX5_getReady 3 = .ok (.aload_n 0, 1) := by decide +kernel
theorem dX5_getReady_4 : decode cX5_getReady 4 = .ok (.iload_n 1, 1) := by decide +kernel
theorem dX5_getReady_5 : decode cX5_getReady 5 = .ok (.invokevirtual 113, 3) := by decide +kernel
theorem dX5_getReady_8 : decode cX5_getReady 8 = .ok (.if_icmp .gt 174, 3) := by decide +kernel
theorem dX5_getReady_11 : decode cX5_getReady 11 = .ok (.aload_n 0, 1) := by decide +kernel
theorem dX5_getReady_12 : decode cX5_getReady 12 = .ok (.iload_n 1, 1) := by decide +kernel
theorem dX5_getReady_13 : decode cX5_getReady 13 = .ok (.iload_n 2, 1) := by decide +kernel
theorem dX5_getReady_14 : decode cX5_getReady 14 = .ok (.invokevirtual 77, 3) := by decide +kernel
theorem dX5_getReady_17 : decode cX5_getReady 17 = .ok (.istore_n 3, 1) := by decide +kernel
theorem dX5_getReady_18 : decode cX5_getReady 18 = .ok (.iconst 0, 1) := by decide +kernel
theorem dX5_getReady_19 : decode cX5_getReady 19 = .ok (.istore 4, 2) := by decide +kernel
theorem dX5_getReady_21 : decode cX5_getReady 21 = .ok (.iload 4, 2) := by decide +kernel
theorem dX5_getReady_23 : decode cX5_getReady 23 = .ok (.aload_n 0, 1) := by decide +kernel
theorem dX5_getReady_24 : decode cX5_getReady 24 = .ok (.getfield 27, 3) := by decide +kernel
theorem dX5_getReady_27 : decode cX5_getReady 27 = .ok (.getfield 74, 3) := by decide +kernel
theorem dX5_getReady_30 : decode cX5_getReady 30 = .ok (.if_icmp .ge 60, 3) := by decide +kernel
theorem dX5_getReady_33 : decode cX5_getReady 33 = .ok (.aload_n 0, 1) := by decide +kernel
theorem dX5_getReady_34 : decode cX5_getReady 34 = .ok (.getfield 9, 3) := by decide +kernel
theorem dX5_getReady_37 : decode cX5_getReady 37 = .ok (.iload_n 3, 1) := by decide +kernel
theorem dX5_getReady_38 : decode cX5_getReady 38 = .ok (.iload 4, 2) := by decide +kernel
theorem dX5_getReady_40 : decode cX5_getReady 40 = .ok (.iadd, 1) := by decide +kernel
theorem dX5_getReady_41 : decode cX5_getReady 41 = .ok (.iaload, 1) := by decide +kernel
theorem dX5_getReady_42 : decode cX5_getReady 42 = .ok (.ldc 50, 2) := by decide +kernel
theorem dX5_getReady_44 : decode cX5_getReady 44 = .ok (.if_icmp .ge 40, 3) := by decide +kernel
theorem dX5_getReady_47 : decode cX5_getReady 47 = .ok (.aload_n 0, 1) := by decide +kernel
theorem dX5_getReady_48 : decode cX5_getReady 48 = .ok (.getfield 15, 3) := by decide +kernel
theorem dX5_getReady_51 : decode cX5_getReady 51 = .ok (.iload_n 3, 1) := by decide +kernel
theorem dX5_getReady_52 : decode cX5_getReady 52 = .ok (.iload 4, 2) := by decide +kernel
theorem dX5_getReady_54 : decode cX5_getReady 54 = .ok (.iadd, 1) := by decide +kernel
theorem dX5_getReady_55 : decode cX5_getReady 55 = .ok (.aload_n 0, 1) := by decide +kernel
theorem dX5_getReady_56 : decode cX5_getReady 56 = .ok (.getfield 9, 3) := by decide +kernel
theorem dX5_getReady_59 : decode cX5_getReady 59 = .ok (.iload_n 3, 1) := by decide +kernel
theorem dX5_getReady_60 : decode cX5_getReady 60 = .ok (.iload 4, 2) := by decide +kernel
theorem dX5_getReady_62 : decode cX5_getReady 62 = .ok (.iadd, 1) := by decide +kernel
theorem dX5_getReady_63 : decode cX5_getReady 63 = .ok (.iaload, 1) := by decide +kernel
theorem dX5_getReady_64 : decode cX5_getReady 64 = .ok (.iload_n 1, 1) := by decide +kernel
theorem dX5_getReady_65 : decode cX5_getReady 65 = .ok (.ifCond .ne 7, 3) := by decide +kernel
theorem dX5_getReady_68 : decode cX5_getReady 68 = .ok (.iconst 0, 1) := by decide +kernel
theorem dX5_getReady_69 : decode cX5_getReady 69 = .ok (.goto 13, 3) := by decide +kernel
theorem dX5_getReady_72 : decode cX5_getReady 72 = .ok (.aload_n 0, 1) := by decide +kernel
theorem dX5_getReady_73 : decode cX5_getReady 73 = .ok (.getfield 27, 3) := by decide +kernel
theorem dX5_getReady_76 : decode cX5_getReady 76 = .ok (.getfield 117, 3) := by decide +kernel
theorem dX5_getReady_79 : decode cX5_getReady 79 = .ok (.iload 4, 2) := by decide +kernel
theorem dX5_getReady_81 : decode cX5_getReady 81 = .ok (.iaload, 1) := by decide +kernel
theorem dX5_getReady_82 : decode cX5_getReady 82 = .ok (.iadd, 1) := by decide +kernel
theorem dX5_getReady_83 : decode cX5_getReady 83 = .ok (.iastore, 1) := by decide +kernel
theorem dX5_getReady_84 : decode cX5_getReady 84 = .ok (.iinc 4 1, 3) := by decide +kernel
theorem dX5_getReady_87 : decode cX5_getReady 87 = .ok (.goto (-66), 3) := by decide +kernel
theorem dX5_getReady_90 : decode cX5_getReady 90 = .ok (.iconst 0, 1) := by decide +kernel
theorem dX5_getReady_91 : decode cX5_getReady 91 = .ok (.istore 4, 2) := by decide +kernel
theorem dX5_getReady_93 : decode cX5_getReady 93 = .ok (.iload 4, 2) := by decide +kernel
theorem dX5_getReady_95 : decode cX5_getReady 95 = .ok (.aload_n 0, 1) := by decide +kernel
theorem dX5_getReady_96 : decode cX5_getReady 96 = .ok (.getfield 35, 3) := by decide +kernel
theorem dX5_getReady_99 : decode cX5_getReady 99 = .ok (.getfield 86, 3) := by decide +kernel
theorem dX5_getReady_102 : decode cX5_getReady 102 = .ok (.if_icmp .ge 74, 3) := by decide +kernel
theorem dX5_getReady_105 : decode cX5_getReady 105 = .ok (.iload_n 3, 1) := by decide +kernel
theorem dX5_getReady_106 : decode cX5_getReady 106 = .ok (.aload_n 0, 1) := by decide +kernel
theorem dX5_getReady_107 : decode cX5_getReady 107 = .ok (.getfield 35, 3) := by decide +kernel
theorem dX5_getReady_110 : decode cX5_getReady 110 = .ok (.getfield 99, 3) := by decide +kernel
theorem dX5_getReady_113 : decode cX5_getReady 113 = .ok (.iload 4, 2) := by decide +kernel
theorem dX5_getReady_115 : decode cX5_getReady 115 = .ok (.iaload, 1) := by decide +kernel
theorem dX5_getReady_116 : decode cX5_getReady 116 = .ok (.iadd, 1) := by decide +kernel
theorem dX5_getReady_117 : decode cX5_getReady 117 = .ok (.istore 5, 2) := by decide +kernel
theorem dX5_getReady_119 : decode cX5_getReady 119 = .ok (.aload_n 0, 1) := by decide +kernel
theorem dX5_getReady_120 : decode cX5_getReady 120 = .ok (.getfield 35, 3) := by decide +kernel
theorem dX5_getReady_123 : decode cX5_getReady 123 = .ok (.iload 4, 2) := by decide +kernel
theorem dX5_getReady_125 : decode cX5_getReady 125 = .ok (.aload_n 0, 1) := by decide +kernel
theorem dX5_getReady_126 : decode cX5_getReady 126 = .ok (.getfield 9, 3) := by decide +kernel
theorem dX5_getReady_129 : decode cX5_getReady 129 = .ok (.iload_n 3, 1) := by decide +kernel
theorem dX5_getReady_130 : decode cX5_getReady 130 = .ok (.aload_n 0, 1) := by decide +kernel
theorem dX5_getReady_131 : decode cX5_getReady 131 = .ok (.getfield 35, 3) := by decide +kernel
theorem dX5_getReady_134 : decode cX5_getReady 134 = .ok (.getfield 89, 3) := by decide +kernel
theorem dX5_getReady_137 : decode cX5_getReady 137 = .ok (.iload 4, 2) := by decide +kernel
theorem dX5_getReady_139 : decode cX5_getReady 139 = .ok (.iaload, 1) := by decide +kernel
theorem dX5_getReady_140 : decode cX5_getReady 140 = .ok (.iadd, 1) := by decide +kernel
theorem dX5_getReady_141 : decode cX5_getReady 141 = .ok (.iaload, 1) := by decide +kernel
theorem dX5_getReady_142 : decode cX5_getReady 142 = .ok (.aload_n 0, 1) := by decide +kernel
theorem dX5_getReady_143 : decode cX5_getReady 143 = .ok (.getfield 43, 3) := by decide +kernel
theorem dX5_getReady_146 : decode cX5_getReady 146 = .ok (.invokevirtual 92, 3) := by decide +kernel
theorem dX5_getReady_149 : decode cX5_getReady 149 = .ok (.istore 6, 2) := by decide +kernel
theorem dX5_getReady_151 : decode cX5_getReady 151 = .ok (.aload_n 0, 1) := by decide +kernel
theorem dX5_getReady_152 : decode cX5_getReady 152 = .ok (.getfield 15, 3) := by decide +kernel
theorem dX5_getReady_155 : decode cX5_getReady 155 = .ok (.iload 5, 2) := by decide +kernel
theorem dX5_getReady_157 : decode cX5_getReady 157 = .ok (.aload_n 0, 1) := by decide +kernel
theorem dX5_getReady_158 : decode cX5_getReady 158 = .ok (.getfield 15, 3) := by decide +kernel
theorem dX5_getReady_161 : decode cX5_getReady 161 = .ok (.iload 5, 2) := by decide +kernel
theorem dX5_getReady_163 : decode cX5_getReady 163 = .ok (.iaload, 1) := by decide +kernel
theorem dX5_getReady_164 : decode cX5_getReady 164 = .ok (.iload 6, 2) := by decide +kernel
theorem dX5_getReady_166 : decode cX5_getReady 166 = .ok (.invokestatic 81, 3) := by decide +kernel
theorem dX5_getReady_169 : decode cX5_getReady 169 = .ok (.iastore, 1) := by decide +kernel
theorem dX5_getReady_170 : decode cX5_getReady 170 = .ok (.iinc 4 1, 3) := by decide +kernel
theorem dX5_getReady_173 : decode cX5_getReady 173 = .ok (.goto (-80), 3) := by decide +kernel
theorem dX5_getReady_176 : decode cX5_getReady 176 = .ok (.iinc 2 1, 3) := by decide +kernel
theorem dX5_getReady_179 : decode cX5_getReady 179 = .ok (.goto (-177), 3) := by decide +kernel
theorem dX5_getReady_182 : decode cX5_getReady 182 = .ok (.return_, 1) := by decide +kernel
theorem dX5_ride_0 : decode cX5_ride 0 = .ok (.aload_n 0, 1) := by decide +kernel
theorem dX5_ride_1 : decode cX5_ride 1 = .ok (.getfield 39, 3) := by decide +kernel
theorem dX5_ride_4 : decode cX5_ride 4 = .ok (.getfield 120, 3) := by decide +kernel
theorem dX5_ride_7 : decode cX5_ride 7 = .ok (.iload_n 2, 1) := by decide +kernel
theorem dX5_ride_8 : decode cX5_ride 8 = .ok (.iaload, 1) := by decide +kernel
theorem dX5_ride_9 : decode cX5_ride 9 = .ok (.istore_n 3, 1) := by decide +kernel
theorem dX5_ride_10 : decode cX5_ride 10 = .ok (.aload_n 0, 1) := by decide +kernel
theorem dX5_ride_11 : decode cX5_ride 11 = .ok (.getfield 24, 3) := by decide +kernel
theorem dX5_ride_14 : decode cX5_ride 14 = .ok (.iconst 0, 1) := by decide +kernel
theorem dX5_ride_15 : decode cX5_ride 15 = .ok (.invokestatic 51, 3) := by decide +kernel
theorem dX5_ride_18 : decode cX5_ride 18 = .ok (.iconst 0, 1) := by decide +kernel
theorem dX5_ride_19 : decode cX5_ride 19 = .ok (.istore 4, 2) := by decide +kernel
theorem dX5_ride_21 : decode cX5_ride 21 = .ok (.iload 4, 2) := by decide +kernel
theorem dX5_ride_23 : decode cX5_ride 23 = .ok (.aload_n 0, 1) := by decide +kernel
theorem dX5_ride_24 : decode cX5_ride 24 = .ok (.getfield 31, 3) := by decide +kernel
theorem dX5_ride_27 : decode cX5_ride 27 = .ok (.getfield 123, 3) := by decide +kernel
theorem dX5_ride_30 : decode cX5_ride 30 = .ok (.iload_n 3, 1) := by decide +kernel
theorem dX5_ride_31 : decode cX5_ride 31 = .ok (.iaload, 1) := by decide +kernel
theorem dX5_ride_32 : decode cX5_ride 32 = .ok (.if_icmp .ge 75, 3) := by decide +kernel
theorem dX5_ride_35 : decode cX5_ride 35 = .ok (.aload_n 0, 1) := by decide +kernel
theorem dX5_ride_36 : decode cX5_ride 36 = .ok (.getfield 31, 3) := by decide +kernel
theorem dX5_ride_39 : decode cX5_ride 39 = .ok (.iload_n 3, 1) := by decide +kernel
theorem dX5_ride_40 : decode cX5_ride 40 = .ok (.iload 4, 2) := by decide +kernel
theorem dX5_ride_42 : decode cX5_ride 42 = .ok (.invokevirtual 128, 3) := by decide +kernel
theorem dX5_ride_45 : decode cX5_ride 45 = .ok (.istore 5, 2) := by decide +kernel
theorem dX5_ride_47 : decode cX5_ride 47 = .ok (.iload 5, 2) := by decide +kernel
theorem dX5_ride_49 : decode cX5_ride 49 = .ok (.ifCond .eq 11, 3) := by decide +kernel
theorem dX5_ride_52 : decode cX5_ride 52 = .ok (.aload_n 0, 1) := by decide +kernel
theorem dX5_ride_53 : decode cX5_ride 53 = .ok (.iload_n 1, 1) := by decide +kernel
theorem dX5_ride_54 : decode cX5_ride 54 = .ok (.iload_n 2, 1) := by decide +kernel
theorem dX5_ride_55 : decode cX5_ride 55 = .ok (.iload 4, 2) := by decide +kernel
theorem dX5_ride_57 : decode cX5_ride 57 = .ok (.invokevirtual 131, 3) := by decide +kernel
theorem dX5_ride_60 : decode cX5_ride 60 = .ok (.aload_n 0, 1) := by decide +kernel
theorem dX5_ride_61 : decode cX5_ride 61 = .ok (.getfield 39, 3) := by decide +kernel
theorem dX5_ride_64 : decode cX5_ride 64 = .ok (.getfield 134, 3) := by decide +kernel
theorem dX5_ride_67 : decode cX5_ride 67 = .ok (.iload_n 2, 1) := by decide +kernel
theorem dX5_ride_68 : decode cX5_ride 68 = .ok (.iaload, 1) := by decide +kernel
theorem dX5_ride_69 : decode cX5_ride 69 = .ok (.iload 4, 2) := by decide +kernel
theorem dX5_ride_71 : decode cX5_ride 71 = .ok (.ishr, 1) := by decide +kernel
theorem dX5_ride_72 : decode cX5_ride 72 = .ok (.iconst 1, 1) := by decide +kernel
theorem dX5_ride_73 : decode cX5_ride 73 = .ok (.iand, 1) := by decide +kernel
theorem dX5_ride_74 : decode cX5_ride 74 = .ok (.ifCond .eq 14, 3) := by decide +kernel
theorem dX5_ride_77 : decode cX5_ride 77 = .ok (.aload_n 0, 1) := by decide +kernel
theorem dX5_ride_78 : decode cX5_ride 78 = .ok (.getfield 24, 3) := by decide +kernel
theorem dX5_ride_81 : decode cX5_ride 81 = .ok (.iconst 0, 1) := by decide +kernel
theorem dX5_ride_82 : decode cX5_ride 82 = .ok (.invokestatic 51, 3) := by decide +kernel
theorem dX5_ride_85 : decode cX5_ride 85 = .ok (.goto 16, 3) := by decide +kernel
theorem dX5_ride_88 : decode cX5_ride 88 = .ok (.iload 5, 2) := by decide +kernel
theorem dX5_ride_90 : decode cX5_ride 90 = .ok (.ifCond .eq 11, 3) := by decide +kernel
theorem dX5_ride_93 : decode cX5_ride 93 = .ok (.aload_n 0, 1) := by decide +kernel
theorem dX5_ride_94 : decode cX5_ride 94 = .ok (.iload_n 1, 1) := by decide +kernel
theorem dX5_ride_95 : decode cX5_ride 95 = .ok (.iload_n 2, 1) := by decide +kernel
theorem dX5_ride_96 : decode cX5_ride 96 = .ok (.iload 4, 2) := by decide +kernel
theorem dX5_ride_98 : decode cX5_ride 98 = .ok (.invokevirtual 137, 3) := by decide +kernel
theorem dX5_ride_101 : decode cX5_ride 101 = .ok (.iinc 4 1, 3) := by decide +kernel
theorem dX5_ride_104 : decode cX5_ride 104 = .ok (.goto (-83), 3) := by decide +kernel
theorem dX5_ride_107 : decode cX5_ride 107 = .ok (.return_, 1) := by decide +kernel
theorem dX5_getOff_0 : decode cX5_getOff 0 = .ok (.aload_n 0, 1) := by decide +kernel
theorem dX5_getOff_1 : decode cX5_getOff 1 = .ok (.getfield 31, 3) := by decide +kernel
theorem dX5_getOff_4 : decode cX5_getOff 4 = .ok (.getfield 140, 3) := by decide +kernel
theorem dX5_getOff_7 : decode cX5_getOff 7 = .ok (.aload_n 0, 1) := by decide +kernel
theorem dX5_getOff_8 : decode cX5_getOff 8 = .ok (.getfield 39, 3) := by decide +kernel
theorem dX5_getOff_11 : decode cX5_getOff 11 = .ok (.getfield 120, 3) := by decide +kernel
theorem dX5_getOff_14 : decode cX5_getOff 14 = .ok (.iload_n 2, 1) := by decide +kernel
theorem dX5_getOff_15 : decode cX5_getOff 15 = .ok (.iaload, 1) := by decide +kernel
theorem dX5_getOff_16 : decode cX5_getOff 16 = .ok (.bipush 8, 2) := by decide +kernel
theorem dX5_getOff_18 : decode cX5_getOff 18 = .ok (.imul, 1) := by decide +kernel
theorem dX5_getOff_19 : decode cX5_getOff 19 = .ok (.iload_n 3, 1) := by decide +kernel
theorem dX5_getOff_20 : decode cX5_getOff 20 = .ok (.iadd, 1) := by decide +kernel
theorem dX5_getOff_21 : decode cX5_getOff 21 = .ok (.iaload, 1) := by decide +kernel
theorem dX5_getOff_22 : decode cX5_getOff 22 = .ok (.istore 4, 2) := by decide +kernel
theorem dX5_getOff_24 : decode cX5_getOff 24 = .ok (.aload_n 0, 1) := by decide +kernel
theorem dX5_getOff_25 : decode cX5_getOff 25 = .ok (.getfield 39, 3) := by decide +kernel
theorem dX5_getOff_28 : decode cX5_getOff 28 = .ok (.getfield 143, 3) := by decide +kernel
theorem dX5_getOff_31 : decode cX5_getOff 31 = .ok (.iload_n 2, 1) := by decide +kernel
theorem dX5_getOff_32 : decode cX5_getOff 32 = .ok (.bipush 8, 2) := by decide +kernel
theorem dX5_getOff_34 : decode cX5_getOff 34 = .ok (.imul, 1) := by decide +kernel
theorem dX5_getOff_35 : decode cX5_getOff 35 = .ok (.iload_n 3, 1) := by decide +kernel
theorem dX5_getOff_36 : decode cX5_getOff 36 = .ok (.iadd, 1) := by decide +kernel
theorem dX5_getOff_37 : decode cX5_getOff 37 = .ok (.iaload, 1) := by decide +kernel
theorem dX5_getOff_38 : decode cX5_getOff 38 = .ok (.istore 5, 2) := by decide +kernel
theorem dX5_getOff_40 : decode cX5_getOff 40 = .ok (.iload 5, 2) := by decide +kernel
theorem dX5_getOff_42 : decode cX5_getOff 42 = .ok (.aload_n 0, 1) := by decide +kernel
theorem dX5_getOff_43 : decode cX5_getOff 43 = .ok (.getfield 39, 3) := by decide +kernel
theorem dX5_getOff_46 : decode cX5_getOff 46 = .ok (.getfield 96, 3) := by decide +kernel
theorem dX5_getOff_49 : decode cX5_getOff 49 = .ok (.if_icmp .ge 20, 3) := by decide +kernel
theorem dX5_getOff_52 : decode cX5_getOff 52 = .ok (.aload_n 0, 1) := by decide +kernel
theorem dX5_getOff_53 : decode cX5_getOff 53 = .ok (.aload_n 0, 1) := by decide +kernel
theorem dX5_getOff_54 : decode cX5_getOff 54 = .ok (.getfield 27, 3) := by decide +kernel
theorem dX5_getOff_57 : decode cX5_getOff 57 = .ok (.getfield 146, 3) := by decide +kernel
theorem dX5_getOff_60 : decode cX5_getOff 60 = .ok (.iload 4, 2) := by decide +kernel
theorem dX5_getOff_62 : decode cX5_getOff 62 = .ok (.iaload, 1) := by decide +kernel
theorem dX5_getOff_63 : decode cX5_getOff 63 = .ok (.invokevirtual 149, 3) := by decide +kernel
theorem dX5_getOff_66 : decode cX5_getOff 66 = .ok (.goto 4, 3) := by decide +kernel
theorem dX5_getOff_69 : decode cX5_getOff 69 = .ok (.iconst 0, 1) := by decide +kernel
theorem dX5_getOff_70 : decode cX5_getOff 70 = .ok (.istore 6, 2) := by decide +kernel
theorem dX5_getOff_72 : decode cX5_getOff 72 = .ok (.iconst 0, 1) := by decide +kernel
theorem dX5_getOff_73 : decode cX5_getOff 73 = .ok (.istore 7, 2) := by decide +kernel
theorem dX5_getOff_75 : decode cX5_getOff 75 = .ok (.iload 6, 2) := by decide +kernel
theorem dX5_getOff_77 : decode cX5_getOff 77 = .ok (.iload 7, 2) := by decide +kernel
theorem dX5_getOff_79 : decode cX5_getOff 79 = .ok (.iushr, 1) := by decide +kernel
theorem dX5_getOff_80 : decode cX5_getOff 80 = .ok (.ifCond .eq 60, 3) := by decide +kernel
theorem dX5_getOff_83 : decode cX5_getOff 83 = .ok (.iload 7, 2) := by decide +kernel
theorem dX5_getOff_85 : decode cX5_getOff 85 = .ok (.aload_n 0, 1) := by decide +kernel
theorem dX5_getOff_86 : decode cX5_getOff 86 = .ok (.iload_n 1, 1) := by decide +kernel
theorem dX5_getOff_87 : decode cX5_getOff 87 = .ok (.invokevirtual 113, 3) := by decide +kernel
theorem dX5_getOff_90 : decode cX5_getOff 90 = .ok (.if_icmp .gt 50, 3) := by decide +kernel
theorem dX5_getOff_93 : decode cX5_getOff 93 = .ok (.iload 6, 2) := by decide +kernel
theorem dX5_getOff_95 : decode cX5_getOff 95 = .ok (.iload 7, 2) := by decide +kernel
theorem dX5_getOff_97 : decode cX5_getOff 97 = .ok (.ishr, 1) := by decide +kernel
theorem dX5_getOff_98 : decode cX5_getOff 98 = .ok (.iconst 1, 1) := by decide +kernel
theorem dX5_getOff_99 : decode cX5_getOff 99 = .ok (.iand, 1) := by decide +kernel
theorem dX5_getOff_100 : decode cX5_getOff 100 = .ok (.ifCond .eq 34, 3) := by decide +kernel
theorem dX5_getOff_103 : decode cX5_getOff 103 = .ok (.aload_n 0, 1) := by decide +kernel
theorem dX5_getOff_104 : decode cX5_getOff 104 = .ok (.iload_n 1, 1) := by decide +kernel
theorem dX5_getOff_105 : decode cX5_getOff 105 = .ok (.iload 7, 2) := by decide +kernel
theorem dX5_getOff_107 : decode cX5_getOff 107 = .ok (.invokevirtual 77, 3) := by decide +kernel
theorem dX5_getOff_110 : decode cX5_getOff 110 = .ok (.iload 4, 2) := by decide +kernel
theorem dX5_getOff_112 : decode cX5_getOff 112 = .ok (.iadd, 1) := by decide +kernel
theorem dX5_getOff_113 : decode cX5_getOff 113 = .ok (.istore 8, 2) := by decide +kernel
theorem dX5_getOff_115 : decode cX5_getOff 115 = .ok (.aload_n 0, 1) := by decide +kernel
theorem dX5_getOff_116 : decode cX5_getOff 116 = .ok (.getfield 9, 3) := by decide +kernel
theorem dX5_getOff_119 : decode cX5_getOff 119 = .ok (.iload 8, 2) := by decide +kernel
theorem dX5_getOff_121 : decode cX5_getOff 121 = .ok (.aload_n 0, 1) := by decide +kernel
theorem dX5_getOff_122 : decode cX5_getOff 122 = .ok (.getfield 9, 3) := by decide +kernel
theorem dX5_getOff_125 : decode cX5_getOff 125 = .ok (.iload 8, 2) := by decide +kernel
theorem dX5_getOff_127 : decode cX5_getOff 127 = .ok (.iaload, 1) := by decide +kernel
theorem dX5_getOff_128 : decode cX5_getOff 128 = .ok (.iload 5, 2) := by decide +kernel
theorem dX5_getOff_130 : decode cX5_getOff 130 = .ok (.invokestatic 81, 3) := by decide +kernel
theorem dX5_getOff_133 : decode cX5_getOff 133 = .ok (.iastore, 1) := by decide +kernel
theorem dX5_getOff_134 : decode cX5_getOff 134 = .ok (.iinc 7 1, 3) := by decide +kernel
theorem dX5_getOff_137 : decode cX5_getOff 137 = .ok (.goto (-62), 3) := by decide +kernel
theorem dX5_getOff_140 : decode cX5_getOff 140 = .ok (.return_, 1) := by decide +kernel
theorem dX5_faresTo_0 : decode cX5_faresTo 0 = .ok (.iconst 0, 1) := by decide +kernel
theorem dX5_faresTo_1 : decode cX5_faresTo 1 = .ok (.istore_n 2, 1) := by decide +kernel
theorem dX5_faresTo_2 : decode cX5_faresTo 2 = .ok (.iconst 0, 1) := by decide +kernel
theorem dX5_faresTo_3 : decode cX5_faresTo 3 = .ok (.istore_n 3, 1) := by decide +kernel
theorem dX5_faresTo_4 : decode cX5_faresTo 4 = .ok (.iload_n 3, 1) := by decide +kernel
theorem dX5_faresTo_5 : decode cX5_faresTo 5 = .ok (.iconst 4, 1) := by decide +kernel
theorem dX5_faresTo_6 : decode cX5_faresTo 6 = .ok (.if_icmp .ge 43, 3) := by decide +kernel
theorem dX5_faresTo_9 : decode cX5_faresTo 9 = .ok (.iload_n 2, 1) := by decide +kernel
theorem dX5_faresTo_10 : decode cX5_faresTo 10 = .ok (.aload_n 0, 1) := by decide +kernel
theorem dX5_faresTo_11 : decode cX5_faresTo 11 = .ok (.getfield 24, 3) := by decide +kernel
theorem dX5_faresTo_14 : decode cX5_faresTo 14 = .ok (.iload_n 3, 1) := by decide +kernel
theorem dX5_faresTo_15 : decode cX5_faresTo 15 = .ok (.iaload, 1) := by decide +kernel
theorem dX5_faresTo_16 : decode cX5_faresTo 16 = .ok (.aload_n 0, 1) := by decide +kernel
theorem dX5_faresTo_17 : decode cX5_faresTo 17 = .ok (.getfield 47, 3) := by decide +kernel
theorem dX5_faresTo_20 : decode cX5_faresTo 20 = .ok (.ifCond .ne 7, 3) := by decide +kernel
theorem dX5_faresTo_23 : decode cX5_faresTo 23 = .ok (.iconst 0, 1) := by decide +kernel
theorem dX5_faresTo_24 : decode cX5_faresTo 24 = .ok (.goto 16, 3) := by decide +kernel
theorem dX5_faresTo_27 : decode cX5_faresTo 27 = .ok (.aload_n 0, 1) := by decide +kernel
theorem dX5_faresTo_28 : decode cX5_faresTo 28 = .ok (.getfield 27, 3) := by decide +kernel
theorem dX5_faresTo_31 : decode cX5_faresTo 31 = .ok (.getfield 152, 3) := by decide +kernel
theorem dX5_faresTo_34 : decode cX5_faresTo 34 = .ok (.iload_n 3, 1) := by decide +kernel
theorem dX5_faresTo_35 : decode cX5_faresTo 35 = .ok (.iconst 4, 1) := by decide +kernel
theorem dX5_faresTo_36 : decode cX5_faresTo 36 = .ok (.imul, 1) := by decide +kernel
theorem dX5_faresTo_37 : decode cX5_faresTo 37 = .ok (.iload_n 1, 1) := by decide +kernel
theorem dX5_faresTo_38 : decode cX5_faresTo 38 = .ok (.iadd, 1) := by decide +kernel
theorem dX5_faresTo_39 : decode cX5_faresTo 39 = .ok (.iaload, 1) := by decide +kernel
theorem dX5_faresTo_40 : decode cX5_faresTo 40 = .ok (.ishl, 1) := by decide +kernel
theorem dX5_faresTo_41 : decode cX5_faresTo 41 = .ok (.ior, 1) := by decide +kernel
theorem dX5_faresTo_42 : decode cX5_faresTo 42 = .ok (.istore_n 2, 1) := by decide +kernel
theorem dX5_faresTo_43 : decode cX5_faresTo 43 = .ok (.iinc 3 1, 3) := by decide +kernel
theorem dX5_faresTo_46 : decode cX5_faresTo 46 = .ok (.goto (-42), 3) := by decide +kernel
theorem dX5_faresTo_49 : decode cX5_faresTo 49 = .ok (.iload_n 2, 1) := by decide +kernel
theorem dX5_faresTo_50 : decode cX5_faresTo 50 = .ok (.ireturn, 1) := by decide +kernel
theorem dX5_getOn_0 : decode cX5_getOn 0 = .ok (.aload_n 0, 1) := by decide +kernel
theorem dX5_getOn_1 : decode cX5_getOn 1 = .ok (.getfield 31, 3) := by decide +kernel
theorem dX5_getOn_4 : decode cX5_getOn 4 = .ok (.getfield 140, 3) := by decide +kernel
theorem dX5_getOn_7 : decode cX5_getOn 7 = .ok (.aload_n 0, 1) := by decide +kernel
theorem dX5_getOn_8 : decode cX5_getOn 8 = .ok (.getfield 39, 3) := by decide +kernel
theorem dX5_getOn_11 : decode cX5_getOn 11 = .ok (.getfield 120, 3) := by decide +kernel
theorem dX5_getOn_14 : decode cX5_getOn 14 = .ok (.iload_n 2, 1) := by decide +kernel
theorem dX5_getOn_15 : decode cX5_getOn 15 = .ok (.iaload, 1) := by decide +kernel
theorem dX5_getOn_16 : decode cX5_getOn 16 = .ok (.bipush 8, 2) := by decide +kernel
theorem dX5_getOn_18 : decode cX5_getOn 18 = .ok (.imul, 1) := by decide +kernel
theorem dX5_getOn_19 : decode cX5_getOn 19 = .ok (.iload_n 3, 1) := by decide +kernel
theorem dX5_getOn_20 : decode cX5_getOn 20 = .ok (.iadd, 1) := by decide +kernel
theorem dX5_getOn_21 : decode cX5_getOn 21 = .ok (.iaload, 1) := by decide +kernel
theorem dX5_getOn_22 : decode cX5_getOn 22 = .ok (.istore 4, 2) := by decide +kernel
theorem dX5_getOn_24 : decode cX5_getOn 24 = .ok (.aload_n 0, 1) := by decide +kernel
theorem dX5_getOn_25 : decode cX5_getOn 25 = .ok (.getfield 39, 3) := by decide +kernel
theorem dX5_getOn_28 : decode cX5_getOn 28 = .ok (.getfield 155, 3) := by decide +kernel
theorem dX5_getOn_31 : decode cX5_getOn 31 = .ok (.iload_n 2, 1) := by decide +kernel
theorem dX5_getOn_32 : decode cX5_getOn 32 = .ok (.bipush 8, 2) := by decide +kernel
theorem dX5_getOn_34 : decode cX5_getOn 34 = .ok (.imul, 1) := by decide +kernel
theorem dX5_getOn_35 : decode cX5_getOn 35 = .ok (.iload_n 3, 1) := by decide +kernel
theorem dX5_getOn_36 : decode cX5_getOn 36 = .ok (.iadd, 1) := by decide +kernel
theorem dX5_getOn_37 : decode cX5_getOn 37 = .ok (.iaload, 1) := by decide +kernel
theorem dX5_getOn_38 : decode cX5_getOn 38 = .ok (.istore 5, 2) := by decide +kernel
theorem dX5_getOn_40 : decode cX5_getOn 40 = .ok (.aload_n 0, 1) := by decide +kernel
theorem dX5_getOn_41 : decode cX5_getOn 41 = .ok (.iload_n 1, 1) := by decide +kernel
theorem dX5_getOn_42 : decode cX5_getOn 42 = .ok (.iconst 1, 1) := by decide +kernel
theorem dX5_getOn_43 : decode cX5_getOn 43 = .ok (.isub, 1) := by decide +kernel
theorem dX5_getOn_44 : decode cX5_getOn 44 = .ok (.iconst 0, 1) := by decide +kernel
theorem dX5_getOn_45 : decode cX5_getOn 45 = .ok (.invokevirtual 77, 3) := by decide +kernel
theorem dX5_getOn_48 : decode cX5_getOn 48 = .ok (.iload 4, 2) := by decide +kernel
theorem dX5_getOn_50 : decode cX5_getOn 50 = .ok (.iadd, 1) := by decide +kernel
theorem dX5_getOn_51 : decode cX5_getOn 51 = .ok (.istore 6, 2) := by decide +kernel
theorem dX5_getOn_53 : decode cX5_getOn 53 = .ok (.iconst 0, 1) := by decide +kernel
theorem dX5_getOn_54 : decode cX5_getOn 54 = .ok (.istore 7, 2) := by decide +kernel
theorem dX5_getOn_56 : decode cX5_getOn 56 = .ok (.iload 7, 2) := by decide +kernel
theorem dX5_getOn_58 : decode cX5_getOn 58 = .ok (.aload_n 0, 1) := by decide +kernel
theorem dX5_getOn_59 : decode cX5_getOn 59 = .ok (.iload_n 1, 1) := by decide +kernel
theorem dX5_getOn_60 : decode cX5_getOn 60 = .ok (.iconst 1, 1) := by decide +kernel
theorem dX5_getOn_61 : decode cX5_getOn 61 = .ok (.isub, 1) := by decide +kernel
theorem dX5_getOn_62 : decode cX5_getOn 62 = .ok (.invokevirtual 113, 3) := by decide +kernel
theorem dX5_getOn_65 : decode cX5_getOn 65 = .ok (.if_icmp .gt 46, 3) := by decide +kernel
theorem dX5_getOn_68 : decode cX5_getOn 68 = .ok (.aload_n 0, 1) := by decide +kernel
theorem dX5_getOn_69 : decode cX5_getOn 69 = .ok (.getfield 15, 3) := by decide +kernel
theorem dX5_getOn_72 : decode cX5_getOn 72 = .ok (.iload 6, 2) := by decide +kernel
theorem dX5_getOn_74 : decode cX5_getOn 74 = .ok (.iaload, 1) := by decide +kernel
theorem dX5_getOn_75 : decode cX5_getOn 75 = .ok (.iload 5, 2) := by decide +kernel
theorem dX5_getOn_77 : decode cX5_getOn 77 = .ok (.if_icmp .gt 25, 3) := by decide +kernel
theorem dX5_getOn_80 : decode cX5_getOn 80 = .ok (.aload_n 0, 1) := by decide +kernel
theorem dX5_getOn_81 : decode cX5_getOn 81 = .ok (.getfield 24, 3) := by decide +kernel
theorem dX5_getOn_84 : decode cX5_getOn 84 = .ok (.aload_n 0, 1) := by decide +kernel
theorem dX5_getOn_85 : decode cX5_getOn 85 = .ok (.getfield 27, 3) := by decide +kernel
theorem dX5_getOn_88 : decode cX5_getOn 88 = .ok (.getfield 146, 3) := by decide +kernel
theorem dX5_getOn_91 : decode cX5_getOn 91 = .ok (.iload 4, 2) := by decide +kernel
theorem dX5_getOn_93 : decode cX5_getOn 93 = .ok (.iaload, 1) := by decide +kernel
theorem dX5_getOn_94 : decode cX5_getOn 94 = .ok (.dup2, 1) := by decide +kernel
theorem dX5_getOn_95 : decode cX5_getOn 95 = .ok (.iaload, 1) := by decide +kernel
theorem dX5_getOn_96 : decode cX5_getOn 96 = .ok (.iconst 1, 1) := by decide +kernel
theorem dX5_getOn_97 : decode cX5_getOn 97 = .ok (.iload 7, 2) := by decide +kernel
theorem dX5_getOn_99 : decode cX5_getOn 99 = .ok (.ishl, 1) := by decide +kernel
theorem dX5_getOn_100 : decode cX5_getOn 100 = .ok (.ior, 1) := by decide +kernel
theorem dX5_getOn_101 : decode cX5_getOn 101 = .ok (.iastore, 1) := by decide +kernel
theorem dX5_getOn_102 : decode cX5_getOn 102 = .ok (.iinc 6 12, 3) := by decide +kernel
theorem dX5_getOn_105 : decode cX5_getOn 105 = .ok (.iinc 7 1, 3) := by decide +kernel
theorem dX5_getOn_108 : decode cX5_getOn 108 = .ok (.goto (-52), 3) := by decide +kernel
theorem dX5_getOn_111 : decode cX5_getOn 111 = .ok (.return_, 1) := by decide +kernel
theorem dX6_init_0 : decode cX6_init 0 = .ok (.aload_n 0, 1) := by decide +kernel
theorem dX6_init_1 : decode cX6_init 1 = .ok (.invokespecial 1, 3) := by decide +kernel
theorem dX6_init_4 : decode cX6_init 4 = .ok (.aload_n 0, 1) := by decide +kernel
theorem dX6_init_5 : decode cX6_init 5 = .ok (.iconst 0, 1) := by decide +kernel
theorem dX6_init_6 : decode cX6_init 6 = .ok (.iload_n 1, 1) := by decide +kernel
theorem dX6_init_7 : decode cX6_init 7 = .ok (.invokestatic 7, 3) := by decide +kernel
theorem dX6_init_10 : decode cX6_init 10 = .ok (.newarray .int, 2) := by decide +kernel
theorem dX6_init_12 : decode cX6_init 12 = .ok (.putfield 13, 3) := by decide +kernel
theorem dX6_init_15 : decode cX6_init 15 = .ok (.return_, 1) := by decide +kernel
theorem dX6_get_0 : decode cX6_get 0 = .ok (.iload_n 1, 1) := by decide +kernel
theorem dX6_get_1 : decode cX6_get 1 = .ok (.ifCond .lt 20, 3) := by decide +kernel
theorem dX6_get_4 : decode cX6_get 4 = .ok (.iload_n 1, 1) := by decide +kernel
theorem dX6_get_5 : decode cX6_get 5 = .ok (.aload_n 0, 1) := by decide +kernel
theorem dX6_get_6 : decode cX6_get 6 = .ok (.getfield 19, 3) := by decide +kernel
theorem dX6_get_9 : decode cX6_get 9 = .ok (.if_icmp .ge 12, 3) := by decide +kernel
theorem dX6_get_12 : decode cX6_get 12 = .ok (.aload_n 0, 1) := by decide +kernel
theorem dX6_get_13 : decode cX6_get 13 = .ok (.getfield 13, 3) := by decide +kernel
theorem dX6_get_16 : decode cX6_get 16 = .ok (.iload_n 1, 1) := by decide +kernel
theorem dX6_get_17 : decode cX6_get 17 = .ok (.iaload, 1) := by decide +kernel
theorem dX6_get_18 : decode cX6_get 18 = .ok (.goto 4, 3) := by decide +kernel
theorem dX6_get_21 : decode cX6_get 21 = .ok (.iconst 0, 1) := by decide +kernel
theorem dX6_get_22 : decode cX6_get 22 = .ok (.ireturn, 1) := by decide +kernel
theorem dX6_clear_0 : decode cX6_clear 0 = .ok (.aload_n 0, 1) := by decide +kernel
theorem dX6_clear_1 : decode cX6_clear 1 = .ok (.iconst 0, 1) := by decide +kernel
theorem dX6_clear_2 : decode cX6_clear 2 = .ok (.putfield 19, 3) := by decide +kernel
theorem dX6_clear_5 : decode cX6_clear 5 = .ok (.return_, 1) := by decide +kernel
theorem dX6_insert_0 : decode cX6_insert 0 = .ok (.aload_n 0, 1) := by decide +kernel
theorem dX6_insert_1 : decode cX6_insert 1 = .ok (.getfield 19, 3) := by decide +kernel
theorem dX6_insert_4 : decode cX6_insert 4 = .ok (.aload_n 0, 1) := by decide +kernel
theorem dX6_insert_5 : decode cX6_insert 5 = .ok (.getfield 13, 3) := by decide +kernel
theorem dX6_insert_8 : decode cX6_insert 8 = .ok (.arraylength, 1) := by decide +kernel
theorem dX6_insert_9 : decode cX6_insert 9 = .ok (.if_icmp .lt 4, 3) := by decide +kernel
theorem dX6_insert_12 : decode cX6_insert 12 = .ok (.return_, 1) := by decide +kernel
theorem dX6_insert_13 : decode cX6_insert 13 = .ok (.aload_n 0, 1) := by decide +kernel
theorem dX6_insert_14 : decode cX6_insert 14 = .ok (.getfield 19, 3) := by decide +kernel
theorem dX6_insert_17 : decode cX6_insert 17 = .ok (.istore_n 2, 1) := by decide +kernel
theorem dX6_insert_18 : decode cX6_insert 18 = .ok (.iload_n 2, 1) := by decide +kernel
theorem dX6_insert_19 : decode cX6_insert 19 = .ok (.ifCond .le 35, 3) := by decide +kernel
theorem dX6_insert_22 : decode cX6_insert 22 = .ok (.aload_n 0, 1) := by decide +kernel
theorem dX6_insert_23 : decode cX6_insert 23 = .ok (.getfield 13, 3) := by decide +kernel
theorem dX6_insert_26 : decode cX6_insert 26 = .ok (.iload_n 2, 1) := by decide +kernel
theorem dX6_insert_27 : decode cX6_insert 27 = .ok (.iconst 1, 1) := by decide +kernel
theorem dX6_insert_28 : decode cX6_insert 28 = .ok (.isub, 1) := by decide +kernel
theorem dX6_insert_29 : decode cX6_insert 29 = .ok (.iaload, 1) := by decide +kernel
theorem dX6_insert_30 : decode cX6_insert 30 = .ok (.iload_n 1, 1) := by decide +kernel
theorem dX6_insert_31 : decode cX6_insert 31 = .ok (.if_icmp .le 23, 3) := by decide +kernel
theorem dX6_insert_34 : decode cX6_insert 34 = .ok (.aload_n 0, 1) := by decide +kernel
theorem dX6_insert_35 : decode cX6_insert 35 = .ok (.getfield 13, 3) := by decide +kernel
theorem dX6_insert_38 : decode cX6_insert 38 = .ok (.iload_n 2, 1) := by decide +kernel
theorem dX6_insert_39 : decode cX6_insert 39 = .ok (.aload_n 0, 1) := by decide +kernel
theorem dX6_insert_40 : decode cX6_insert 40 = .ok (.getfield 13, 3) := by decide +kernel
theorem dX6_insert_43 : decode cX6_insert 43 = .ok (.iload_n 2, 1) := by decide +kernel
theorem dX6_insert_44 : decode cX6_insert 44 = .ok (.iconst 1, 1) := by decide +kernel
theorem dX6_insert_45 : decode cX6_insert 45 = .ok (.isub, 1) := by decide +kernel
theorem dX6_insert_46 : decode cX6_insert 46 = .ok (.iaload, 1) := by decide +kernel
theorem dX6_insert_47 : decode cX6_insert 47 = .ok (.iastore, 1) := by decide +kernel
theorem dX6_insert_48 : decode cX6_insert 48 = .ok (.iinc 2 (-1), 3) := by decide +kernel
theorem dX6_insert_51 : decode cX6_insert 51 = .ok (.goto (-33), 3) := by decide +kernel
theorem dX6_insert_54 : decode cX6_insert 54 = .ok (.aload_n 0, 1) := by decide +kernel
theorem dX6_insert_55 : decode cX6_insert 55 = .ok (.getfield 13, 3) := by decide +kernel
theorem dX6_insert_58 : decode cX6_insert 58 = .ok (.iload_n 2, 1) := by decide +kernel
theorem dX6_insert_59 : decode cX6_insert 59 = .ok (.iload_n 1, 1) := by decide +kernel
theorem dX6_insert_60 : decode cX6_insert 60 = .ok (.iastore, 1) := by decide +kernel
theorem dX6_insert_61 : decode cX6_insert 61 = .ok (.aload_n 0, 1) := by decide +kernel
theorem dX6_insert_62 : decode cX6_insert 62 = .ok (.dup, 1) := by decide +kernel
theorem dX6_insert_63 : decode cX6_insert 63 = .ok (.getfield 19, 3) := by decide +kernel
theorem dX6_insert_66 : decode cX6_insert 66 = .ok (.iconst 1, 1) := by decide +kernel
theorem dX6_insert_67 : decode cX6_insert 67 = .ok (.iadd, 1) := by decide +kernel
theorem dX6_insert_68 : decode cX6_insert 68 = .ok (.putfield 19, 3) := by decide +kernel
theorem dX6_insert_71 : decode cX6_insert 71 = .ok (.return_, 1) := by decide +kernel
theorem dX7_init_0 : decode cX7_init 0 = .ok (.aload_n 0, 1) := by decide +kernel
theorem dX7_init_1 : decode cX7_init 1 = .ok (.invokespecial 3, 3) := by decide +kernel
theorem dX7_init_4 : decode cX7_init 4 = .ok (.aload_n 0, 1) := by decide +kernel
theorem dX7_init_5 : decode cX7_init 5 = .ok (.bipush 12, 2) := by decide +kernel
theorem dX7_init_7 : decode cX7_init 7 = .ok (.newarray .int, 2) := by decide +kernel
theorem dX7_init_9 : decode cX7_init 9 = .ok (.putfield 9, 3) := by decide +kernel
theorem dX7_init_12 : decode cX7_init 12 = .ok (.aload_n 0, 1) := by decide +kernel
theorem dX7_init_13 : decode cX7_init 13 = .ok (.bipush 12, 2) := by decide +kernel
theorem dX7_init_15 : decode cX7_init 15 = .ok (.newarray .int, 2) := by decide +kernel
theorem dX7_init_17 : decode cX7_init 17 = .ok (.putfield 15, 3) := by decide +kernel
theorem dX7_init_20 : decode cX7_init 20 = .ok (.aload_n 0, 1) := by decide +kernel
theorem dX7_init_21 : decode cX7_init 21 = .ok (.bipush 16, 2) := by decide +kernel
theorem dX7_init_23 : decode cX7_init 23 = .ok (.newarray .int, 2) := by decide +kernel
theorem dX7_init_25 : decode cX7_init 25 = .ok (.putfield 18, 3) := by decide +kernel
theorem dX7_init_28 : decode cX7_init 28 = .ok (.return_, 1) := by decide +kernel
theorem dX7_has_0 : decode cX7_has 0 = .ok (.iload_n 1, 1) := by decide +kernel
theorem dX7_has_1 : decode cX7_has 1 = .ok (.ifCond .lt 15, 3) := by decide +kernel
theorem dX7_has_4 : decode cX7_has 4 = .ok (.iload_n 1, 1) := by decide +kernel
theorem dX7_has_5 : decode cX7_has 5 = .ok (.aload_n 0, 1) := by decide +kernel
theorem dX7_has_6 : decode cX7_has 6 = .ok (.getfield 21, 3) := by decide +kernel
theorem dX7_has_9 : decode cX7_has 9 = .ok (.if_icmp .ge 7, 3) := by decide +kernel
theorem dX7_has_12 : decode cX7_has 12 = .ok (.iconst 1, 1) := by decide +kernel
theorem dX7_has_13 : decode cX7_has 13 = .ok (.goto 4, 3) := by decide +kernel
theorem dX7_has_16 : decode cX7_has 16 = .ok (.iconst 0, 1) := by decide +kernel
theorem dX7_has_17 : decode cX7_has 17 = .ok (.ireturn, 1) := by decide +kernel
theorem dX7_add_0 : decode cX7_add 0 = .ok (.aload_n 0, 1) := by decide +kernel
theorem dX7_add_1 : decode cX7_add 1 = .ok (.getfield 21, 3) := by decide +kernel
theorem dX7_add_4 : decode cX7_add 4 = .ok (.bipush 12, 2) := by decide +kernel
theorem dX7_add_6 : decode cX7_add 6 = .ok (.if_icmp .lt 6, 3) := by decide +kernel
theorem dX7_add_9 : decode cX7_add 9 = .ok (.bipush (-2), 2) := by decide +kernel
theorem dX7_add_11 : decode cX7_add 11 = .ok (.ireturn, 1) := by decide +kernel
theorem dX7_add_12 : decode cX7_add 12 = .ok (.aload_n 0, 1) := by decide +kernel
theorem dX7_add_13 : decode cX7_add 13 = .ok (.getfield 9, 3) := by decide +kernel
theorem dX7_add_16 : decode cX7_add 16 = .ok (.aload_n 0, 1) := by decide +kernel
theorem dX7_add_17 : decode cX7_add 17 = .ok (.getfield 21, 3) := by decide +kernel
theorem dX7_add_20 : decode cX7_add 20 = .ok (.iload_n 1, 1) := by decide +kernel
theorem dX7_add_21 : decode cX7_add 21 = .ok (.iastore, 1) := by decide +kernel
theorem dX7_add_22 : decode cX7_add 22 = .ok (.aload_n 0, 1) := by decide +kernel
theorem dX7_add_23 : decode cX7_add 23 = .ok (.getfield 15, 3) := by decide +kernel
theorem dX7_add_26 : decode cX7_add 26 = .ok (.aload_n 0, 1) := by decide +kernel
theorem dX7_add_27 : decode cX7_add 27 = .ok (.getfield 21, 3) := by decide +kernel
theorem dX7_add_30 : decode cX7_add 30 = .ok (.iload_n 2, 1) := by decide +kernel
theorem dX7_add_31 : decode cX7_add 31 = .ok (.iastore, 1) := by decide +kernel
theorem dX7_add_32 : decode cX7_add 32 = .ok (.aload_n 0, 1) := by decide +kernel
theorem dX7_add_33 : decode cX7_add 33 = .ok (.dup, 1) := by decide +kernel
theorem dX7_add_34 : decode cX7_add 34 = .ok (.getfield 21, 3) := by decide +kernel
theorem dX7_add_37 : decode cX7_add 37 = .ok (.dup_x1, 1) := by decide +kernel
theorem dX7_add_38 : decode cX7_add 38 = .ok (.iconst 1, 1) := by decide +kernel
theorem dX7_add_39 : decode cX7_add 39 = .ok (.iadd, 1) := by decide +kernel
theorem dX7_add_40 : decode cX7_add 40 = .ok (.putfield 21, 3) := by decide +kernel
theorem dX7_add_43 : decode cX7_add 43 = .ok (.ireturn, 1) := by decide +kernel
theorem dX7_price_0 : decode cX7_price 0 = .ok (.aload_n 0, 1) := by decide +kernel
theorem dX7_price_1 : decode cX7_price 1 = .ok (.getfield 18, 3) := by decide +kernel
theorem dX7_price_4 : decode cX7_price 4 = .ok (.iload_n 1, 1) := by decide +kernel
theorem dX7_price_5 : decode cX7_price 5 = .ok (.iconst 4, 1) := by decide +kernel
theorem dX7_price_6 : decode cX7_price 6 = .ok (.imul, 1) := by decide +kernel
theorem dX7_price_7 : decode cX7_price 7 = .ok (.iload_n 2, 1) := by decide +kernel
theorem dX7_price_8 : decode cX7_price 8 = .ok (.iadd, 1) := by decide +kernel
theorem dX7_price_9 : decode cX7_price 9 = .ok (.iaload, 1) := by decide +kernel
theorem dX7_price_10 : decode cX7_price 10 = .ok (.istore 4, 2) := by decide +kernel
theorem dX7_price_12 : decode cX7_price 12 = .ok (.aload_n 0, 1) := by decide +kernel
theorem dX7_price_13 : decode cX7_price 13 = .ok (.getfield 18, 3) := by decide +kernel
theorem dX7_price_16 : decode cX7_price 16 = .ok (.iload_n 1, 1) := by decide +kernel
theorem dX7_price_17 : decode cX7_price 17 = .ok (.iconst 4, 1) := by decide +kernel
theorem dX7_price_18 : decode cX7_price 18 = .ok (.imul, 1) := by decide +kernel
theorem dX7_price_19 : decode cX7_price 19 = .ok (.iload_n 2, 1) := by decide +kernel
theorem dX7_price_20 : decode cX7_price 20 = .ok (.iadd, 1) := by decide +kernel
theorem dX7_price_21 : decode cX7_price 21 = .ok (.iload_n 3, 1) := by decide +kernel
theorem dX7_price_22 : decode cX7_price 22 = .ok (.iastore, 1) := by decide +kernel
theorem dX7_price_23 : decode cX7_price 23 = .ok (.iload 4, 2) := by decide +kernel
theorem dX7_price_25 : decode cX7_price 25 = .ok (.ireturn, 1) := by decide +kernel
theorem dX7_priceOfRide_0 : decode cX7_priceOfRide 0 = .ok (.aload_n 0, 1) := by decide +kernel
theorem dX7_priceOfRide_1 : decode cX7_priceOfRide 1 = .ok (.getfield 18, 3) := by decide +kernel
theorem dX7_priceOfRide_4 : decode cX7_priceOfRide 4 = .ok (.aload_n 0, 1) := by decide +kernel
theorem dX7_priceOfRide_5 : decode cX7_priceOfRide 5 = .ok (.getfield 15, 3) := by decide +kernel
theorem dX7_priceOfRide_8 : decode cX7_priceOfRide 8 = .ok (.iload_n 1, 1) := by decide +kernel
theorem dX7_priceOfRide_9 : decode cX7_priceOfRide 9 = .ok (.iaload, 1) := by decide +kernel
theorem dX7_priceOfRide_10 : decode cX7_priceOfRide 10 = .ok (.iconst 4, 1) := by decide +kernel
theorem dX7_priceOfRide_11 : decode cX7_priceOfRide 11 = .ok (.imul, 1) := by decide +kernel
theorem dX7_priceOfRide_12 : decode cX7_priceOfRide 12 = .ok (.aload_n 0, 1) := by decide +kernel
theorem dX7_priceOfRide_13 : decode cX7_priceOfRide 13 = .ok (.getfield 15, 3) := by decide +kernel
theorem dX7_priceOfRide_16 : decode cX7_priceOfRide 16 = .ok (.iload_n 2, 1) := by decide +kernel
theorem dX7_priceOfRide_17 : decode cX7_priceOfRide 17 = .ok (.iaload, 1) := by decide +kernel
theorem dX7_priceOfRide_18 : decode cX7_priceOfRide 18 = .ok (.iadd, 1) := by decide +kernel
theorem dX7_priceOfRide_19 : decode cX7_priceOfRide 19 = .ok (.iaload, 1) := by decide +kernel
theorem dX7_priceOfRide_20 : decode cX7_priceOfRide 20 = .ok (.ireturn, 1) := by decide +kernel
theorem dX7_dearest_0 : decode cX7_dearest 0 = .ok (.iconst 0, 1) := by decide +kernel
theorem dX7_dearest_1 : decode cX7_dearest 1 = .ok (.istore_n 1, 1) := by decide +kernel
theorem dX7_dearest_2 : decode cX7_dearest 2 = .ok (.aload_n 0, 1) := by decide +kernel
theorem dX7_dearest_3 : decode cX7_dearest 3 = .ok (.getfield 18, 3) := by decide +kernel
theorem dX7_dearest_6 : decode cX7_dearest 6 = .ok (.astore_n 2, 1) := by decide +kernel
theorem dX7_dearest_7 : decode cX7_dearest 7 = .ok (.aload_n 2, 1) := by decide +kernel
theorem dX7_dearest_8 : decode cX7_dearest 8 = .ok (.arraylength, 1) := by decide +kernel
theorem dX7_dearest_9 : decode cX7_dearest 9 = .ok (.istore_n 3, 1) := by decide +kernel
theorem dX7_dearest_10 : decode cX7_dearest 10 = .ok (.iconst 0, 1) := by decide +kernel
theorem dX7_dearest_11 : decode cX7_dearest 11 = .ok (.istore 4, 2) := by decide +kernel
theorem dX7_dearest_13 : decode cX7_dearest 13 = .ok (.iload 4, 2) := by decide +kernel
theorem dX7_dearest_15 : decode cX7_dearest 15 = .ok (.iload_n 3, 1) := by decide +kernel
theorem dX7_dearest_16 : decode cX7_dearest 16 = .ok (.if_icmp .ge 22, 3) := by decide +kernel
theorem dX7_dearest_19 : decode cX7_dearest 19 = .ok (.aload_n 2, 1) := by decide +kernel
theorem dX7_dearest_20 : decode cX7_dearest 20 = .ok (.iload 4, 2) := by decide +kernel
theorem dX7_dearest_22 : decode cX7_dearest 22 = .ok (.iaload, 1) := by decide +kernel
theorem dX7_dearest_23 : decode cX7_dearest 23 = .ok (.istore 5, 2) := by decide +kernel
theorem dX7_dearest_25 : decode cX7_dearest 25 = .ok (.iload_n 1, 1) := by decide +kernel
theorem dX7_dearest_26 : decode cX7_dearest 26 = .ok (.iload 5, 2) := by decide +kernel
theorem dX7_dearest_28 : decode cX7_dearest 28 = .ok (.invokestatic 25, 3) := by decide +kernel
theorem dX7_dearest_31 : decode cX7_dearest 31 = .ok (.istore_n 1, 1) := by decide +kernel
theorem dX7_dearest_32 : decode cX7_dearest 32 = .ok (.iinc 4 1, 3) := by decide +kernel
theorem dX7_dearest_35 : decode cX7_dearest 35 = .ok (.goto (-22), 3) := by decide +kernel
theorem dX7_dearest_38 : decode cX7_dearest 38 = .ok (.iload_n 1, 1) := by decide +kernel
theorem dX7_dearest_39 : decode cX7_dearest 39 = .ok (.ireturn, 1) := by decide +kernel
theorem dX8_init_0 : decode cX8_init 0 = .ok (.aload_n 0, 1) := by decide +kernel
theorem dX8_init_1 : decode cX8_init 1 = .ok (.invokespecial 3, 3) := by decide +kernel
theorem dX8_init_4 : decode cX8_init 4 = .ok (.aload_n 0, 1) := by decide +kernel
theorem dX8_init_5 : decode cX8_init 5 = .ok (.bipush 30, 2) := by decide +kernel
theorem dX8_init_7 : decode cX8_init 7 = .ok (.newarray .int, 2) := by decide +kernel
theorem dX8_init_9 : decode cX8_init 9 = .ok (.putfield 9, 3) := by decide +kernel
theorem dX8_init_12 : decode cX8_init 12 = .ok (.aload_n 0, 1) := by decide +kernel
theorem dX8_init_13 : decode cX8_init 13 = .ok (.bipush 30, 2) := by decide +kernel
theorem dX8_init_15 : decode cX8_init 15 = .ok (.newarray .int, 2) := by decide +kernel
theorem dX8_init_17 : decode cX8_init 17 = .ok (.putfield 15, 3) := by decide +kernel
theorem dX8_init_20 : decode cX8_init 20 = .ok (.aload_n 0, 1) := by decide +kernel
theorem dX8_init_21 : decode cX8_init 21 = .ok (.bipush 30, 2) := by decide +kernel
theorem dX8_init_23 : decode cX8_init 23 = .ok (.newarray .boolean, 2) := by decide +kernel
theorem dX8_init_25 : decode cX8_init 25 = .ok (.putfield 18, 3) := by decide +kernel
theorem dX8_init_28 : decode cX8_init 28 = .ok (.aload_n 0, 1) := by decide +kernel
theorem dX8_init_29 : decode cX8_init 29 = .ok (.sipush 210, 3) := by decide +kernel
theorem dX8_init_32 : decode cX8_init 32 = .ok (.newarray .int, 2) := by decide +kernel
theorem dX8_init_34 : decode cX8_init 34 = .ok (.putfield 22, 3) := by decide +kernel
theorem dX8_init_37 : decode cX8_init 37 = .ok (.aload_n 0, 1) := by decide +kernel
theorem dX8_init_38 : decode cX8_init 38 = .ok (.sipush 210, 3) := by decide +kernel
theorem dX8_init_41 : decode cX8_init 41 = .ok (.newarray .int, 2) := by decide +kernel
theorem dX8_init_43 : decode cX8_init 43 = .ok (.putfield 25, 3) := by decide +kernel
theorem dX8_init_46 : decode cX8_init 46 = .ok (.aload_n 0, 1) := by decide +kernel
theorem dX8_init_47 : decode cX8_init 47 = .ok (.sipush 210, 3) := by decide +kernel
theorem dX8_init_50 : decode cX8_init 50 = .ok (.newarray .int, 2) := by decide +kernel
theorem dX8_init_52 : decode cX8_init 52 = .ok (.putfield 28, 3) := by decide +kernel
theorem dX8_init_55 : decode cX8_init 55 = .ok (.aload_n 0, 1) := by decide +kernel
theorem dX8_init_56 : decode cX8_init 56 = .ok (.sipush 210, 3) := by decide +kernel
theorem dX8_init_59 : decode cX8_init 59 = .ok (.newarray .int, 2) := by decide +kernel
theorem dX8_init_61 : decode cX8_init 61 = .ok (.putfield 31, 3) := by decide +kernel
theorem dX8_init_64 : decode cX8_init 64 = .ok (.aload_n 0, 1) := by decide +kernel
theorem dX8_init_65 : decode cX8_init 65 = .ok (.aload_n 1, 1) := by decide +kernel
theorem dX8_init_66 : decode cX8_init 66 = .ok (.putfield 34, 3) := by decide +kernel
theorem dX8_init_69 : decode cX8_init 69 = .ok (.aload_n 0, 1) := by decide +kernel
theorem dX8_init_70 : decode cX8_init 70 = .ok (.aload_n 2, 1) := by decide +kernel
theorem dX8_init_71 : decode cX8_init 71 = .ok (.putfield 38, 3) := by decide +kernel
theorem dX8_init_74 : decode cX8_init 74 = .ok (.aload_n 0, 1) := by decide +kernel
theorem dX8_init_75 : decode cX8_init 75 = .ok (.aload_n 3, 1) := by decide +kernel
theorem dX8_init_76 : decode cX8_init 76 = .ok (.putfield 42, 3) := by decide +kernel
theorem dX8_init_79 : decode cX8_init 79 = .ok (.aload_n 0, 1) := by decide +kernel
theorem dX8_init_80 : decode cX8_init 80 = .ok (.aload 4, 2) := by decide +kernel
theorem dX8_init_82 : decode cX8_init 82 = .ok (.putfield 46, 3) := by decide +kernel
theorem dX8_init_85 : decode cX8_init 85 = .ok (.return_, 1) := by decide +kernel
theorem dX8_isOut_0 : decode cX8_isOut 0 = .ok (.iload_n 1, 1) := by decide +kernel
theorem dX8_isOut_1 : decode cX8_isOut 1 = .ok (.ifCond .lt 24, 3) := by decide +kernel
theorem dX8_isOut_4 : decode cX8_isOut 4 = .ok (.iload_n 1, 1) := by decide +kernel
theorem dX8_isOut_5 : decode cX8_isOut 5 = .ok (.aload_n 0, 1) := by decide +kernel
theorem dX8_isOut_6 : decode cX8_isOut 6 = .ok (.getfield 50, 3) := by decide +kernel
theorem dX8_isOut_9 : decode cX8_isOut 9 = .ok (.if_icmp .ge 16, 3) := by decide +kernel
theorem dX8_isOut_12 : decode cX8_isOut 12 = .ok (.aload_n 0, 1) := by decide +kernel
theorem dX8_isOut_13 : decode cX8_isOut 13 = .ok (.getfield 18, 3) := by decide +kernel
theorem dX8_isOut_16 : decode cX8_isOut 16 = .ok (.iload_n 1, 1) := by decide +kernel
theorem dX8_isOut_17 : decode cX8_isOut 17 = .ok (.baload, 1) := by decide +kernel
theorem dX8_isOut_18 : decode cX8_isOut 18 = .ok (.ifCond .ne 7, 3) := by decide +kernel
theorem dX8_isOut_21 : decode cX8_isOut 21 = .ok (.iconst 1, 1) := by decide +kernel
theorem dX8_isOut_22 : decode cX8_isOut 22 = .ok (.goto 4, 3) := by decide +kernel
theorem dX8_isOut_25 : decode cX8_isOut 25 = .ok (.iconst 0, 1) := by decide +kernel
theorem dX8_isOut_26 : decode cX8_isOut 26 = .ok (.ireturn, 1) := by decide +kernel
theorem dX8_make_0 : decode cX8_make 0 = .ok (.aload_n 0, 1) := by decide +kernel
theorem dX8_make_1 : decode cX8_make 1 = .ok (.getfield 50, 3) := by decide +kernel
theorem dX8_make_4 : decode cX8_make 4 = .ok (.bipush 30, 2) := by decide +kernel
theorem dX8_make_6 : decode cX8_make 6 = .ok (.if_icmp .ge 12, 3) := by decide +kernel
theorem dX8_make_9 : decode cX8_make 9 = .ok (.aload_n 0, 1) := by decide +kernel
theorem dX8_make_10 : decode cX8_make 10 = .ok (.aload_n 1, 1) := by decide +kernel
theorem dX8_make_11 : decode cX8_make 11 = .ok (.iload_n 2, 1) := by decide +kernel
theorem dX8_make_12 : decode cX8_make 12 = .ok (.invokevirtual 54, 3) := by decide +kernel
theorem dX8_make_15 : decode cX8_make 15 = .ok (.ifCond .ne 6, 3) := by decide +kernel
theorem dX8_make_18 : decode cX8_make 18 = .ok (.bipush (-2), 2) := by decide +kernel
theorem dX8_make_20 : decode cX8_make 20 = .ok (.ireturn, 1) := by decide +kernel
theorem dX8_make_21 : decode cX8_make 21 = .ok (.aload_n 0, 1) := by decide +kernel
theorem dX8_make_22 : decode cX8_make 22 = .ok (.getfield 9, 3) := by decide +kernel
theorem dX8_make_25 : decode cX8_make 25 = .ok (.aload_n 0, 1) := by decide +kernel
theorem dX8_make_26 : decode cX8_make 26 = .ok (.getfield 50, 3) := by decide +kernel
theorem dX8_make_29 : decode cX8_make 29 = .ok (.aload_n 1, 1) := by decide +kernel
theorem dX8_make_30 : decode cX8_make 30 = .ok (.getfield 58, 3) := by decide +kernel
theorem dX8_make_33 : decode cX8_make 33 = .ok (.iastore, 1) := by decide +kernel
theorem dX8_make_34 : decode cX8_make 34 = .ok (.aload_n 0, 1) := by decide +kernel
theorem dX8_make_35 : decode cX8_make 35 = .ok (.getfield 15, 3) := by decide +kernel
theorem dX8_make_38 : decode cX8_make 38 = .ok (.aload_n 0, 1) := by decide +kernel
theorem dX8_make_39 : decode cX8_make 39 = .ok (.getfield 50, 3) := by decide +kernel
theorem dX8_make_42 : decode cX8_make 42 = .ok (.aload_n 1, 1) := by decide +kernel
theorem dX8_make_43 : decode cX8_make 43 = .ok (.iload_n 2, 1) := by decide +kernel
theorem dX8_make_44 : decode cX8_make 44 = .ok (.iconst 4, 1) := by decide +kernel
theorem dX8_make_45 : decode cX8_make 45 = .ok (.invokevirtual 62, 3) := by decide +kernel
theorem dX8_make_48 : decode cX8_make 48 = .ok (.iastore, 1) := by decide +kernel
theorem dX8_make_49 : decode cX8_make 49 = .ok (.iconst 0, 1) := by decide +kernel
theorem dX8_make_50 : decode cX8_make 50 = .ok (.istore_n 3, 1) := by decide +kernel
theorem dX8_make_51 : decode cX8_make 51 = .ok (.iload_n 3, 1) := by decide +kernel
theorem dX8_make_52 : decode cX8_make 52 = .ok (.aload_n 0, 1) := by decide +kernel
theorem dX8_make_53 : decode cX8_make 53 = .ok (.getfield 15, 3) := by decide +kernel
theorem dX8_make_56 : decode cX8_make 56 = .ok (.aload_n 0, 1) := by decide +kernel
theorem dX8_make_57 : decode cX8_make 57 = .ok (.getfield 50, 3) := by decide +kernel
theorem dX8_make_60 : decode cX8_make 60 = .ok (.iaload, 1) := by decide +kernel
theorem dX8_make_61 : decode cX8_make 61 = .ok (.if_icmp .ge 79, 3) := by decide +kernel
theorem dX8_make_64 : decode cX8_make 64 = .ok (.aload_n 0, 1) := by decide +kernel
theorem dX8_make_65 : decode cX8_make 65 = .ok (.getfield 50, 3) := by decide +kernel
theorem dX8_make_68 : decode cX8_make 68 = .ok (.bipush 7, 2) := by decide +kernel
theorem dX8_make_70 : decode cX8_make 70 = .ok (.imul, 1) := by decide +kernel
theorem dX8_make_71 : decode cX8_make 71 = .ok (.iload_n 3, 1) := by decide +kernel
theorem dX8_make_72 : decode cX8_make 72 = .ok (.iadd, 1) := by decide +kernel
theorem dX8_make_73 : decode cX8_make 73 = .ok (.istore 4, 2) := by decide +kernel
theorem dX8_make_75 : decode cX8_make 75 = .ok (.aload_n 0, 1) := by decide +kernel
theorem dX8_make_76 : decode cX8_make 76 = .ok (.getfield 22, 3) := by decide +kernel
theorem dX8_make_79 : decode cX8_make 79 = .ok (.iload 4, 2) := by decide +kernel
theorem dX8_make_81 : decode cX8_make 81 = .ok (.aload_n 1, 1) := by decide +kernel
theorem dX8_make_82 : decode cX8_make 82 = .ok (.iload_n 2, 1) := by decide +kernel
theorem dX8_make_83 : decode cX8_make 83 = .ok (.iload_n 3, 1) := by decide +kernel
theorem dX8_make_84 : decode cX8_make 84 = .ok (.iconst 1, 1) := by decide +kernel
theorem dX8_make_85 : decode cX8_make 85 = .ok (.invokevirtual 66, 3) := by decide +kernel
theorem dX8_make_88 : decode cX8_make 88 = .ok (.iastore, 1) := by decide +kernel
theorem dX8_make_89 : decode cX8_make 89 = .ok (.aload_n 0, 1) := by decide +kernel
theorem dX8_make_90 : decode cX8_make 90 = .ok (.getfield 25, 3) := by decide +kernel
theorem dX8_make_93 : decode cX8_make 93 = .ok (.iload 4, 2) := by decide +kernel
theorem dX8_make_95 : decode cX8_make 95 = .ok (.aload_n 1, 1) := by decide +kernel
theorem dX8_make_96 : decode cX8_make 96 = .ok (.iload_n 2, 1) := by decide +kernel
theorem dX8_make_97 : decode cX8_make 97 = .ok (.iload_n 3, 1) := by decide +kernel
theorem dX8_make_98 : decode cX8_make 98 = .ok (.bipush 6, 2) := by decide +kernel
theorem dX8_make_100 : decode cX8_make 100 = .ok (.invokevirtual 66, 3) := by decide +kernel
theorem dX8_make_103 : decode cX8_make 103 = .ok (.iastore, 1) := by decide +kernel
theorem dX8_make_104 : decode cX8_make 104 = .ok (.aload_n 0, 1) := by decide +kernel
theorem dX8_make_105 : decode cX8_make 105 = .ok (.getfield 28, 3) := by decide +kernel
theorem dX8_make_108 : decode cX8_make 108 = .ok (.iload 4, 2) := by decide +kernel
theorem dX8_make_110 : decode cX8_make 110 = .ok (.aload_n 1, 1) := by decide +kernel
theorem dX8_make_111 : decode cX8_make 111 = .ok (.iload_n 2, 1) := by decide +kernel
theorem dX8_make_112 : decode cX8_make 112 = .ok (.iload_n 3, 1) := by decide +kernel
theorem dX8_make_113 : decode cX8_make 113 = .ok (.bipush 7, 2) := by decide +kernel
theorem dX8_make_115 : decode cX8_make 115 = .ok (.invokevirtual 66, 3) := by decide +kernel
theorem dX8_make_118 : decode cX8_make 118 = .ok (.iastore, 1) := by decide +kernel
theorem dX8_make_119 : decode cX8_make 119 = .ok (.aload_n 0, 1) := by decide +kernel
theorem dX8_make_120 : decode cX8_make 120 = .ok (.getfield 31, 3) := by decide +kernel
theorem dX8_make_123 : decode cX8_make 123 = .ok (.iload 4, 2) := by decide +kernel
theorem dX8_make_125 : decode cX8_make 125 = .ok (.aload_n 1, 1) := by decide +kernel
theorem dX8_make_126 : decode cX8_make 126 = .ok (.iload_n 2, 1) := by decide +kernel
theorem dX8_make_127 : decode cX8_make 127 = .ok (.iload_n 3, 1) := by decide +kernel
theorem dX8_make_128 : decode cX8_make 128 = .ok (.bipush 8, 2) := by decide +kernel
theorem dX8_make_130 : decode cX8_make 130 = .ok (.invokevirtual 66, 3) := by decide +kernel
theorem dX8_make_133 : decode cX8_make 133 = .ok (.iastore, 1) := by decide +kernel
theorem dX8_make_134 : decode cX8_make 134 = .ok (.iinc 3 1, 3) := by decide +kernel
theorem dX8_make_137 : decode cX8_make 137 = .ok (.goto (-86), 3) := by decide +kernel
theorem dX8_make_140 : decode cX8_make 140 = .ok (.aload_n 0, 1) := by decide +kernel
theorem dX8_make_141 : decode cX8_make 141 = .ok (.aload_n 0, 1) := by decide +kernel
theorem dX8_make_142 : decode cX8_make 142 = .ok (.getfield 50, 3) := by decide +kernel
theorem dX8_make_145 : decode cX8_make 145 = .ok (.iconst 1, 1) := by decide +kernel
theorem dX8_make_146 : decode cX8_make 146 = .ok (.invokevirtual 70, 3) := by decide +kernel
theorem dX8_make_149 : decode cX8_make 149 = .ok (.aload_n 0, 1) := by decide +kernel
theorem dX8_make_150 : decode cX8_make 150 = .ok (.dup, 1) := by decide +kernel
theorem dX8_make_151 : decode cX8_make 151 = .ok (.getfield 74, 3) := by decide +kernel
theorem dX8_make_154 : decode cX8_make 154 = .ok (.iconst 1, 1) := by decide +kernel
theorem dX8_make_155 : decode cX8_make 155 = .ok (.iadd, 1) := by decide +kernel
theorem dX8_make_156 : decode cX8_make 156 = .ok (.putfield 74, 3) := by decide +kernel
theorem dX8_make_159 : decode cX8_make 159 = .ok (.aload_n 0, 1) := by decide +kernel
theorem dX8_make_160 : decode cX8_make 160 = .ok (.dup, 1) := by decide +kernel
theorem dX8_make_161 : decode cX8_make 161 = .ok (.getfield 50, 3) := by decide +kernel
theorem dX8_make_164 : decode cX8_make 164 = .ok (.dup_x1, 1) := by decide +kernel
theorem dX8_make_165 : decode cX8_make 165 = .ok (.iconst 1, 1) := by decide +kernel
theorem dX8_make_166 : decode cX8_make 166 = .ok (.iadd, 1) := by decide +kernel
theorem dX8_make_167 : decode cX8_make 167 = .ok (.putfield 50, 3) := by decide +kernel
theorem dX8_make_170 : decode cX8_make 170 = .ok (.ireturn, 1) := by decide +kernel
theorem dX8_giveBack_0 : decode cX8_giveBack 0 = .ok (.aload_n 0, 1) := by decide +kernel
theorem dX8_giveBack_1 : decode cX8_giveBack 1 = .ok (.getfield 18, 3) := by decide +kernel
theorem dX8_giveBack_4 : decode cX8_giveBack 4 = .ok (.iload_n 1, 1) := by decide +kernel
theorem dX8_giveBack_5 : decode cX8_giveBack 5 = .ok (.iconst 1, 1) := by decide +kernel
theorem dX8_giveBack_6 : decode cX8_giveBack 6 = .ok (.bastore, 1) := by decide +kernel
theorem dX8_giveBack_7 : decode cX8_giveBack 7 = .ok (.aload_n 0, 1) := by decide +kernel
theorem dX8_giveBack_8 : decode cX8_giveBack 8 = .ok (.dup, 1) := by decide +kernel
theorem dX8_giveBack_9 : decode cX8_giveBack 9 = .ok (.getfield 74, 3) := by decide +kernel
theorem dX8_giveBack_12 : decode cX8_giveBack 12 = .ok (.iconst 1, 1) := by decide +kernel
theorem dX8_giveBack_13 : decode cX8_giveBack 13 = .ok (.isub, 1) := by decide +kernel
theorem dX8_giveBack_14 : decode cX8_giveBack 14 = .ok (.putfield 74, 3) := by decide +kernel
theorem dX8_giveBack_17 : decode cX8_giveBack 17 = .ok (.aload_n 0, 1) := by decide +kernel
theorem dX8_giveBack_18 : decode cX8_giveBack 18 = .ok (.iload_n 1, 1) := by decide +kernel
theorem dX8_giveBack_19 : decode cX8_giveBack 19 = .ok (.iconst (-1), 1) := by decide +kernel
theorem dX8_giveBack_20 : decode cX8_giveBack 20 = .ok (.invokevirtual 70, 3) := by decide +kernel
theorem dX8_giveBack_23 : decode cX8_giveBack 23 = .ok (.return_, 1) := by decide +kernel
theorem dX8_travel_0 : decode cX8_travel 0 = .ok (.aload_n 0, 1) := by decide +kernel
theorem dX8_travel_1 : decode cX8_travel 1 = .ok (.getfield 9, 3) := by decide +kernel
theorem dX8_travel_4 : decode cX8_travel 4 = .ok (.iload_n 1, 1) := by decide +kernel
theorem dX8_travel_5 : decode cX8_travel 5 = .ok (.iaload, 1) := by decide +kernel
theorem dX8_travel_6 : decode cX8_travel 6 = .ok (.istore_n 2, 1) := by decide +kernel
theorem dX8_travel_7 : decode cX8_travel 7 = .ok (.iconst 0, 1) := by decide +kernel
theorem dX8_travel_8 : decode cX8_travel 8 = .ok (.istore_n 3, 1) := by decide +kernel
theorem dX8_travel_9 : decode cX8_travel 9 = .ok (.iload_n 3, 1) := by decide +kernel
theorem dX8_travel_10 : decode cX8_travel 10 = .ok (.aload_n 0, 1) := by decide +kernel
theorem dX8_travel_11 : decode cX8_travel 11 = .ok (.getfield 15, 3) := by decide +kernel
theorem dX8_travel_14 : decode cX8_travel 14 = .ok (.iload_n 1, 1) := by decide +kernel
theorem dX8_travel_15 : decode cX8_travel 15 = .ok (.iaload, 1) := by decide +kernel
theorem dX8_travel_16 : decode cX8_travel 16 = .ok (.if_icmp .ge 134, 3) := by decide +kernel
theorem dX8_travel_19 : decode cX8_travel 19 = .ok (.iload_n 1, 1) := by decide +kernel
theorem dX8_travel_20 : decode cX8_travel 20 = .ok (.bipush 7, 2) := by decide +kernel
theorem dX8_travel_22 : decode cX8_travel 22 = .ok (.imul, 1) := by decide +kernel
theorem dX8_travel_23 : decode cX8_travel 23 = .ok (.iload_n 3, 1) := by decide +kernel
theorem dX8_travel_24 : decode cX8_travel 24 = .ok (.iadd, 1) := by decide +kernel
theorem dX8_travel_25 : decode cX8_travel 25 = .ok (.istore 4, 2) := by decide +kernel
theorem dX8_travel_27 : decode cX8_travel 27 = .ok (.aload_n 0, 1) := by decide +kernel
theorem dX8_travel_28 : decode cX8_travel 28 = .ok (.getfield 25, 3) := by decide +kernel
theorem dX8_travel_31 : decode cX8_travel 31 = .ok (.iload 4, 2) := by decide +kernel
theorem dX8_travel_33 : decode cX8_travel 33 = .ok (.iaload, 1) := by decide +kernel
theorem dX8_travel_34 : decode cX8_travel 34 = .ok (.ifCond .ge 28, 3) := by decide +kernel
theorem dX8_travel_37 : decode cX8_travel 37 = .ok (.aload_n 0, 1) := by decide +kernel
theorem dX8_travel_38 : decode cX8_travel 38 = .ok (.getfield 42, 3) := by decide +kernel
theorem dX8_travel_41 : decode cX8_travel 41 = .ok (.aload_n 0, 1) := by decide +kernel
theorem dX8_travel_42 : decode cX8_travel 42 = .ok (.getfield 22, 3) := by decide +kernel
theorem dX8_travel_45 : decode cX8_travel 45 = .ok (.iload 4, 2) := by decide +kernel
theorem dX8_travel_47 : decode cX8_travel 47 = .ok (.iaload, 1) := by decide +kernel
theorem dX8_travel_48 : decode cX8_travel 48 = .ok (.iload_n 2, 1) := by decide +kernel
theorem dX8_travel_49 : decode cX8_travel 49 = .ok (.aload_n 0, 1) := by decide +kernel
theorem dX8_travel_50 : decode cX8_travel 50 = .ok (.getfield 9, 3) := by decide +kernel
theorem dX8_travel_53 : decode cX8_travel 53 = .ok (.iload_n 1, 1) := by decide +kernel
theorem dX8_travel_54 : decode cX8_travel 54 = .ok (.iaload, 1) := by decide +kernel
theorem dX8_travel_55 : decode cX8_travel 55 = .ok (.invokevirtual 77, 3) := by decide +kernel
theorem dX8_travel_58 : decode cX8_travel 58 = .ok (.istore_n 2, 1) := by decide +kernel
theorem dX8_travel_59 : decode cX8_travel 59 = .ok (.goto 85, 3) := by decide +kernel
theorem dX8_travel_62 : decode cX8_travel 62 = .ok (.iload_n 3, 1) := by decide +kernel
theorem dX8_travel_63 : decode cX8_travel 63 = .ok (.ifCond .le 19, 3) := by decide +kernel
theorem dX8_travel_66 : decode cX8_travel 66 = .ok (.aload_n 0, 1) := by decide +kernel
theorem dX8_travel_67 : decode cX8_travel 67 = .ok (.getfield 25, 3) := by decide +kernel
theorem dX8_travel_70 : decode cX8_travel 70 = .ok (.iload 4, 2) := by decide +kernel
theorem dX8_travel_72 : decode cX8_travel 72 = .ok (.iconst 1, 1) := by decide +kernel
theorem dX8_travel_73 : decode cX8_travel 73 = .ok (.isub, 1) := by decide +kernel
theorem dX8_travel_74 : decode cX8_travel 74 = .ok (.iaload, 1) := by decide +kernel
theorem dX8_travel_75 : decode cX8_travel 75 = .ok (.ifCond .lt 7, 3) := by decide +kernel
theorem dX8_travel_78 : decode cX8_travel 78 = .ok (.iconst 1, 1) := by decide +kernel
theorem dX8_travel_79 : decode cX8_travel 79 = .ok (.goto 4, 3) := by decide +kernel
theorem dX8_travel_82 : decode cX8_travel 82 = .ok (.iconst 0, 1) := by decide +kernel
theorem dX8_travel_83 : decode cX8_travel 83 = .ok (.istore 5, 2) := by decide +kernel
theorem dX8_travel_85 : decode cX8_travel 85 = .ok (.aload_n 0, 1) := by decide +kernel
theorem dX8_travel_86 : decode cX8_travel 86 = .ok (.iload 4, 2) := by decide +kernel
theorem dX8_travel_88 : decode cX8_travel 88 = .ok (.iload 5, 2) := by decide +kernel
theorem dX8_travel_90 : decode cX8_travel 90 = .ok (.ifCond .eq 14, 3) := by decide +kernel
theorem dX8_travel_93 : decode cX8_travel 93 = .ok (.iload_n 2, 1) := by decide +kernel
theorem dX8_travel_94 : decode cX8_travel 94 = .ok (.aload_n 0, 1) := by decide +kernel
theorem dX8_travel_95 : decode cX8_travel 95 = .ok (.iload 4, 2) := by decide +kernel
theorem dX8_travel_97 : decode cX8_travel 97 = .ok (.invokevirtual 82, 3) := by decide +kernel
theorem dX8_travel_100 : decode cX8_travel 100 = .ok (.iadd, 1) := by decide +kernel
theorem dX8_travel_101 : decode cX8_travel 101 = .ok (.goto 4, 3) := by decide +kernel
theorem dX8_travel_104 : decode cX8_travel 104 = .ok (.iload_n 2, 1) := by decide +kernel
theorem dX8_travel_105 : decode cX8_travel 105 = .ok (.invokevirtual 86, 3) := by decide +kernel
theorem dX8_travel_108 : decode cX8_travel 108 = .ok (.ifCond .ne 7, 3) := by decide +kernel
theorem dX8_travel_111 : decode cX8_travel 111 = .ok (.iconst (-1), 1) := by decide +kernel
theorem dX8_travel_112 : decode cX8_travel 112 = .ok (.iload_n 3, 1) := by decide +kernel
theorem dX8_travel_113 : decode cX8_travel 113 = .ok (.isub, 1) := by decide +kernel
theorem dX8_travel_114 : decode cX8_travel 114 = .ok (.ireturn, 1) := by decide +kernel
theorem dX8_travel_115 : decode cX8_travel 115 = .ok (.aload_n 0, 1) := by decide +kernel
theorem dX8_travel_116 : decode cX8_travel 116 = .ok (.getfield 38, 3) := by decide +kernel
theorem dX8_travel_119 : decode cX8_travel 119 = .ok (.aload_n 0, 1) := by decide +kernel
theorem dX8_travel_120 : decode cX8_travel 120 = .ok (.getfield 22, 3) := by decide +kernel
theorem dX8_travel_123 : decode cX8_travel 123 = .ok (.iload 4, 2) := by decide +kernel
theorem dX8_travel_125 : decode cX8_travel 125 = .ok (.iaload, 1) := by decide +kernel
theorem dX8_travel_126 : decode cX8_travel 126 = .ok (.aload_n 0, 1) := by decide +kernel
theorem dX8_travel_127 : decode cX8_travel 127 = .ok (.getfield 25, 3) := by decide +kernel
theorem dX8_travel_130 : decode cX8_travel 130 = .ok (.iload 4, 2) := by decide +kernel
theorem dX8_travel_132 : decode cX8_travel 132 = .ok (.iaload, 1) := by decide +kernel
theorem dX8_travel_133 : decode cX8_travel 133 = .ok (.aload_n 0, 1) := by decide +kernel
theorem dX8_travel_134 : decode cX8_travel 134 = .ok (.getfield 31, 3) := by decide +kernel
theorem dX8_travel_137 : decode cX8_travel 137 = .ok (.iload 4, 2) := by decide +kernel
theorem dX8_travel_139 : decode cX8_travel 139 = .ok (.iaload, 1) := by decide +kernel
theorem dX8_travel_140 : decode cX8_travel 140 = .ok (.invokevirtual 90, 3) := by decide +kernel
theorem dX8_travel_143 : decode cX8_travel 143 = .ok (.istore_n 2, 1) := by decide +kernel
theorem dX8_travel_144 : decode cX8_travel 144 = .ok (.iinc 3 1, 3) := by decide +kernel
theorem dX8_travel_147 : decode cX8_travel 147 = .ok (.goto (-138), 3) := by decide +kernel
theorem dX8_travel_150 : decode cX8_travel 150 = .ok (.iload_n 2, 1) := by decide +kernel
theorem dX8_travel_151 : decode cX8_travel 151 = .ok (.ireturn, 1) := by decide +kernel
theorem dX8_changeAt_0 : decode cX8_changeAt 0 = .ok (.aload_n 0, 1) := by decide +kernel
theorem dX8_changeAt_1 : decode cX8_changeAt 1 = .ok (.getfield 34, 3) := by decide +kernel
theorem dX8_changeAt_4 : decode cX8_changeAt 4 = .ok (.getfield 95, 3) := by decide +kernel
theorem dX8_changeAt_7 : decode cX8_changeAt 7 = .ok (.aload_n 0, 1) := by decide +kernel
theorem dX8_changeAt_8 : decode cX8_changeAt 8 = .ok (.getfield 38, 3) := by decide +kernel
theorem dX8_changeAt_11 : decode cX8_changeAt 11 = .ok (.getfield 100, 3) := by decide +kernel
theorem dX8_changeAt_14 : decode cX8_changeAt 14 = .ok (.aload_n 0, 1) := by decide +kernel
theorem dX8_changeAt_15 : decode cX8_changeAt 15 = .ok (.getfield 22, 3) := by decide +kernel
theorem dX8_changeAt_18 : decode cX8_changeAt 18 = .ok (.iload_n 1, 1) := by decide +kernel
theorem dX8_changeAt_19 : decode cX8_changeAt 19 = .ok (.iaload, 1) := by decide +kernel
theorem dX8_changeAt_20 : decode cX8_changeAt 20 = .ok (.bipush 8, 2) := by decide +kernel
theorem dX8_changeAt_22 : decode cX8_changeAt 22 = .ok (.imul, 1) := by decide +kernel
theorem dX8_changeAt_23 : decode cX8_changeAt 23 = .ok (.aload_n 0, 1) := by decide +kernel
theorem dX8_changeAt_24 : decode cX8_changeAt 24 = .ok (.getfield 28, 3) := by decide +kernel
theorem dX8_changeAt_27 : decode cX8_changeAt 27 = .ok (.iload_n 1, 1) := by decide +kernel
theorem dX8_changeAt_28 : decode cX8_changeAt 28 = .ok (.iaload, 1) := by decide +kernel
theorem dX8_changeAt_29 : decode cX8_changeAt 29 = .ok (.iadd, 1) := by decide +kernel
theorem dX8_changeAt_30 : decode cX8_changeAt 30 = .ok (.iaload, 1) := by decide +kernel
theorem dX8_changeAt_31 : decode cX8_changeAt 31 = .ok (.iaload, 1) := by decide +kernel
theorem dX8_changeAt_32 : decode cX8_changeAt 32 = .ok (.ireturn, 1) := by decide +kernel
theorem dX8_canRide_0 : decode cX8_canRide 0 = .ok (.aload_n 0, 1) := by decide +kernel
theorem dX8_canRide_1 : decode cX8_canRide 1 = .ok (.getfield 22, 3) := by decide +kernel
theorem dX8_canRide_4 : decode cX8_canRide 4 = .ok (.iload_n 1, 1) := by decide +kernel
theorem dX8_canRide_5 : decode cX8_canRide 5 = .ok (.iaload, 1) := by decide +kernel
theorem dX8_canRide_6 : decode cX8_canRide 6 = .ok (.istore_n 3, 1) := by decide +kernel
theorem dX8_canRide_7 : decode cX8_canRide 7 = .ok (.aload_n 0, 1) := by decide +kernel
theorem dX8_canRide_8 : decode cX8_canRide 8 = .ok (.getfield 38, 3) := by decide +kernel
theorem dX8_canRide_11 : decode cX8_canRide 11 = .ok (.iload_n 3, 1) := by decide +kernel
theorem dX8_canRide_12 : decode cX8_canRide 12 = .ok (.aload_n 0, 1) := by decide +kernel
theorem dX8_canRide_13 : decode cX8_canRide 13 = .ok (.getfield 25, 3) := by decide +kernel
theorem dX8_canRide_16 : decode cX8_canRide 16 = .ok (.iload_n 1, 1) := by decide +kernel
theorem dX8_canRide_17 : decode cX8_canRide 17 = .ok (.iaload, 1) := by decide +kernel
theorem dX8_canRide_18 : decode cX8_canRide 18 = .ok (.invokevirtual 103, 3) := by decide +kernel
theorem dX8_canRide_21 : decode cX8_canRide 21 = .ok (.ifCond .eq 65, 3) := by decide +kernel
theorem dX8_canRide_24 : decode cX8_canRide 24 = .ok (.aload_n 0, 1) := by decide +kernel
theorem dX8_canRide_25 : decode cX8_canRide 25 = .ok (.getfield 38, 3) := by decide +kernel
theorem dX8_canRide_28 : decode cX8_canRide 28 = .ok (.iload_n 3, 1) := by decide +kernel
theorem dX8_canRide_29 : decode cX8_canRide 29 = .ok (.aload_n 0, 1) := by decide +kernel
theorem dX8_canRide_30 : decode cX8_canRide 30 = .ok (.getfield 28, 3) := by decide +kernel
theorem dX8_canRide_33 : decode cX8_canRide 33 = .ok (.iload_n 1, 1) := by decide +kernel
theorem dX8_canRide_34 : decode cX8_canRide 34 = .ok (.iaload, 1) := by decide +kernel
theorem dX8_canRide_35 : decode cX8_canRide 35 = .ok (.invokevirtual 106, 3) := by decide +kernel
theorem dX8_canRide_38 : decode cX8_canRide 38 = .ok (.ifCond .eq 48, 3) := by decide +kernel
theorem dX8_canRide_41 : decode cX8_canRide 41 = .ok (.aload_n 0, 1) := by decide +kernel
theorem dX8_canRide_42 : decode cX8_canRide 42 = .ok (.getfield 38, 3) := by decide +kernel
theorem dX8_canRide_45 : decode cX8_canRide 45 = .ok (.iload_n 3, 1) := by decide +kernel
theorem dX8_canRide_46 : decode cX8_canRide 46 = .ok (.aload_n 0, 1) := by decide +kernel
theorem dX8_canRide_47 : decode cX8_canRide 47 = .ok (.getfield 31, 3) := by decide +kernel
theorem dX8_canRide_50 : decode cX8_canRide 50 = .ok (.iload_n 1, 1) := by decide +kernel
theorem dX8_canRide_51 : decode cX8_canRide 51 = .ok (.iaload, 1) := by decide +kernel
theorem dX8_canRide_52 : decode cX8_canRide 52 = .ok (.invokevirtual 106, 3) := by decide +kernel
theorem dX8_canRide_55 : decode cX8_canRide 55 = .ok (.ifCond .eq 31, 3) := by decide +kernel
theorem dX8_canRide_58 : decode cX8_canRide 58 = .ok (.aload_n 0, 1) := by decide +kernel
theorem dX8_canRide_59 : decode cX8_canRide 59 = .ok (.getfield 38, 3) := by decide +kernel
theorem dX8_canRide_62 : decode cX8_canRide 62 = .ok (.iload_n 3, 1) := by decide +kernel
theorem dX8_canRide_63 : decode cX8_canRide 63 = .ok (.aload_n 0, 1) := by decide +kernel
theorem dX8_canRide_64 : decode cX8_canRide 64 = .ok (.getfield 25, 3) := by decide +kernel
theorem dX8_canRide_67 : decode cX8_canRide 67 = .ok (.iload_n 1, 1) := by decide +kernel
theorem dX8_canRide_68 : decode cX8_canRide 68 = .ok (.iaload, 1) := by decide +kernel
theorem dX8_canRide_69 : decode cX8_canRide 69 = .ok (.aload_n 0, 1) := by decide +kernel
theorem dX8_canRide_70 : decode cX8_canRide 70 = .ok (.getfield 28, 3) := by decide +kernel
theorem dX8_canRide_73 : decode cX8_canRide 73 = .ok (.iload_n 1, 1) := by decide +kernel
theorem dX8_canRide_74 : decode cX8_canRide 74 = .ok (.iaload, 1) := by decide +kernel
theorem dX8_canRide_75 : decode cX8_canRide 75 = .ok (.invokevirtual 109, 3) := by decide +kernel
theorem dX8_canRide_78 : decode cX8_canRide 78 = .ok (.iload_n 2, 1) := by decide +kernel
theorem dX8_canRide_79 : decode cX8_canRide 79 = .ok (.if_icmp .lt 7, 3) := by decide +kernel
theorem dX8_canRide_82 : decode cX8_canRide 82 = .ok (.iconst 1, 1) := by decide +kernel
theorem dX8_canRide_83 : decode cX8_canRide 83 = .ok (.goto 4, 3) := by decide +kernel
theorem dX8_canRide_86 : decode cX8_canRide 86 = .ok (.iconst 0, 1) := by decide +kernel
theorem dX8_canRide_87 : decode cX8_canRide 87 = .ok (.ireturn, 1) := by decide +kernel
theorem dX8_changePlaces_0 : decode cX8_changePlaces 0 = .ok (.iconst 0, 1) := by decide +kernel
theorem dX8_changePlaces_1 : decode cX8_changePlaces 1 = .ok (.istore_n 3, 1) := by decide +kernel
theorem dX8_changePlaces_2 : decode cX8_changePlaces 2 = .ok (.iload_n 3, 1) := by decide +kernel
theorem dX8_changePlaces_3 : decode cX8_changePlaces 3 = .ok (.aload_n 0, 1) := by decide +kernel
theorem dX8_changePlaces_4 : decode cX8_changePlaces 4 = .ok (.getfield 15, 3) := by decide +kernel
theorem dX8_changePlaces_7 : decode cX8_changePlaces 7 = .ok (.iload_n 1, 1) := by decide +kernel
theorem dX8_changePlaces_8 : decode cX8_changePlaces 8 = .ok (.iaload, 1) := by decide +kernel
theorem dX8_changePlaces_9 : decode cX8_changePlaces 9 = .ok (.if_icmp .ge 81, 3) := by decide +kernel
theorem dX8_changePlaces_12 : decode cX8_changePlaces 12 = .ok (.iload_n 1, 1) := by decide +kernel
theorem dX8_changePlaces_13 : decode cX8_changePlaces 13 = .ok (.bipush 7, 2) := by decide +kernel
theorem dX8_changePlaces_15 : decode cX8_changePlaces 15 = .ok (.imul, 1) := by decide +kernel
theorem dX8_changePlaces_16 : decode cX8_changePlaces 16 = .ok (.iload_n 3, 1) := by decide +kernel
theorem dX8_changePlaces_17 : decode cX8_changePlaces 17 = .ok (.iadd, 1) := by decide +kernel
theorem dX8_changePlaces_18 : decode cX8_changePlaces 18 = .ok (.istore 4, 2) := by decide +kernel
theorem dX8_changePlaces_20 : decode cX8_changePlaces 20 = .ok (.aload_n 0, 1) := by decide +kernel
theorem dX8_changePlaces_21 : decode cX8_changePlaces 21 = .ok (.getfield 25, 3) := by decide +kernel
theorem dX8_changePlaces_24 : decode cX8_changePlaces 24 = .ok (.iload 4, 2) := by decide +kernel
theorem dX8_changePlaces_26 : decode cX8_changePlaces 26 = .ok (.iaload, 1) := by decide +kernel
theorem dX8_changePlaces_27 : decode cX8_changePlaces 27 = .ok (.ifCond .lt 57, 3) := by decide +kernel
theorem dX8_changePlaces_30 : decode cX8_changePlaces 30 = .ok (.aload_n 0, 1) := by decide +kernel
theorem dX8_changePlaces_31 : decode cX8_changePlaces 31 = .ok (.getfield 38, 3) := by decide +kernel
theorem dX8_changePlaces_34 : decode cX8_changePlaces 34 = .ok (.getfield 112, 3) := by decide +kernel
theorem dX8_changePlaces_37 : decode cX8_changePlaces 37 = .ok (.aload_n 0, 1) := by decide +kernel
theorem dX8_changePlaces_38 : decode cX8_changePlaces 38 = .ok (.getfield 22, 3) := by decide +kernel
theorem dX8_changePlaces_41 : decode cX8_changePlaces 41 = .ok (.iload 4, 2) := by decide +kernel
theorem dX8_changePlaces_43 : decode cX8_changePlaces 43 = .ok (.iaload, 1) := by decide +kernel
theorem dX8_changePlaces_44 : decode cX8_changePlaces 44 = .ok (.iaload, 1) := by decide +kernel
theorem dX8_changePlaces_45 : decode cX8_changePlaces 45 = .ok (.ifCond .eq 39, 3) := by decide +kernel
theorem dX8_changePlaces_48 : decode cX8_changePlaces 48 = .ok (.aload_n 0, 1) := by decide +kernel
theorem dX8_changePlaces_49 : decode cX8_changePlaces 49 = .ok (.getfield 46, 3) := by decide +kernel
theorem dX8_changePlaces_52 : decode cX8_changePlaces 52 = .ok (.aload_n 0, 1) := by decide +kernel
theorem dX8_changePlaces_53 : decode cX8_changePlaces 53 = .ok (.getfield 22, 3) := by decide +kernel
theorem dX8_changePlaces_56 : decode cX8_changePlaces 56 = .ok (.iload 4, 2) := by decide +kernel
theorem dX8_changePlaces_58 : decode cX8_changePlaces 58 = .ok (.iaload, 1) := by decide +kernel
theorem dX8_changePlaces_59 : decode cX8_changePlaces 59 = .ok (.aload_n 0, 1) := by decide +kernel
theorem dX8_changePlaces_60 : decode cX8_changePlaces 60 = .ok (.getfield 25, 3) := by decide +kernel
theorem dX8_changePlaces_63 : decode cX8_changePlaces 63 = .ok (.iload 4, 2) := by decide +kernel
theorem dX8_changePlaces_65 : decode cX8_changePlaces 65 = .ok (.iaload, 1) := by decide +kernel
theorem dX8_changePlaces_66 : decode cX8_changePlaces 66 = .ok (.aload_n 0, 1) := by decide +kernel
theorem dX8_changePlaces_67 : decode cX8_changePlaces 67 = .ok (.getfield 28, 3) := by decide +kernel
theorem dX8_changePlaces_70 : decode cX8_changePlaces 70 = .ok (.iload 4, 2) := by decide +kernel
theorem dX8_changePlaces_72 : decode cX8_changePlaces 72 = .ok (.iaload, 1) := by decide +kernel
theorem dX8_changePlaces_73 : decode cX8_changePlaces 73 = .ok (.aload_n 0, 1) := by decide +kernel
theorem dX8_changePlaces_74 : decode cX8_changePlaces 74 = .ok (.getfield 31, 3) := by decide +kernel
theorem dX8_changePlaces_77 : decode cX8_changePlaces 77 = .ok (.iload 4, 2) := by decide +kernel
theorem dX8_changePlaces_79 : decode cX8_changePlaces 79 = .ok (.iaload, 1) := by decide +kernel
theorem dX8_changePlaces_80 : decode cX8_changePlaces 80 = .ok (.iload_n 2, 1) := by decide +kernel
theorem dX8_changePlaces_81 : decode cX8_changePlaces 81 = .ok (.invokevirtual 115, 3) := by decide +kernel
theorem dX8_changePlaces_84 : decode cX8_changePlaces 84 = .ok (.iinc 3 1, 3) := by decide +kernel
theorem dX8_changePlaces_87 : decode cX8_changePlaces 87 = .ok (.goto (-85), 3) := by decide +kernel
theorem dX8_changePlaces_90 : decode cX8_changePlaces 90 = .ok (.return_, 1) := by decide +kernel
theorem dX8_hasPlaces_0 : decode cX8_hasPlaces 0 = .ok (.iconst 0, 1) := by decide +kernel
theorem dX8_hasPlaces_1 : decode cX8_hasPlaces 1 = .ok (.istore_n 3, 1) := by decide +kernel
theorem dX8_hasPlaces_2 : decode cX8_hasPlaces 2 = .ok (.iload_n 3, 1) := by decide +kernel
theorem dX8_hasPlaces_3 : decode cX8_hasPlaces 3 = .ok (.aload_n 1, 1) := by decide +kernel
theorem dX8_hasPlaces_4 : decode cX8_hasPlaces 4 = .ok (.iload_n 2, 1) := by decide +kernel
theorem dX8_hasPlaces_5 : decode cX8_hasPlaces 5 = .ok (.iconst 4, 1) := by decide +kernel
theorem dX8_hasPlaces_6 : decode cX8_hasPlaces 6 = .ok (.invokevirtual 62, 3) := by decide +kernel
theorem dX8_hasPlaces_9 : decode cX8_hasPlaces 9 = .ok (.if_icmp .ge 41, 3) := by decide +kernel
theorem dX8_hasPlaces_12 : decode cX8_hasPlaces 12 = .ok (.aload_n 1, 1) := by decide +kernel
theorem dX8_hasPlaces_13 : decode cX8_hasPlaces 13 = .ok (.iload_n 2, 1) := by decide +kernel
theorem dX8_hasPlaces_14 : decode cX8_hasPlaces 14 = .ok (.iload_n 3, 1) := by decide +kernel
theorem dX8_hasPlaces_15 : decode cX8_hasPlaces 15 = .ok (.iconst 0, 1) := by decide +kernel
theorem dX8_hasPlaces_16 : decode cX8_hasPlaces 16 = .ok (.invokevirtual 66, 3) := by decide +kernel
theorem dX8_hasPlaces_19 : decode cX8_hasPlaces 19 = .ok (.istore 4, 2) := by decide +kernel
theorem dX8_hasPlaces_21 : decode cX8_hasPlaces 21 = .ok (.iload 4, 2) := by decide +kernel
theorem dX8_hasPlaces_23 : decode cX8_hasPlaces 23 = .ok (.ifCond .le 21, 3) := by decide +kernel
theorem dX8_hasPlaces_26 : decode cX8_hasPlaces 26 = .ok (.iload 4, 2) := by decide +kernel
theorem dX8_hasPlaces_28 : decode cX8_hasPlaces 28 = .ok (.iconst 2, 1) := by decide +kernel
theorem dX8_hasPlaces_29 : decode cX8_hasPlaces 29 = .ok (.if_icmp .gt 15, 3) := by decide +kernel
theorem dX8_hasPlaces_32 : decode cX8_hasPlaces 32 = .ok (.aload_n 0, 1) := by decide +kernel
theorem dX8_hasPlaces_33 : decode cX8_hasPlaces 33 = .ok (.aload_n 1, 1) := by decide +kernel
theorem dX8_hasPlaces_34 : decode cX8_hasPlaces 34 = .ok (.iload_n 2, 1) := by decide +kernel
theorem dX8_hasPlaces_35 : decode cX8_hasPlaces 35 = .ok (.iload_n 3, 1) := by decide +kernel
theorem dX8_hasPlaces_36 : decode cX8_hasPlaces 36 = .ok (.invokevirtual 120, 3) := by decide +kernel
theorem dX8_hasPlaces_39 : decode cX8_hasPlaces 39 = .ok (.ifCond .ne 5, 3) := by decide +kernel
theorem dX8_hasPlaces_42 : decode cX8_hasPlaces 42 = .ok (.iconst 0, 1) := by decide +kernel
theorem dX8_hasPlaces_43 : decode cX8_hasPlaces 43 = .ok (.ireturn, 1) := by decide +kernel
theorem dX8_hasPlaces_44 : decode cX8_hasPlaces 44 = .ok (.iinc 3 1, 3) := by decide +kernel
theorem dX8_hasPlaces_47 : decode cX8_hasPlaces 47 = .ok (.goto (-45), 3) := by decide +kernel
theorem dX8_hasPlaces_50 : decode cX8_hasPlaces 50 = .ok (.iconst 1, 1) := by decide +kernel
theorem dX8_hasPlaces_51 : decode cX8_hasPlaces 51 = .ok (.ireturn, 1) := by decide +kernel
theorem dX8_hasPlacesOn_0 : decode cX8_hasPlacesOn 0 = .ok (.aload_n 1, 1) := by decide +kernel
theorem dX8_hasPlacesOn_1 : decode cX8_hasPlacesOn 1 = .ok (.iload_n 2, 1) := by decide +kernel
theorem dX8_hasPlacesOn_2 : decode cX8_hasPlacesOn 2 = .ok (.iload_n 3, 1) := by decide +kernel
theorem dX8_hasPlacesOn_3 : decode cX8_hasPlacesOn 3 = .ok (.iconst 1, 1) := by decide +kernel
theorem dX8_hasPlacesOn_4 : decode cX8_hasPlacesOn 4 = .ok (.invokevirtual 66, 3) := by decide +kernel
theorem dX8_hasPlacesOn_7 : decode cX8_hasPlacesOn 7 = .ok (.istore 4, 2) := by decide +kernel
theorem dX8_hasPlacesOn_9 : decode cX8_hasPlacesOn 9 = .ok (.aload_n 1, 1) := by decide +kernel
theorem dX8_hasPlacesOn_10 : decode cX8_hasPlacesOn 10 = .ok (.iload_n 2, 1) := by decide +kernel
theorem dX8_hasPlacesOn_11 : decode cX8_hasPlacesOn 11 = .ok (.iload_n 3, 1) := by decide +kernel
theorem dX8_hasPlacesOn_12 : decode cX8_hasPlacesOn 12 = .ok (.bipush 6, 2) := by decide +kernel
theorem dX8_hasPlacesOn_14 : decode cX8_hasPlacesOn 14 = .ok (.invokevirtual 66, 3) := by decide +kernel
theorem dX8_hasPlacesOn_17 : decode cX8_hasPlacesOn 17 = .ok (.istore 5, 2) := by decide +kernel
theorem dX8_hasPlacesOn_19 : decode cX8_hasPlacesOn 19 = .ok (.aload_n 1, 1) := by decide +kernel
theorem dX8_hasPlacesOn_20 : decode cX8_hasPlacesOn 20 = .ok (.iload_n 2, 1) := by decide +kernel
theorem dX8_hasPlacesOn_21 : decode cX8_hasPlacesOn 21 = .ok (.iload_n 3, 1) := by decide +kernel
theorem dX8_hasPlacesOn_22 : decode cX8_hasPlacesOn 22 = .ok (.bipush 7, 2) := by decide +kernel
theorem dX8_hasPlacesOn_24 : decode cX8_hasPlacesOn 24 = .ok (.invokevirtual 66, 3) := by decide +kernel
theorem dX8_hasPlacesOn_27 : decode cX8_hasPlacesOn 27 = .ok (.istore 6, 2) := by decide +kernel
theorem dX8_hasPlacesOn_29 : decode cX8_hasPlacesOn 29 = .ok (.iload 6, 2) := by decide +kernel
theorem dX8_hasPlacesOn_31 : decode cX8_hasPlacesOn 31 = .ok (.aload_n 1, 1) := by decide +kernel
theorem dX8_hasPlacesOn_32 : decode cX8_hasPlacesOn 32 = .ok (.iload_n 2, 1) := by decide +kernel
theorem dX8_hasPlacesOn_33 : decode cX8_hasPlacesOn 33 = .ok (.iload_n 3, 1) := by decide +kernel
theorem dX8_hasPlacesOn_34 : decode cX8_hasPlacesOn 34 = .ok (.bipush 8, 2) := by decide +kernel
theorem dX8_hasPlacesOn_36 : decode cX8_hasPlacesOn 36 = .ok (.invokevirtual 66, 3) := by decide +kernel
theorem dX8_hasPlacesOn_39 : decode cX8_hasPlacesOn 39 = .ok (.if_icmp .ge 53, 3) := by decide +kernel
theorem dX8_hasPlacesOn_42 : decode cX8_hasPlacesOn 42 = .ok (.aload_n 0, 1) := by decide +kernel
theorem dX8_hasPlacesOn_43 : decode cX8_hasPlacesOn 43 = .ok (.getfield 46, 3) := by decide +kernel
theorem dX8_hasPlacesOn_46 : decode cX8_hasPlacesOn 46 = .ok (.iload 4, 2) := by decide +kernel
theorem dX8_hasPlacesOn_48 : decode cX8_hasPlacesOn 48 = .ok (.iload 5, 2) := by decide +kernel
theorem dX8_hasPlacesOn_50 : decode cX8_hasPlacesOn 50 = .ok (.iload 6, 2) := by decide +kernel
theorem dX8_hasPlacesOn_52 : decode cX8_hasPlacesOn 52 = .ok (.invokevirtual 124, 3) := by decide +kernel
theorem dX8_hasPlacesOn_55 : decode cX8_hasPlacesOn 55 = .ok (.aload_n 1, 1) := by decide +kernel
theorem dX8_hasPlacesOn_56 : decode cX8_hasPlacesOn 56 = .ok (.iload_n 2, 1) := by decide +kernel
theorem dX8_hasPlacesOn_57 : decode cX8_hasPlacesOn 57 = .ok (.iload 4, 2) := by decide +kernel
theorem dX8_hasPlacesOn_59 : decode cX8_hasPlacesOn 59 = .ok (.iload 5, 2) := by decide +kernel
theorem dX8_hasPlacesOn_61 : decode cX8_hasPlacesOn 61 = .ok (.iload 6, 2) := by decide +kernel
theorem dX8_hasPlacesOn_63 : decode cX8_hasPlacesOn 63 = .ok (.invokevirtual 127, 3) := by decide +kernel
theorem dX8_hasPlacesOn_66 : decode cX8_hasPlacesOn 66 = .ok (.iadd, 1) := by decide +kernel
theorem dX8_hasPlacesOn_67 : decode cX8_hasPlacesOn 67 = .ok (.istore 7, 2) := by decide +kernel
theorem dX8_hasPlacesOn_69 : decode cX8_hasPlacesOn 69 = .ok (.iload 7, 2) := by decide +kernel
theorem dX8_hasPlacesOn_71 : decode cX8_hasPlacesOn 71 = .ok (.aload_n 0, 1) := by decide +kernel
theorem dX8_hasPlacesOn_72 : decode cX8_hasPlacesOn 72 = .ok (.getfield 38, 3) := by decide +kernel
theorem dX8_hasPlacesOn_75 : decode cX8_hasPlacesOn 75 = .ok (.getfield 131, 3) := by decide +kernel
theorem dX8_hasPlacesOn_78 : decode cX8_hasPlacesOn 78 = .ok (.iload 4, 2) := by decide +kernel
theorem dX8_hasPlacesOn_80 : decode cX8_hasPlacesOn 80 = .ok (.iaload, 1) := by decide +kernel
theorem dX8_hasPlacesOn_81 : decode cX8_hasPlacesOn 81 = .ok (.if_icmp .le 5, 3) := by decide +kernel
theorem dX8_hasPlacesOn_84 : decode cX8_hasPlacesOn 84 = .ok (.iconst 0, 1) := by decide +kernel
theorem dX8_hasPlacesOn_85 : decode cX8_hasPlacesOn 85 = .ok (.ireturn, 1) := by decide +kernel
theorem dX8_hasPlacesOn_86 : decode cX8_hasPlacesOn 86 = .ok (.iinc 6 1, 3) := by decide +kernel
theorem dX8_hasPlacesOn_89 : decode cX8_hasPlacesOn 89 = .ok (.goto (-60), 3) := by decide +kernel
theorem dX8_hasPlacesOn_92 : decode cX8_hasPlacesOn 92 = .ok (.iconst 1, 1) := by decide +kernel
theorem dX8_hasPlacesOn_93 : decode cX8_hasPlacesOn 93 = .ok (.ireturn, 1) := by decide +kernel
theorem dX9_init_0 : decode cX9_init 0 = .ok (.aload_n 0, 1) := by decide +kernel
theorem dX9_init_1 : decode cX9_init 1 = .ok (.invokespecial 3, 3) := by decide +kernel
theorem dX9_init_4 : decode cX9_init 4 = .ok (.aload_n 0, 1) := by decide +kernel
theorem dX9_init_5 : decode cX9_init 5 = .ok (.bipush 24, 2) := by decide +kernel
theorem dX9_init_7 : decode cX9_init 7 = .ok (.newarray .int, 2) := by decide +kernel
theorem dX9_init_9 : decode cX9_init 9 = .ok (.putfield 9, 3) := by decide +kernel
theorem dX9_init_12 : decode cX9_init 12 = .ok (.aload_n 0, 1) := by decide +kernel
theorem dX9_init_13 : decode cX9_init 13 = .ok (.bipush 24, 2) := by decide +kernel
theorem dX9_init_15 : decode cX9_init 15 = .ok (.newarray .int, 2) := by decide +kernel
theorem dX9_init_17 : decode cX9_init 17 = .ok (.putfield 15, 3) := by decide +kernel
theorem dX9_init_20 : decode cX9_init 20 = .ok (.aload_n 0, 1) := by decide +kernel
theorem dX9_init_21 : decode cX9_init 21 = .ok (.bipush 24, 2) := by decide +kernel
theorem dX9_init_23 : decode cX9_init 23 = .ok (.newarray .int, 2) := by decide +kernel
theorem dX9_init_25 : decode cX9_init 25 = .ok (.putfield 18, 3) := by decide +kernel
theorem dX9_init_28 : decode cX9_init 28 = .ok (.aload_n 0, 1) := by decide +kernel
theorem dX9_init_29 : decode cX9_init 29 = .ok (.bipush 24, 2) := by decide +kernel
theorem dX9_init_31 : decode cX9_init 31 = .ok (.newarray .int, 2) := by decide +kernel
theorem dX9_init_33 : decode cX9_init 33 = .ok (.putfield 21, 3) := by decide +kernel
theorem dX9_init_36 : decode cX9_init 36 = .ok (.aload_n 0, 1) := by decide +kernel
theorem dX9_init_37 : decode cX9_init 37 = .ok (.bipush 24, 2) := by decide +kernel
theorem dX9_init_39 : decode cX9_init 39 = .ok (.newarray .int, 2) := by decide +kernel
theorem dX9_init_41 : decode cX9_init 41 = .ok (.putfield 24, 3) := by decide +kernel
theorem dX9_init_44 : decode cX9_init 44 = .ok (.aload_n 0, 1) := by decide +kernel
theorem dX9_init_45 : decode cX9_init 45 = .ok (.sipush 192, 3) := by decide +kernel
theorem dX9_init_48 : decode cX9_init 48 = .ok (.newarray .int, 2) := by decide +kernel
theorem dX9_init_50 : decode cX9_init 50 = .ok (.putfield 27, 3) := by decide +kernel
theorem dX9_init_53 : decode cX9_init 53 = .ok (.aload_n 0, 1) := by decide +kernel
theorem dX9_init_54 : decode cX9_init 54 = .ok (.sipush 192, 3) := by decide +kernel
theorem dX9_init_57 : decode cX9_init 57 = .ok (.newarray .int, 2) := by decide +kernel
theorem dX9_init_59 : decode cX9_init 59 = .ok (.putfield 30, 3) := by decide +kernel
theorem dX9_init_62 : decode cX9_init 62 = .ok (.aload_n 0, 1) := by decide +kernel
theorem dX9_init_63 : decode cX9_init 63 = .ok (.sipush 192, 3) := by decide +kernel
theorem dX9_init_66 : decode cX9_init 66 = .ok (.newarray .int, 2) := by decide +kernel
theorem dX9_init_68 : decode cX9_init 68 = .ok (.putfield 33, 3) := by decide +kernel
theorem dX9_init_71 : decode cX9_init 71 = .ok (.aload_n 0, 1) := by decide +kernel
theorem dX9_init_72 : decode cX9_init 72 = .ok (.bipush 100, 2) := by decide +kernel
theorem dX9_init_74 : decode cX9_init 74 = .ok (.newarray .int, 2) := by decide +kernel
theorem dX9_init_76 : decode cX9_init 76 = .ok (.putfield 36, 3) := by decide +kernel
theorem dX9_init_79 : decode cX9_init 79 = .ok (.aload_n 0, 1) := by decide +kernel
theorem dX9_init_80 : decode cX9_init 80 = .ok (.bipush 100, 2) := by decide +kernel
theorem dX9_init_82 : decode cX9_init 82 = .ok (.newarray .int, 2) := by decide +kernel
theorem dX9_init_84 : decode cX9_init 84 = .ok (.putfield 39, 3) := by decide +kernel
theorem dX9_init_87 : decode cX9_init 87 = .ok (.aload_n 0, 1) := by decide +kernel
theorem dX9_init_88 : decode cX9_init 88 = .ok (.new 42, 3) := by decide +kernel
theorem dX9_init_91 : decode cX9_init 91 = .ok (.dup, 1) := by decide +kernel
theorem dX9_init_92 : decode cX9_init 92 = .ok (.invokespecial 44, 3) := by decide +kernel
theorem dX9_init_95 : decode cX9_init 95 = .ok (.putfield 45, 3) := by decide +kernel
theorem dX9_init_98 : decode cX9_init 98 = .ok (.iconst 0, 1) := by decide +kernel
theorem dX9_init_99 : decode cX9_init 99 = .ok (.istore_n 1, 1) := by decide +kernel
theorem dX9_init_100 : decode cX9_init 100 = .ok (.iload_n 1, 1) := by decide +kernel
theorem dX9_init_101 : decode cX9_init 101 = .ok (.bipush 100, 2) := by decide +kernel
theorem dX9_init_103 : decode cX9_init 103 = .ok (.if_icmp .ge 19, 3) := by decide +kernel
theorem dX9_init_106 : decode cX9_init 106 = .ok (.aload_n 0, 1) := by decide +kernel
theorem dX9_init_107 : decode cX9_init 107 = .ok (.getfield 36, 3) := by decide +kernel
theorem dX9_init_110 : decode cX9_init 110 = .ok (.iload_n 1, 1) := by decide +kernel
theorem dX9_init_111 : decode cX9_init 111 = .ok (.iload_n 1, 1) := by decide +kernel
theorem dX9_init_112 : decode cX9_init 112 = .ok (.bipush 7, 2) := by decide +kernel
theorem dX9_init_114 : decode cX9_init 114 = .ok (.irem, 1) := by decide +kernel
theorem dX9_init_115 : decode cX9_init 115 = .ok (.iastore, 1) := by decide +kernel
theorem dX9_init_116 : decode cX9_init 116 = .ok (.iinc 1 1, 3) := by decide +kernel
theorem dX9_init_119 : decode cX9_init 119 = .ok (.goto (-19), 3) := by decide +kernel
theorem dX9_init_122 : decode cX9_init 122 = .ok (.return_, 1) := by decide +kernel
theorem dX9_has_0 : decode cX9_has 0 = .ok (.iload_n 1, 1) := by decide +kernel
theorem dX9_has_1 : decode cX9_has 1 = .ok (.ifCond .lt 15, 3) := by decide +kernel
theorem dX9_has_4 : decode cX9_has 4 = .ok (.iload_n 1, 1) := by decide +kernel
theorem dX9_has_5 : decode cX9_has 5 = .ok (.aload_n 0, 1) := by decide +kernel
theorem dX9_has_6 : decode cX9_has 6 = .ok (.getfield 49, 3) := by decide +kernel
theorem dX9_has_9 : decode cX9_has 9 = .ok (.if_icmp .ge 7, 3) := by decide +kernel
theorem dX9_has_12 : decode cX9_has 12 = .ok (.iconst 1, 1) := by decide +kernel
theorem dX9_has_13 : decode cX9_has 13 = .ok (.goto 4, 3) := by decide +kernel
theorem dX9_has_16 : decode cX9_has 16 = .ok (.iconst 0, 1) := by decide +kernel
theorem dX9_has_17 : decode cX9_has 17 = .ok (.ireturn, 1) := by decide +kernel
theorem dX9_hasCall_0 : decode cX9_hasCall 0 = .ok (.aload_n 0, 1) := by decide +kernel
theorem dX9_hasCall_1 : decode cX9_hasCall 1 = .ok (.iload_n 1, 1) := by decide +kernel
theorem dX9_hasCall_2 : decode cX9_hasCall 2 = .ok (.invokevirtual 53, 3) := by decide +kernel
theorem dX9_hasCall_5 : decode cX9_hasCall 5 = .ok (.ifCond .eq 21, 3) := by decide +kernel
theorem dX9_hasCall_8 : decode cX9_hasCall 8 = .ok (.iload_n 2, 1) := by decide +kernel
theorem dX9_hasCall_9 : decode cX9_hasCall 9 = .ok (.ifCond .lt 17, 3) := by decide +kernel
theorem dX9_hasCall_12 : decode cX9_hasCall 12 = .ok (.iload_n 2, 1) := by decide +kernel
theorem dX9_hasCall_13 : decode cX9_hasCall 13 = .ok (.aload_n 0, 1) := by decide +kernel
theorem dX9_hasCall_14 : decode cX9_hasCall 14 = .ok (.getfield 21, 3) := by decide +kernel
theorem dX9_hasCall_17 : decode cX9_hasCall 17 = .ok (.iload_n 1, 1) := by decide +kernel
theorem dX9_hasCall_18 : decode cX9_hasCall 18 = .ok (.iaload, 1) := by decide +kernel
theorem dX9_hasCall_19 : decode cX9_hasCall 19 = .ok (.if_icmp .ge 7, 3) := by decide +kernel
theorem dX9_hasCall_22 : decode cX9_hasCall 22 = .ok (.iconst 1, 1) := by decide +kernel
theorem dX9_hasCall_23 : decode cX9_hasCall 23 = .ok (.goto 4, 3) := by decide +kernel
theorem dX9_hasCall_26 : decode cX9_hasCall 26 = .ok (.iconst 0, 1) := by decide +kernel
theorem dX9_hasCall_27 : decode cX9_hasCall 27 = .ok (.ireturn, 1) := by decide +kernel
theorem dX9_add_0 : decode cX9_add 0 = .ok (.aload_n 0, 1) := by decide +kernel
theorem dX9_add_1 : decode cX9_add 1 = .ok (.getfield 49, 3) := by decide +kernel
theorem dX9_add_4 : decode cX9_add 4 = .ok (.bipush 24, 2) := by decide +kernel
theorem dX9_add_6 : decode cX9_add 6 = .ok (.if_icmp .lt 6, 3) := by decide +kernel
theorem dX9_add_9 : decode cX9_add 9 = .ok (.bipush (-2), 2) := by decide +kernel
theorem dX9_add_11 : decode cX9_add 11 = .ok (.ireturn, 1) := by decide +kernel
theorem dX9_add_12 : decode cX9_add 12 = .ok (.aload_n 0, 1) := by decide +kernel
theorem dX9_add_13 : decode cX9_add 13 = .ok (.getfield 9, 3) := by decide +kernel
theorem dX9_add_16 : decode cX9_add 16 = .ok (.aload_n 0, 1) := by decide +kernel
theorem dX9_add_17 : decode cX9_add 17 = .ok (.getfield 49, 3) := by decide +kernel
theorem dX9_add_20 : decode cX9_add 20 = .ok (.iload_n 1, 1) := by decide +kernel
theorem dX9_add_21 : decode cX9_add 21 = .ok (.iastore, 1) := by decide +kernel
theorem dX9_add_22 : decode cX9_add 22 = .ok (.aload_n 0, 1) := by decide +kernel
theorem dX9_add_23 : decode cX9_add 23 = .ok (.getfield 15, 3) := by decide +kernel
theorem dX9_add_26 : decode cX9_add 26 = .ok (.aload_n 0, 1) := by decide +kernel
theorem dX9_add_27 : decode cX9_add 27 = .ok (.getfield 49, 3) := by decide +kernel
theorem dX9_add_30 : decode cX9_add 30 = .ok (.iload_n 2, 1) := by decide +kernel
theorem dX9_add_31 : decode cX9_add 31 = .ok (.iastore, 1) := by decide +kernel
theorem dX9_add_32 : decode cX9_add 32 = .ok (.aload_n 0, 1) := by decide +kernel
theorem dX9_add_33 : decode cX9_add 33 = .ok (.getfield 18, 3) := by decide +kernel
theorem dX9_add_36 : decode cX9_add 36 = .ok (.aload_n 0, 1) := by decide +kernel
theorem dX9_add_37 : decode cX9_add 37 = .ok (.getfield 49, 3) := by decide +kernel
theorem dX9_add_40 : decode cX9_add 40 = .ok (.iload_n 3, 1) := by decide +kernel
theorem dX9_add_41 : decode cX9_add 41 = .ok (.iastore, 1) := by decide +kernel
theorem dX9_add_42 : decode cX9_add 42 = .ok (.aload_n 0, 1) := by decide +kernel
theorem dX9_add_43 : decode cX9_add 43 = .ok (.dup, 1) := by decide +kernel
theorem dX9_add_44 : decode cX9_add 44 = .ok (.getfield 49, 3) := by decide +kernel
theorem dX9_add_47 : decode cX9_add 47 = .ok (.dup_x1, 1) := by decide +kernel
theorem dX9_add_48 : decode cX9_add 48 = .ok (.iconst 1, 1) := by decide +kernel
theorem dX9_add_49 : decode cX9_add 49 = .ok (.iadd, 1) := by decide +kernel
theorem dX9_add_50 : decode cX9_add 50 = .ok (.putfield 49, 3) := by decide +kernel
theorem dX9_add_53 : decode cX9_add 53 = .ok (.ireturn, 1) := by decide +kernel
theorem dX9_addCall_0 : decode cX9_addCall 0 = .ok (.aload_n 0, 1) := by decide +kernel
theorem dX9_addCall_1 : decode cX9_addCall 1 = .ok (.getfield 21, 3) := by decide +kernel
theorem dX9_addCall_4 : decode cX9_addCall 4 = .ok (.iload_n 1, 1) := by decide +kernel
theorem dX9_addCall_5 : decode cX9_addCall 5 = .ok (.iaload, 1) := by decide +kernel
theorem dX9_addCall_6 : decode cX9_addCall 6 = .ok (.istore 5, 2) := by decide +kernel
theorem dX9_addCall_8 : decode cX9_addCall 8 = .ok (.iload 5, 2) := by decide +kernel
theorem dX9_addCall_10 : decode cX9_addCall 10 = .ok (.bipush 8, 2) := by decide +kernel
theorem dX9_addCall_12 : decode cX9_addCall 12 = .ok (.if_icmp .lt 6, 3) := by decide +kernel
theorem dX9_addCall_15 : decode cX9_addCall 15 = .ok (.bipush (-2), 2) := by decide +kernel
theorem dX9_addCall_17 : decode cX9_addCall 17 = .ok (.ireturn, 1) := by decide +kernel
theorem dX9_addCall_18 : decode cX9_addCall 18 = .ok (.iload_n 1, 1) := by decide +kernel
theorem dX9_addCall_19 : decode cX9_addCall 19 = .ok (.bipush 8, 2) := by decide +kernel
theorem dX9_addCall_21 : decode cX9_addCall 21 = .ok (.imul, 1) := by decide +kernel
theorem dX9_addCall_22 : decode cX9_addCall 22 = .ok (.iload 5, 2) := by decide +kernel
theorem dX9_addCall_24 : decode cX9_addCall 24 = .ok (.iadd, 1) := by decide +kernel
theorem dX9_addCall_25 : decode cX9_addCall 25 = .ok (.istore 6, 2) := by decide +kernel
theorem dX9_addCall_27 : decode cX9_addCall 27 = .ok (.iload 5, 2) := by decide +kernel
theorem dX9_addCall_29 : decode cX9_addCall 29 = .ok (.ifCond .ne 7, 3) := by decide +kernel
theorem dX9_addCall_32 : decode cX9_addCall 32 = .ok (.iconst 0, 1) := by decide +kernel
theorem dX9_addCall_33 : decode cX9_addCall 33 = .ok (.goto 12, 3) := by decide +kernel
theorem dX9_addCall_36 : decode cX9_addCall 36 = .ok (.aload_n 0, 1) := by decide +kernel
theorem dX9_addCall_37 : decode cX9_addCall 37 = .ok (.getfield 33, 3) := by decide +kernel
theorem dX9_addCall_40 : decode cX9_addCall 40 = .ok (.iload 6, 2) := by decide +kernel
theorem dX9_addCall_42 : decode cX9_addCall 42 = .ok (.iconst 1, 1) := by decide +kernel
theorem dX9_addCall_43 : decode cX9_addCall 43 = .ok (.isub, 1) := by decide +kernel
theorem dX9_addCall_44 : decode cX9_addCall 44 = .ok (.iaload, 1) := by decide +kernel
theorem dX9_addCall_45 : decode cX9_addCall 45 = .ok (.istore 7, 2) := by decide +kernel
theorem dX9_addCall_47 : decode cX9_addCall 47 = .ok (.aload_n 0, 1) := by decide +kernel
theorem dX9_addCall_48 : decode cX9_addCall 48 = .ok (.getfield 9, 3) := by decide +kernel
theorem dX9_addCall_51 : decode cX9_addCall 51 = .ok (.iload_n 1, 1) := by decide +kernel
theorem dX9_addCall_52 : decode cX9_addCall 52 = .ok (.iaload, 1) := by decide +kernel
theorem dX9_addCall_53 : decode cX9_addCall 53 = .ok (.iconst 2, 1) := by decide +kernel
theorem dX9_addCall_54 : decode cX9_addCall 54 = .ok (.if_icmp .ne 9, 3) := by decide +kernel
theorem dX9_addCall_57 : decode cX9_addCall 57 = .ok (.sipush 2879, 3) := by decide +kernel
theorem dX9_addCall_60 : decode cX9_addCall 60 = .ok (.goto 6, 3) := by decide +kernel
theorem dX9_addCall_63 : decode cX9_addCall 63 = .ok (.sipush 1439, 3) := by decide +kernel
theorem dX9_addCall_66 : decode cX9_addCall 66 = .ok (.istore 8, 2) := by decide +kernel
theorem dX9_addCall_68 : decode cX9_addCall 68 = .ok (.iload_n 3, 1) := by decide +kernel
theorem dX9_addCall_69 : decode cX9_addCall 69 = .ok (.iload 7, 2) := by decide +kernel
theorem dX9_addCall_71 : decode cX9_addCall 71 = .ok (.if_icmp .lt 16, 3) := by decide +kernel
theorem dX9_addCall_74 : decode cX9_addCall 74 = .ok (.iload 4, 2) := by decide +kernel
theorem dX9_addCall_76 : decode cX9_addCall 76 = .ok (.iload_n 3, 1) := by decide +kernel
theorem dX9_addCall_77 : decode cX9_addCall 77 = .ok (.if_icmp .lt 10, 3) := by decide +kernel
theorem dX9_addCall_80 : decode cX9_addCall 80 = .ok (.iload 4, 2) := by decide +kernel
theorem dX9_addCall_82 : decode cX9_addCall 82 = .ok (.iload 8, 2) := by decide +kernel
theorem dX9_addCall_84 : decode cX9_addCall 84 = .ok (.if_icmp .le 6, 3) := by decide +kernel
theorem dX9_addCall_87 : decode cX9_addCall 87 = .ok (.bipush (-2), 2) := by decide +kernel
theorem dX9_addCall_89 : decode cX9_addCall 89 = .ok (.ireturn, 1) := by decide +kernel
theorem dX9_addCall_90 : decode cX9_addCall 90 = .ok (.aload_n 0, 1) := by decide +kernel
theorem dX9_addCall_91 : decode cX9_addCall 91 = .ok (.getfield 27, 3) := by decide +kernel
theorem dX9_addCall_94 : decode cX9_addCall 94 = .ok (.iload 6, 2) := by decide +kernel
theorem dX9_addCall_96 : decode cX9_addCall 96 = .ok (.iload_n 2, 1) := by decide +kernel
theorem dX9_addCall_97 : decode cX9_addCall 97 = .ok (.iastore, 1) := by decide +kernel
theorem dX9_addCall_98 : decode cX9_addCall 98 = .ok (.aload_n 0, 1) := by decide +kernel
theorem dX9_addCall_99 : decode cX9_addCall 99 = .ok (.getfield 30, 3) := by decide +kernel
theorem dX9_addCall_102 : decode cX9_addCall 102 = .ok (.iload 6, 2) := by decide +kernel
theorem dX9_addCall_104 : decode cX9_addCall 104 = .ok (.iload_n 3, 1) := by decide +kernel
theorem dX9_addCall_105 : decode cX9_addCall 105 = .ok (.iastore, 1) := by decide +kernel
theorem dX9_addCall_106 : decode cX9_addCall 106 = .ok (.aload_n 0, 1) := by decide +kernel
theorem dX9_addCall_107 : decode cX9_addCall 107 = .ok (.getfield 33, 3) := by decide +kernel
theorem dX9_addCall_110 : decode cX9_addCall 110 = .ok (.iload 6, 2) := by decide +kernel
theorem dX9_addCall_112 : decode cX9_addCall 112 = .ok (.iload 4, 2) := by decide +kernel
theorem dX9_addCall_114 : decode cX9_addCall 114 = .ok (.iastore, 1) := by decide +kernel
theorem dX9_addCall_115 : decode cX9_addCall 115 = .ok (.aload_n 0, 1) := by decide +kernel
theorem dX9_addCall_116 : decode cX9_addCall 116 = .ok (.getfield 21, 3) := by decide +kernel
theorem dX9_addCall_119 : decode cX9_addCall 119 = .ok (.iload_n 1, 1) := by decide +kernel
theorem dX9_addCall_120 : decode cX9_addCall 120 = .ok (.dup2, 1) := by decide +kernel
theorem dX9_addCall_121 : decode cX9_addCall 121 = .ok (.iaload, 1) := by decide +kernel
theorem dX9_addCall_122 : decode cX9_addCall 122 = .ok (.iconst 1, 1) := by decide +kernel
theorem dX9_addCall_123 : decode cX9_addCall 123 = .ok (.iadd, 1) := by decide +kernel
theorem dX9_addCall_124 : decode cX9_addCall 124 = .ok (.iastore, 1) := by decide +kernel
theorem dX9_addCall_125 : decode cX9_addCall 125 = .ok (.iload 5, 2) := by decide +kernel
theorem dX9_addCall_127 : decode cX9_addCall 127 = .ok (.ireturn, 1) := by decide +kernel
theorem dX9_setMissed_0 : decode cX9_setMissed 0 = .ok (.aload_n 0, 1) := by decide +kernel
theorem dX9_setMissed_1 : decode cX9_setMissed 1 = .ok (.getfield 24, 3) := by decide +kernel
theorem dX9_setMissed_4 : decode cX9_setMissed 4 = .ok (.iload_n 1, 1) := by decide +kernel
theorem dX9_setMissed_5 : decode cX9_setMissed 5 = .ok (.iaload, 1) := by decide +kernel
theorem dX9_setMissed_6 : decode cX9_setMissed 6 = .ok (.iload_n 2, 1) := by decide +kernel
theorem dX9_setMissed_7 : decode cX9_setMissed 7 = .ok (.ishr, 1) := by decide +kernel
theorem dX9_setMissed_8 : decode cX9_setMissed 8 = .ok (.iconst 1, 1) := by decide +kernel
theorem dX9_setMissed_9 : decode cX9_setMissed 9 = .ok (.iand, 1) := by decide +kernel
theorem dX9_setMissed_10 : decode cX9_setMissed 10 = .ok (.istore 4, 2) := by decide +kernel
theorem dX9_setMissed_12 : decode cX9_setMissed 12 = .ok (.aload_n 0, 1) := by decide +kernel
theorem dX9_setMissed_13 : decode cX9_setMissed 13 = .ok (.getfield 24, 3) := by decide +kernel
theorem dX9_setMissed_16 : decode cX9_setMissed 16 = .ok (.iload_n 1, 1) := by decide +kernel
theorem dX9_setMissed_17 : decode cX9_setMissed 17 = .ok (.iload_n 3, 1) := by decide +kernel
theorem dX9_setMissed_18 : decode cX9_setMissed 18 = .ok (.ifCond .eq 16, 3) := by decide +kernel
theorem dX9_setMissed_21 : decode cX9_setMissed 21 = .ok (.aload_n 0, 1) := by decide +kernel
theorem dX9_setMissed_22 : decode cX9_setMissed 22 = .ok (.getfield 24, 3) := by decide +kernel
theorem dX9_setMissed_25 : decode cX9_setMissed 25 = .ok (.iload_n 1, 1) := by decide +kernel
theorem dX9_setMissed_26 : decode cX9_setMissed 26 = .ok (.iaload, 1) := by decide +kernel
theorem dX9_setMissed_27 : decode cX9_setMissed 27 = .ok (.iconst 1, 1) := by decide +kernel
theorem dX9_setMissed_28 : decode cX9_setMissed 28 = .ok (.iload_n 2, 1) := by decide +kernel
theorem dX9_setMissed_29 : decode cX9_setMissed 29 = .ok (.ishl, 1) := by decide +kernel
theorem dX9_setMissed_30 : decode cX9_setMissed 30 = .ok (.ior, 1) := by decide +kernel
theorem dX9_setMissed_31 : decode cX9_setMissed 31 = .ok (.goto 15, 3) := by decide +kernel
theorem dX9_setMissed_34 : decode cX9_setMissed 34 = .ok (.aload_n 0, 1) := by decide +kernel
theorem dX9_setMissed_35 : decode cX9_setMissed 35 = .ok (.getfield 24, 3) := by decide +kernel
theorem dX9_setMissed_38 : decode cX9_setMissed 38 = .ok (.iload_n 1, 1) := by decide +kernel
theorem dX9_setMissed_39 : decode cX9_setMissed 39 = .ok (.iaload, 1) := by decide +kernel
theorem dX9_setMissed_40 : decode cX9_setMissed 40 = .ok (.iconst 1, 1) := by decide +kernel
theorem dX9_setMissed_41 : decode cX9_setMissed 41 = .ok (.iload_n 2, 1) := by decide +kernel
theorem dX9_setMissed_42 : decode cX9_setMissed 42 = .ok (.ishl, 1) := by decide +kernel
theorem dX9_setMissed_43 : decode cX9_setMissed 43 = .ok (.iconst (-1), 1) := by decide +kernel
theorem dX9_setMissed_44 : decode cX9_setMissed 44 = .ok (.ixor, 1) := by decide +kernel
theorem dX9_setMissed_45 : decode cX9_setMissed 45 = .ok (.iand, 1) := by decide +kernel
theorem dX9_setMissed_46 : decode cX9_setMissed 46 = .ok (.iastore, 1) := by decide +kernel
theorem dX9_setMissed_47 : decode cX9_setMissed 47 = .ok (.iload 4, 2) := by decide +kernel
theorem dX9_setMissed_49 : decode cX9_setMissed 49 = .ok (.ireturn, 1) := by decide +kernel
theorem dX9_setGone_0 : decode cX9_setGone 0 = .ok (.aload_n 0, 1) := by decide +kernel
theorem dX9_setGone_1 : decode cX9_setGone 1 = .ok (.getfield 39, 3) := by decide +kernel
theorem dX9_setGone_4 : decode cX9_setGone 4 = .ok (.iload_n 2, 1) := by decide +kernel
theorem dX9_setGone_5 : decode cX9_setGone 5 = .ok (.iaload, 1) := by decide +kernel
theorem dX9_setGone_6 : decode cX9_setGone 6 = .ok (.iload_n 1, 1) := by decide +kernel
theorem dX9_setGone_7 : decode cX9_setGone 7 = .ok (.ishr, 1) := by decide +kernel
theorem dX9_setGone_8 : decode cX9_setGone 8 = .ok (.iconst 1, 1) := by decide +kernel
theorem dX9_setGone_9 : decode cX9_setGone 9 = .ok (.iand, 1) := by decide +kernel
theorem dX9_setGone_10 : decode cX9_setGone 10 = .ok (.istore 4, 2) := by decide +kernel
theorem dX9_setGone_12 : decode cX9_setGone 12 = .ok (.aload_n 0, 1) := by decide +kernel
theorem dX9_setGone_13 : decode cX9_setGone 13 = .ok (.getfield 39, 3) := by decide +kernel
theorem dX9_setGone_16 : decode cX9_setGone 16 = .ok (.iload_n 2, 1) := by decide +kernel
theorem dX9_setGone_17 : decode cX9_setGone 17 = .ok (.iload_n 3, 1) := by decide +kernel
theorem dX9_setGone_18 : decode cX9_setGone 18 = .ok (.ifCond .eq 16, 3) := by decide +kernel
theorem dX9_setGone_21 : decode cX9_setGone 21 = .ok (.aload_n 0, 1) := by decide +kernel
theorem dX9_setGone_22 : decode cX9_setGone 22 = .ok (.getfield 39, 3) := by decide +kernel
theorem dX9_setGone_25 : decode cX9_setGone 25 = .ok (.iload_n 2, 1) := by decide +kernel
theorem dX9_setGone_26 : decode cX9_setGone 26 = .ok (.iaload, 1) := by decide +kernel
theorem dX9_setGone_27 : decode cX9_setGone 27 = .ok (.iconst 1, 1) := by decide +kernel
theorem dX9_setGone_28 : decode cX9_setGone 28 = .ok (.iload_n 1, 1) := by decide +kernel
theorem dX9_setGone_29 : decode cX9_setGone 29 = .ok (.ishl, 1) := by decide +kernel
theorem dX9_setGone_30 : decode cX9_setGone 30 = .ok (.ior, 1) := by decide +kernel
theorem dX9_setGone_31 : decode cX9_setGone 31 = .ok (.goto 15, 3) := by decide +kernel
theorem dX9_setGone_34 : decode cX9_setGone 34 = .ok (.aload_n 0, 1) := by decide +kernel
theorem dX9_setGone_35 : decode cX9_setGone 35 = .ok (.getfield 39, 3) := by decide +kernel
theorem dX9_setGone_38 : decode cX9_setGone 38 = .ok (.iload_n 2, 1) := by decide +kernel
theorem dX9_setGone_39 : decode cX9_setGone 39 = .ok (.iaload, 1) := by decide +kernel
theorem dX9_setGone_40 : decode cX9_setGone 40 = .ok (.iconst 1, 1) := by decide +kernel
theorem dX9_setGone_41 : decode cX9_setGone 41 = .ok (.iload_n 1, 1) := by decide +kernel
theorem dX9_setGone_42 : decode cX9_setGone 42 = .ok (.ishl, 1) := by decide +kernel
theorem dX9_setGone_43 : decode cX9_setGone 43 = .ok (.iconst (-1), 1) := by decide +kernel
theorem dX9_setGone_44 : decode cX9_setGone 44 = .ok (.ixor, 1) := by decide +kernel
theorem dX9_setGone_45 : decode cX9_setGone 45 = .ok (.iand, 1) := by decide +kernel
theorem dX9_setGone_46 : decode cX9_setGone 46 = .ok (.iastore, 1) := by decide +kernel
theorem dX9_setGone_47 : decode cX9_setGone 47 = .ok (.iload 4, 2) := by decide +kernel
theorem dX9_setGone_49 : decode cX9_setGone 49 = .ok (.ireturn, 1) := by decide +kernel
theorem dX9_isOpen_0 : decode cX9_isOpen 0 = .ok (.aload_n 0, 1) := by decide +kernel
theorem dX9_isOpen_1 : decode cX9_isOpen 1 = .ok (.getfield 24, 3) := by decide +kernel
theorem dX9_isOpen_4 : decode cX9_isOpen 4 = .ok (.iload_n 1, 1) := by decide +kernel
theorem dX9_isOpen_5 : decode cX9_isOpen 5 = .ok (.iaload, 1) := by decide +kernel
theorem dX9_isOpen_6 : decode cX9_isOpen 6 = .ok (.iload_n 2, 1) := by decide +kernel
theorem dX9_isOpen_7 : decode cX9_isOpen 7 = .ok (.ishr, 1) := by decide +kernel
theorem dX9_isOpen_8 : decode cX9_isOpen 8 = .ok (.iconst 1, 1) := by decide +kernel
theorem dX9_isOpen_9 : decode cX9_isOpen 9 = .ok (.iand, 1) := by decide +kernel
theorem dX9_isOpen_10 : decode cX9_isOpen 10 = .ok (.ifCond .ne 7, 3) := by decide +kernel
theorem dX9_isOpen_13 : decode cX9_isOpen 13 = .ok (.iconst 1, 1) := by decide +kernel
theorem dX9_isOpen_14 : decode cX9_isOpen 14 = .ok (.goto 4, 3) := by decide +kernel
theorem dX9_isOpen_17 : decode cX9_isOpen 17 = .ok (.iconst 0, 1) := by decide +kernel
theorem dX9_isOpen_18 : decode cX9_isOpen 18 = .ok (.ireturn, 1) := by decide +kernel
theorem dX9_runsOn_0 : decode cX9_runsOn 0 = .ok (.aload_n 0, 1) := by decide +kernel
theorem dX9_runsOn_1 : decode cX9_runsOn 1 = .ok (.getfield 15, 3) := by decide +kernel
theorem dX9_runsOn_4 : decode cX9_runsOn 4 = .ok (.iload_n 1, 1) := by decide +kernel
theorem dX9_runsOn_5 : decode cX9_runsOn 5 = .ok (.iaload, 1) := by decide +kernel
theorem dX9_runsOn_6 : decode cX9_runsOn 6 = .ok (.aload_n 0, 1) := by decide +kernel
theorem dX9_runsOn_7 : decode cX9_runsOn 7 = .ok (.getfield 36, 3) := by decide +kernel
theorem dX9_runsOn_10 : decode cX9_runsOn 10 = .ok (.iload_n 2, 1) := by decide +kernel
theorem dX9_runsOn_11 : decode cX9_runsOn 11 = .ok (.iaload, 1) := by decide +kernel
theorem dX9_runsOn_12 : decode cX9_runsOn 12 = .ok (.ishr, 1) := by decide +kernel
theorem dX9_runsOn_13 : decode cX9_runsOn 13 = .ok (.iconst 1, 1) := by decide +kernel
theorem dX9_runsOn_14 : decode cX9_runsOn 14 = .ok (.iand, 1) := by decide +kernel
theorem dX9_runsOn_15 : decode cX9_runsOn 15 = .ok (.ifCond .eq 20, 3) := by decide +kernel
theorem dX9_runsOn_18 : decode cX9_runsOn 18 = .ok (.aload_n 0, 1) := by decide +kernel
theorem dX9_runsOn_19 : decode cX9_runsOn 19 = .ok (.getfield 39, 3) := by decide +kernel
theorem dX9_runsOn_22 : decode cX9_runsOn 22 = .ok (.iload_n 2, 1) := by decide +kernel
theorem dX9_runsOn_23 : decode cX9_runsOn 23 = .ok (.iaload, 1) := by decide +kernel
theorem dX9_runsOn_24 : decode cX9_runsOn 24 = .ok (.iload_n 1, 1) := by decide +kernel
theorem dX9_runsOn_25 : decode cX9_runsOn 25 = .ok (.ishr, 1) := by decide +kernel
theorem dX9_runsOn_26 : decode cX9_runsOn 26 = .ok (.iconst 1, 1) := by decide +kernel
theorem dX9_runsOn_27 : decode cX9_runsOn 27 = .ok (.iand, 1) := by decide +kernel
theorem dX9_runsOn_28 : decode cX9_runsOn 28 = .ok (.ifCond .ne 7, 3) := by decide +kernel
theorem dX9_runsOn_31 : decode cX9_runsOn 31 = .ok (.iconst 1, 1) := by decide +kernel
theorem dX9_runsOn_32 : decode cX9_runsOn 32 = .ok (.goto 4, 3) := by decide +kernel
theorem dX9_runsOn_35 : decode cX9_runsOn 35 = .ok (.iconst 0, 1) := by decide +kernel
theorem dX9_runsOn_36 : decode cX9_runsOn 36 = .ok (.ireturn, 1) := by decide +kernel
theorem dX9_comesAt_0 : decode cX9_comesAt 0 = .ok (.sipush 1440, 3) := by decide +kernel
theorem dX9_comesAt_3 : decode cX9_comesAt 3 = .ok (.iload_n 2, 1) := by decide +kernel
theorem dX9_comesAt_4 : decode cX9_comesAt 4 = .ok (.imul, 1) := by decide +kernel
theorem dX9_comesAt_5 : decode cX9_comesAt 5 = .ok (.aload_n 0, 1) := by decide +kernel
theorem dX9_comesAt_6 : decode cX9_comesAt 6 = .ok (.getfield 30, 3) := by decide +kernel
theorem dX9_comesAt_9 : decode cX9_comesAt 9 = .ok (.iload_n 1, 1) := by decide +kernel
theorem dX9_comesAt_10 : decode cX9_comesAt 10 = .ok (.bipush 8, 2) := by decide +kernel
theorem dX9_comesAt_12 : decode cX9_comesAt 12 = .ok (.imul, 1) := by decide +kernel
theorem dX9_comesAt_13 : decode cX9_comesAt 13 = .ok (.iload_n 3, 1) := by decide +kernel
theorem dX9_comesAt_14 : decode cX9_comesAt 14 = .ok (.iadd, 1) := by decide +kernel
theorem dX9_comesAt_15 : decode cX9_comesAt 15 = .ok (.iaload, 1) := by decide +kernel
theorem dX9_comesAt_16 : decode cX9_comesAt 16 = .ok (.iadd, 1) := by decide +kernel
theorem dX9_comesAt_17 : decode cX9_comesAt 17 = .ok (.aload_n 0, 1) := by decide +kernel
theorem dX9_comesAt_18 : decode cX9_comesAt 18 = .ok (.getfield 45, 3) := by decide +kernel
theorem dX9_comesAt_21 : decode cX9_comesAt 21 = .ok (.iload_n 1, 1) := by decide +kernel
theorem dX9_comesAt_22 : decode cX9_comesAt 22 = .ok (.iload_n 2, 1) := by decide +kernel
theorem dX9_comesAt_23 : decode cX9_comesAt 23 = .ok (.iload_n 3, 1) := by decide +kernel
theorem dX9_comesAt_24 : decode cX9_comesAt 24 = .ok (.invokevirtual 57, 3) := by decide +kernel
theorem dX9_comesAt_27 : decode cX9_comesAt 27 = .ok (.iadd, 1) := by decide +kernel
theorem dX9_comesAt_28 : decode cX9_comesAt 28 = .ok (.ireturn, 1) := by decide +kernel
theorem dX9_leavesAt_0 : decode cX9_leavesAt 0 = .ok (.sipush 1440, 3) := by decide +kernel
theorem dX9_leavesAt_3 : decode cX9_leavesAt 3 = .ok (.iload_n 2, 1) := by decide +kernel
theorem dX9_leavesAt_4 : decode cX9_leavesAt 4 = .ok (.imul, 1) := by decide +kernel
theorem dX9_leavesAt_5 : decode cX9_leavesAt 5 = .ok (.aload_n 0, 1) := by decide +kernel
theorem dX9_leavesAt_6 : decode cX9_leavesAt 6 = .ok (.getfield 33, 3) := by decide +kernel
theorem dX9_leavesAt_9 : decode cX9_leavesAt 9 = .ok (.iload_n 1, 1) := by decide +kernel
theorem dX9_leavesAt_10 : decode cX9_leavesAt 10 = .ok (.bipush 8, 2) := by decide +kernel
theorem dX9_leavesAt_12 : decode cX9_leavesAt 12 = .ok (.imul, 1) := by decide +kernel
theorem dX9_leavesAt_13 : decode cX9_leavesAt 13 = .ok (.iload_n 3, 1) := by decide +kernel
theorem dX9_leavesAt_14 : decode cX9_leavesAt 14 = .ok (.iadd, 1) := by decide +kernel
theorem dX9_leavesAt_15 : decode cX9_leavesAt 15 = .ok (.iaload, 1) := by decide +kernel
theorem dX9_leavesAt_16 : decode cX9_leavesAt 16 = .ok (.iadd, 1) := by decide +kernel
theorem dX9_leavesAt_17 : decode cX9_leavesAt 17 = .ok (.aload_n 0, 1) := by decide +kernel
theorem dX9_leavesAt_18 : decode cX9_leavesAt 18 = .ok (.getfield 45, 3) := by decide +kernel
theorem dX9_leavesAt_21 : decode cX9_leavesAt 21 = .ok (.iload_n 1, 1) := by decide +kernel
theorem dX9_leavesAt_22 : decode cX9_leavesAt 22 = .ok (.iload_n 2, 1) := by decide +kernel
theorem dX9_leavesAt_23 : decode cX9_leavesAt 23 = .ok (.iload_n 3, 1) := by decide +kernel
theorem dX9_leavesAt_24 : decode cX9_leavesAt 24 = .ok (.invokevirtual 57, 3) := by decide +kernel
theorem dX9_leavesAt_27 : decode cX9_leavesAt 27 = .ok (.iadd, 1) := by decide +kernel
theorem dX9_leavesAt_28 : decode cX9_leavesAt 28 = .ok (.ireturn, 1) := by decide +kernel
theorem dX10_init_0 : decode cX10_init 0 = .ok (.aload_n 0, 1) := by decide +kernel
theorem dX10_init_1 : decode cX10_init 1 = .ok (.invokespecial 3, 3) := by decide +kernel
theorem dX10_init_4 : decode cX10_init 4 = .ok (.aload_n 0, 1) := by decide +kernel
theorem dX10_init_5 : decode cX10_init 5 = .ok (.bipush 20, 2) := by decide +kernel
theorem dX10_init_7 : decode cX10_init 7 = .ok (.newarray .int, 2) := by decide +kernel
theorem dX10_init_9 : decode cX10_init 9 = .ok (.putfield 9, 3) := by decide +kernel
theorem dX10_init_12 : decode cX10_init 12 = .ok (.aload_n 0, 1) := by decide +kernel
theorem dX10_init_13 : decode cX10_init 13 = .ok (.bipush 20, 2) := by decide +kernel
theorem dX10_init_15 : decode cX10_init 15 = .ok (.newarray .int, 2) := by decide +kernel
theorem dX10_init_17 : decode cX10_init 17 = .ok (.putfield 15, 3) := by decide +kernel
theorem dX10_init_20 : decode cX10_init 20 = .ok (.aload_n 0, 1) := by decide +kernel
theorem dX10_init_21 : decode cX10_init 21 = .ok (.bipush 20, 2) := by decide +kernel
theorem dX10_init_23 : decode cX10_init 23 = .ok (.newarray .int, 2) := by decide +kernel
theorem dX10_init_25 : decode cX10_init 25 = .ok (.putfield 18, 3) := by decide +kernel
theorem dX10_init_28 : decode cX10_init 28 = .ok (.aload_n 0, 1) := by decide +kernel
theorem dX10_init_29 : decode cX10_init 29 = .ok (.bipush 20, 2) := by decide +kernel
theorem dX10_init_31 : decode cX10_init 31 = .ok (.newarray .int, 2) := by decide +kernel
theorem dX10_init_33 : decode cX10_init 33 = .ok (.putfield 21, 3) := by decide +kernel
theorem dX10_init_36 : decode cX10_init 36 = .ok (.aload_n 0, 1) := by decide +kernel
theorem dX10_init_37 : decode cX10_init 37 = .ok (.bipush 20, 2) := by decide +kernel
theorem dX10_init_39 : decode cX10_init 39 = .ok (.newarray .int, 2) := by decide +kernel
theorem dX10_init_41 : decode cX10_init 41 = .ok (.putfield 24, 3) := by decide +kernel
theorem dX10_init_44 : decode cX10_init 44 = .ok (.aload_n 0, 1) := by decide +kernel
theorem dX10_init_45 : decode cX10_init 45 = .ok (.bipush 20, 2) := by decide +kernel
theorem dX10_init_47 : decode cX10_init 47 = .ok (.newarray .int, 2) := by decide +kernel
theorem dX10_init_49 : decode cX10_init 49 = .ok (.putfield 27, 3) := by decide +kernel
theorem dX10_init_52 : decode cX10_init 52 = .ok (.aload_n 0, 1) := by decide +kernel
theorem dX10_init_53 : decode cX10_init 53 = .ok (.bipush 20, 2) := by decide +kernel
theorem dX10_init_55 : decode cX10_init 55 = .ok (.newarray .int, 2) := by decide +kernel
theorem dX10_init_57 : decode cX10_init 57 = .ok (.putfield 30, 3) := by decide +kernel
theorem dX10_init_60 : decode cX10_init 60 = .ok (.aload_n 0, 1) := by decide +kernel
theorem dX10_init_61 : decode cX10_init 61 = .ok (.bipush 20, 2) := by decide +kernel
theorem dX10_init_63 : decode cX10_init 63 = .ok (.newarray .int, 2) := by decide +kernel
theorem dX10_init_65 : decode cX10_init 65 = .ok (.putfield 33, 3) := by decide +kernel
theorem dX10_init_68 : decode cX10_init 68 = .ok (.return_, 1) := by decide +kernel
theorem dX10_has_0 : decode cX10_has 0 = .ok (.iload_n 1, 1) := by decide +kernel
theorem dX10_has_1 : decode cX10_has 1 = .ok (.ifCond .lt 15, 3) := by decide +kernel
theorem dX10_has_4 : decode cX10_has 4 = .ok (.iload_n 1, 1) := by decide +kernel
theorem dX10_has_5 : decode cX10_has 5 = .ok (.aload_n 0, 1) := by decide +kernel
theorem dX10_has_6 : decode cX10_has 6 = .ok (.getfield 36, 3) := by decide +kernel
theorem dX10_has_9 : decode cX10_has 9 = .ok (.if_icmp .ge 7, 3) := by decide +kernel
theorem dX10_has_12 : decode cX10_has 12 = .ok (.iconst 1, 1) := by decide +kernel
theorem dX10_has_13 : decode cX10_has 13 = .ok (.goto 4, 3) := by decide +kernel
theorem dX10_has_16 : decode cX10_has 16 = .ok (.iconst 0, 1) := by decide +kernel
theorem dX10_has_17 : decode cX10_has 17 = .ok (.ireturn, 1) := by decide +kernel
theorem dX10_add_0 : decode cX10_add 0 = .ok (.aload_n 0, 1) := by decide +kernel
theorem dX10_add_1 : decode cX10_add 1 = .ok (.getfield 36, 3) := by decide +kernel
theorem dX10_add_4 : decode cX10_add 4 = .ok (.bipush 20, 2) := by decide +kernel
theorem dX10_add_6 : decode cX10_add 6 = .ok (.if_icmp .lt 6, 3) := by decide +kernel
theorem dX10_add_9 : decode cX10_add 9 = .ok (.bipush (-2), 2) := by decide +kernel
theorem dX10_add_11 : decode cX10_add 11 = .ok (.ireturn, 1) := by decide +kernel
theorem dX10_add_12 : decode cX10_add 12 = .ok (.aload_n 0, 1) := by decide +kernel
theorem dX10_add_13 : decode cX10_add 13 = .ok (.getfield 9, 3) := by decide +kernel
theorem dX10_add_16 : decode cX10_add 16 = .ok (.aload_n 0, 1) := by decide +kernel
theorem dX10_add_17 : decode cX10_add 17 = .ok (.getfield 36, 3) := by decide +kernel
theorem dX10_add_20 : decode cX10_add 20 = .ok (.iload_n 1, 1) := by decide +kernel
theorem dX10_add_21 : decode cX10_add 21 = .ok (.iastore, 1) := by decide +kernel
theorem dX10_add_22 : decode cX10_add 22 = .ok (.aload_n 0, 1) := by decide +kernel
theorem dX10_add_23 : decode cX10_add 23 = .ok (.getfield 15, 3) := by decide +kernel
theorem dX10_add_26 : decode cX10_add 26 = .ok (.aload_n 0, 1) := by decide +kernel
theorem dX10_add_27 : decode cX10_add 27 = .ok (.getfield 36, 3) := by decide +kernel
theorem dX10_add_30 : decode cX10_add 30 = .ok (.iload_n 2, 1) := by decide +kernel
theorem dX10_add_31 : decode cX10_add 31 = .ok (.iastore, 1) := by decide +kernel
theorem dX10_add_32 : decode cX10_add 32 = .ok (.aload_n 0, 1) := by decide +kernel
theorem dX10_add_33 : decode cX10_add 33 = .ok (.getfield 18, 3) := by decide +kernel
theorem dX10_add_36 : decode cX10_add 36 = .ok (.aload_n 0, 1) := by decide +kernel
theorem dX10_add_37 : decode cX10_add 37 = .ok (.getfield 36, 3) := by decide +kernel
theorem dX10_add_40 : decode cX10_add 40 = .ok (.iload_n 3, 1) := by decide +kernel
theorem dX10_add_41 : decode cX10_add 41 = .ok (.iastore, 1) := by decide +kernel
theorem dX10_add_42 : decode cX10_add 42 = .ok (.aload_n 0, 1) := by decide +kernel
theorem dX10_add_43 : decode cX10_add 43 = .ok (.getfield 21, 3) := by decide +kernel
theorem dX10_add_46 : decode cX10_add 46 = .ok (.aload_n 0, 1) := by decide +kernel
theorem dX10_add_47 : decode cX10_add 47 = .ok (.getfield 36, 3) := by decide +kernel
theorem dX10_add_50 : decode cX10_add 50 = .ok (.iconst 3, 1) := by decide +kernel
theorem dX10_add_51 : decode cX10_add 51 = .ok (.iastore, 1) := by decide +kernel
theorem dX10_add_52 : decode cX10_add 52 = .ok (.aload_n 0, 1) := by decide +kernel
theorem dX10_add_53 : decode cX10_add 53 = .ok (.dup, 1) := by decide +kernel
theorem dX10_add_54 : decode cX10_add 54 = .ok (.getfield 36, 3) := by decide +kernel
theorem dX10_add_57 : decode cX10_add 57 = .ok (.dup_x1, 1) := by decide +kernel
theorem dX10_add_58 : decode cX10_add 58 = .ok (.iconst 1, 1) := by decide +kernel
theorem dX10_add_59 : decode cX10_add 59 = .ok (.iadd, 1) := by decide +kernel
theorem dX10_add_60 : decode cX10_add 60 = .ok (.putfield 36, 3) := by decide +kernel
theorem dX10_add_63 : decode cX10_add 63 = .ok (.ireturn, 1) := by decide +kernel
theorem dX10_makeShuttle_0 : decode cX10_makeShuttle 0 = .ok (.aload_n 0, 1) := by decide +kernel
theorem dX10_makeShuttle_1 : decode cX10_makeShuttle 1 = .ok (.getfield 21, 3) := by decide +kernel
theorem dX10_makeShuttle_4 : decode cX10_makeShuttle 4 = .ok (.iload_n 1, 1) := by decide +kernel
theorem dX10_makeShuttle_5 : decode cX10_makeShuttle 5 = .ok (.iaload, 1) := by decide +kernel
theorem dX10_makeShuttle_6 : decode cX10_makeShuttle 6 = .ok (.istore 5, 2) := by decide +kernel
theorem dX10_makeShuttle_8 : decode cX10_makeShuttle 8 = .ok (.aload_n 0, 1) := by decide +kernel
theorem dX10_makeShuttle_9 : decode cX10_makeShuttle 9 = .ok (.getfield 21, 3) := by decide +kernel
theorem dX10_makeShuttle_12 : decode cX10_makeShuttle 12 = .ok (.iload_n 1, 1) := by decide +kernel
theorem dX10_makeShuttle_13 : decode cX10_makeShuttle 13 = .ok (.iconst 4, 1) := by decide +kernel
theorem dX10_makeShuttle_14 : decode cX10_makeShuttle 14 = .ok (.iastore, 1) := by decide +kernel
theorem dX10_makeShuttle_15 : decode cX10_makeShuttle 15 = .ok (.aload_n 0, 1) := by decide +kernel
theorem dX10_makeShuttle_16 : decode cX10_makeShuttle 16 = .ok (.getfield 24, 3) := by decide +kernel
theorem dX10_makeShuttle_19 : decode cX10_makeShuttle 19 = .ok (.iload_n 1, 1) := by decide +kernel
theorem dX10_makeShuttle_20 : decode cX10_makeShuttle 20 = .ok (.iload_n 2, 1) := by decide +kernel
theorem dX10_makeShuttle_21 : decode cX10_makeShuttle 21 = .ok (.iastore, 1) := by decide +kernel
theorem dX10_makeShuttle_22 : decode cX10_makeShuttle 22 = .ok (.aload_n 0, 1) := by decide +kernel
theorem dX10_makeShuttle_23 : decode cX10_makeShuttle 23 = .ok (.getfield 27, 3) := by decide +kernel
theorem dX10_makeShuttle_26 : decode cX10_makeShuttle 26 = .ok (.iload_n 1, 1) := by decide +kernel
theorem dX10_makeShuttle_27 : decode cX10_makeShuttle 27 = .ok (.iload_n 3, 1) := by decide +kernel
theorem dX10_makeShuttle_28 : decode cX10_makeShuttle 28 = .ok (.iastore, 1) := by decide +kernel
theorem dX10_makeShuttle_29 : decode cX10_makeShuttle 29 = .ok (.aload_n 0, 1) := by decide +kernel
theorem dX10_makeShuttle_30 : decode cX10_makeShuttle 30 = .ok (.getfield 30, 3) := by decide +kernel
theorem dX10_makeShuttle_33 : decode cX10_makeShuttle 33 = .ok (.iload_n 1, 1) := by decide +kernel
theorem dX10_makeShuttle_34 : decode cX10_makeShuttle 34 = .ok (.iload 4, 2) := by decide +kernel
theorem dX10_makeShuttle_36 : decode cX10_makeShuttle 36 = .ok (.iastore, 1) := by decide +kernel
theorem dX10_makeShuttle_37 : decode cX10_makeShuttle 37 = .ok (.iload 5, 2) := by decide +kernel
theorem dX10_makeShuttle_39 : decode cX10_makeShuttle 39 = .ok (.ireturn, 1) := by decide +kernel
theorem dX10_makeAsked_0 : decode cX10_makeAsked 0 = .ok (.aload_n 0, 1) := by decide +kernel
theorem dX10_makeAsked_1 : decode cX10_makeAsked 1 = .ok (.getfield 21, 3) := by decide +kernel
theorem dX10_makeAsked_4 : decode cX10_makeAsked 4 = .ok (.iload_n 1, 1) := by decide +kernel
theorem dX10_makeAsked_5 : decode cX10_makeAsked 5 = .ok (.iaload, 1) := by decide +kernel
theorem dX10_makeAsked_6 : decode cX10_makeAsked 6 = .ok (.istore_n 3, 1) := by decide +kernel
theorem dX10_makeAsked_7 : decode cX10_makeAsked 7 = .ok (.aload_n 0, 1) := by decide +kernel
theorem dX10_makeAsked_8 : decode cX10_makeAsked 8 = .ok (.getfield 21, 3) := by decide +kernel
theorem dX10_makeAsked_11 : decode cX10_makeAsked 11 = .ok (.iload_n 1, 1) := by decide +kernel
theorem dX10_makeAsked_12 : decode cX10_makeAsked 12 = .ok (.iconst 5, 1) := by decide +kernel
theorem dX10_makeAsked_13 : decode cX10_makeAsked 13 = .ok (.iastore, 1) := by decide +kernel
theorem dX10_makeAsked_14 : decode cX10_makeAsked 14 = .ok (.aload_n 0, 1) := by decide +kernel
theorem dX10_makeAsked_15 : decode cX10_makeAsked 15 = .ok (.getfield 33, 3) := by decide +kernel
theorem dX10_makeAsked_18 : decode cX10_makeAsked 18 = .ok (.iload_n 1, 1) := by decide +kernel
theorem dX10_makeAsked_19 : decode cX10_makeAsked 19 = .ok (.iload_n 2, 1) := by decide +kernel
theorem dX10_makeAsked_20 : decode cX10_makeAsked 20 = .ok (.iastore, 1) := by decide +kernel
theorem dX10_makeAsked_21 : decode cX10_makeAsked 21 = .ok (.iload_n 3, 1) := by decide +kernel
theorem dX10_makeAsked_22 : decode cX10_makeAsked 22 = .ok (.ireturn, 1) := by decide +kernel
theorem dX10_beginsAt_0 : decode cX10_beginsAt 0 = .ok (.aload_n 0, 1) := by decide +kernel
theorem dX10_beginsAt_1 : decode cX10_beginsAt 1 = .ok (.getfield 21, 3) := by decide +kernel
theorem dX10_beginsAt_4 : decode cX10_beginsAt 4 = .ok (.iload_n 1, 1) := by decide +kernel
theorem dX10_beginsAt_5 : decode cX10_beginsAt 5 = .ok (.iaload, 1) := by decide +kernel
theorem dX10_beginsAt_6 : decode cX10_beginsAt 6 = .ok (.iconst 3, 1) := by decide +kernel
theorem dX10_beginsAt_7 : decode cX10_beginsAt 7 = .ok (.if_icmp .ne 5, 3) := by decide +kernel
theorem dX10_beginsAt_10 : decode cX10_beginsAt 10 = .ok (.iload_n 2, 1) := by decide +kernel
theorem dX10_beginsAt_11 : decode cX10_beginsAt 11 = .ok (.ireturn, 1) := by decide +kernel
theorem dX10_beginsAt_12 : decode cX10_beginsAt 12 = .ok (.aload_n 0, 1) := by decide +kernel
theorem dX10_beginsAt_13 : decode cX10_beginsAt 13 = .ok (.getfield 21, 3) := by decide +kernel
theorem dX10_beginsAt_16 : decode cX10_beginsAt 16 = .ok (.iload_n 1, 1) := by decide +kernel
theorem dX10_beginsAt_17 : decode cX10_beginsAt 17 = .ok (.iaload, 1) := by decide +kernel
theorem dX10_beginsAt_18 : decode cX10_beginsAt 18 = .ok (.iconst 5, 1) := by decide +kernel
theorem dX10_beginsAt_19 : decode cX10_beginsAt 19 = .ok (.if_icmp .ne 19, 3) := by decide +kernel
theorem dX10_beginsAt_22 : decode cX10_beginsAt 22 = .ok (.iload_n 2, 1) := by decide +kernel
theorem dX10_beginsAt_23 : decode cX10_beginsAt 23 = .ok (.iload_n 3, 1) := by decide +kernel
theorem dX10_beginsAt_24 : decode cX10_beginsAt 24 = .ok (.aload_n 0, 1) := by decide +kernel
theorem dX10_beginsAt_25 : decode cX10_beginsAt 25 = .ok (.getfield 33, 3) := by decide +kernel
theorem dX10_beginsAt_28 : decode cX10_beginsAt 28 = .ok (.iload_n 1, 1) := by decide +kernel
theorem dX10_beginsAt_29 : decode cX10_beginsAt 29 = .ok (.iaload, 1) := by decide +kernel
theorem dX10_beginsAt_30 : decode cX10_beginsAt 30 = .ok (.iadd, 1) := by decide +kernel
theorem dX10_beginsAt_31 : decode cX10_beginsAt 31 = .ok (.if_icmp .ge 7, 3) := by decide +kernel
theorem dX10_beginsAt_34 : decode cX10_beginsAt 34 = .ok (.iconst 1, 1) := by decide +kernel
theorem dX10_beginsAt_35 : decode cX10_beginsAt 35 = .ok (.goto 4, 3) := by decide +kernel
theorem dX10_beginsAt_38 : decode cX10_beginsAt 38 = .ok (.iconst 0, 1) := by decide +kernel
theorem dX10_beginsAt_39 : decode cX10_beginsAt 39 = .ok (.istore 4, 2) := by decide +kernel
theorem dX10_beginsAt_41 : decode cX10_beginsAt 41 = .ok (.aload_n 0, 1) := by decide +kernel
theorem dX10_beginsAt_42 : decode cX10_beginsAt 42 = .ok (.iload_n 1, 1) := by decide +kernel
theorem dX10_beginsAt_43 : decode cX10_beginsAt 43 = .ok (.iload 4, 2) := by decide +kernel
theorem dX10_beginsAt_45 : decode cX10_beginsAt 45 = .ok (.ifCond .eq 14, 3) := by decide +kernel
theorem dX10_beginsAt_48 : decode cX10_beginsAt 48 = .ok (.iload_n 3, 1) := by decide +kernel
theorem dX10_beginsAt_49 : decode cX10_beginsAt 49 = .ok (.aload_n 0, 1) := by decide +kernel
theorem dX10_beginsAt_50 : decode cX10_beginsAt 50 = .ok (.getfield 33, 3) := by decide +kernel
theorem dX10_beginsAt_53 : decode cX10_beginsAt 53 = .ok (.iload_n 1, 1) := by decide +kernel
theorem dX10_beginsAt_54 : decode cX10_beginsAt 54 = .ok (.iaload, 1) := by decide +kernel
theorem dX10_beginsAt_55 : decode cX10_beginsAt 55 = .ok (.iadd, 1) := by decide +kernel
theorem dX10_beginsAt_56 : decode cX10_beginsAt 56 = .ok (.goto 4, 3) := by decide +kernel
theorem dX10_beginsAt_59 : decode cX10_beginsAt 59 = .ok (.iload_n 2, 1) := by decide +kernel
theorem dX10_beginsAt_60 : decode cX10_beginsAt 60 = .ok (.invokevirtual 40, 3) := by decide +kernel
theorem dX10_beginsAt_63 : decode cX10_beginsAt 63 = .ok (.ireturn, 1) := by decide +kernel
theorem dX10_endsAt_0 : decode cX10_endsAt 0 = .ok (.iload_n 2, 1) := by decide +kernel
theorem dX10_endsAt_1 : decode cX10_endsAt 1 = .ok (.ldc 44, 2) := by decide +kernel
theorem dX10_endsAt_3 : decode cX10_endsAt 3 = .ok (.if_icmp .lt 8, 3) := by decide +kernel
theorem dX10_endsAt_6 : decode cX10_endsAt 6 = .ok (.ldc 44, 2) := by decide +kernel
theorem dX10_endsAt_8 : decode cX10_endsAt 8 = .ok (.goto 17, 3) := by decide +kernel
theorem dX10_endsAt_11 : decode cX10_endsAt 11 = .ok (.aload_n 0, 1) := by decide +kernel
