theorem dX12_runs_33 : decode cX12_runs 33 = .ok (.iconst 1, 1) := by decide +kernel
theorem dX12_runs_34 : decode cX12_runs 34 = .ok (.goto 4, 3) := by decide +kernel
theorem dX12_runs_37 : decode cX12_runs 37 = .ok (.iconst 0, 1) := by decide +kernel
theorem dX12_runs_38 : decode cX12_runs 38 = .ok (.ireturn, 1) := by decide +kernel
theorem dX12_comesAt_0 : decode cX12_comesAt 0 = .ok (.sipush 1440, 3) := by decide +kernel
theorem dX12_comesAt_3 : decode cX12_comesAt 3 = .ok (.iload_n 2, 1) := by decide +kernel
theorem dX12_comesAt_4 : decode cX12_comesAt 4 = .ok (.imul, 1) := by decide +kernel
theorem dX12_comesAt_5 : decode cX12_comesAt 5 = .ok (.aload_n 0, 1) := by decide +kernel
theorem dX12_comesAt_6 : decode cX12_comesAt 6 = .ok (.getfield 37, 3) := by decide +kernel
theorem dX12_comesAt_9 : decode cX12_comesAt 9 = .ok (.bipush 8, 2) := by decide +kernel
theorem dX12_comesAt_11 : decode cX12_comesAt 11 = .ok (.iload_n 1, 1) := by decide +kernel
theorem dX12_comesAt_12 : decode cX12_comesAt 12 = .ok (.imul, 1) := by decide +kernel
theorem dX12_comesAt_13 : decode cX12_comesAt 13 = .ok (.iload_n 3, 1) := by decide +kernel
theorem dX12_comesAt_14 : decode cX12_comesAt 14 = .ok (.iadd, 1) := by decide +kernel
theorem dX12_comesAt_15 : decode cX12_comesAt 15 = .ok (.iaload, 1) := by decide +kernel
theorem dX12_comesAt_16 : decode cX12_comesAt 16 = .ok (.iadd, 1) := by decide +kernel
theorem dX12_comesAt_17 : decode cX12_comesAt 17 = .ok (.aload_n 0, 1) := by decide +kernel
theorem dX12_comesAt_18 : decode cX12_comesAt 18 = .ok (.iload_n 1, 1) := by decide +kernel
theorem dX12_comesAt_19 : decode cX12_comesAt 19 = .ok (.iload_n 2, 1) := by decide +kernel
theorem dX12_comesAt_20 : decode cX12_comesAt 20 = .ok (.iload_n 3, 1) := by decide +kernel
theorem dX12_comesAt_21 : decode cX12_comesAt 21 = .ok (.invokevirtual 180, 3) := by decide +kernel
theorem dX12_comesAt_24 : decode cX12_comesAt 24 = .ok (.iadd, 1) := by decide +kernel
theorem dX12_comesAt_25 : decode cX12_comesAt 25 = .ok (.ireturn, 1) := by decide +kernel
theorem dX12_leavesAt_0 : decode cX12_leavesAt 0 = .ok (.sipush 1440, 3) := by decide +kernel
theorem dX12_leavesAt_3 : decode cX12_leavesAt 3 = .ok (.iload_n 2, 1) := by decide +kernel
theorem dX12_leavesAt_4 : decode cX12_leavesAt 4 = .ok (.imul, 1) := by decide +kernel
theorem dX12_leavesAt_5 : decode cX12_leavesAt 5 = .ok (.aload_n 0, 1) := by decide +kernel
theorem dX12_leavesAt_6 : decode cX12_leavesAt 6 = .ok (.getfield 40, 3) := by decide +kernel
theorem dX12_leavesAt_9 : decode cX12_leavesAt 9 = .ok (.bipush 8, 2) := by decide +kernel
theorem dX12_leavesAt_11 : decode cX12_leavesAt 11 = .ok (.iload_n 1, 1) := by decide +kernel
theorem dX12_leavesAt_12 : decode cX12_leavesAt 12 = .ok (.imul, 1) := by decide +kernel
theorem dX12_leavesAt_13 : decode cX12_leavesAt 13 = .ok (.iload_n 3, 1) := by decide +kernel
theorem dX12_leavesAt_14 : decode cX12_leavesAt 14 = .ok (.iadd, 1) := by decide +kernel
theorem dX12_leavesAt_15 : decode cX12_leavesAt 15 = .ok (.iaload, 1) := by decide +kernel
theorem dX12_leavesAt_16 : decode cX12_leavesAt 16 = .ok (.iadd, 1) := by decide +kernel
theorem dX12_leavesAt_17 : decode cX12_leavesAt 17 = .ok (.aload_n 0, 1) := by decide +kernel
theorem dX12_leavesAt_18 : decode cX12_leavesAt 18 = .ok (.iload_n 1, 1) := by decide +kernel
theorem dX12_leavesAt_19 : decode cX12_leavesAt 19 = .ok (.iload_n 2, 1) := by decide +kernel
theorem dX12_leavesAt_20 : decode cX12_leavesAt 20 = .ok (.iload_n 3, 1) := by decide +kernel
theorem dX12_leavesAt_21 : decode cX12_leavesAt 21 = .ok (.invokevirtual 180, 3) := by decide +kernel
theorem dX12_leavesAt_24 : decode cX12_leavesAt 24 = .ok (.iadd, 1) := by decide +kernel
theorem dX12_leavesAt_25 : decode cX12_leavesAt 25 = .ok (.ireturn, 1) := by decide +kernel
theorem dX12_begins_0 : decode cX12_begins 0 = .ok (.aload_n 0, 1) := by decide +kernel
theorem dX12_begins_1 : decode cX12_begins 1 = .ok (.getfield 59, 3) := by decide +kernel
theorem dX12_begins_4 : decode cX12_begins 4 = .ok (.iload_n 1, 1) := by decide +kernel
theorem dX12_begins_5 : decode cX12_begins 5 = .ok (.iaload, 1) := by decide +kernel
theorem dX12_begins_6 : decode cX12_begins 6 = .ok (.iconst 3, 1) := by decide +kernel
theorem dX12_begins_7 : decode cX12_begins 7 = .ok (.if_icmp .ne 5, 3) := by decide +kernel
theorem dX12_begins_10 : decode cX12_begins 10 = .ok (.iload_n 2, 1) := by decide +kernel
theorem dX12_begins_11 : decode cX12_begins 11 = .ok (.ireturn, 1) := by decide +kernel
theorem dX12_begins_12 : decode cX12_begins 12 = .ok (.aload_n 0, 1) := by decide +kernel
theorem dX12_begins_13 : decode cX12_begins 13 = .ok (.getfield 59, 3) := by decide +kernel
theorem dX12_begins_16 : decode cX12_begins 16 = .ok (.iload_n 1, 1) := by decide +kernel
theorem dX12_begins_17 : decode cX12_begins 17 = .ok (.iaload, 1) := by decide +kernel
theorem dX12_begins_18 : decode cX12_begins 18 = .ok (.iconst 5, 1) := by decide +kernel
theorem dX12_begins_19 : decode cX12_begins 19 = .ok (.if_icmp .ne 26, 3) := by decide +kernel
theorem dX12_begins_22 : decode cX12_begins 22 = .ok (.iload_n 3, 1) := by decide +kernel
theorem dX12_begins_23 : decode cX12_begins 23 = .ok (.aload_n 0, 1) := by decide +kernel
theorem dX12_begins_24 : decode cX12_begins 24 = .ok (.getfield 71, 3) := by decide +kernel
theorem dX12_begins_27 : decode cX12_begins 27 = .ok (.iload_n 1, 1) := by decide +kernel
theorem dX12_begins_28 : decode cX12_begins 28 = .ok (.iaload, 1) := by decide +kernel
theorem dX12_begins_29 : decode cX12_begins 29 = .ok (.iadd, 1) := by decide +kernel
theorem dX12_begins_30 : decode cX12_begins 30 = .ok (.iload_n 2, 1) := by decide +kernel
theorem dX12_begins_31 : decode cX12_begins 31 = .ok (.if_icmp .le 14, 3) := by decide +kernel
theorem dX12_begins_34 : decode cX12_begins 34 = .ok (.iload_n 3, 1) := by decide +kernel
theorem dX12_begins_35 : decode cX12_begins 35 = .ok (.aload_n 0, 1) := by decide +kernel
theorem dX12_begins_36 : decode cX12_begins 36 = .ok (.getfield 71, 3) := by decide +kernel
theorem dX12_begins_39 : decode cX12_begins 39 = .ok (.iload_n 1, 1) := by decide +kernel
theorem dX12_begins_40 : decode cX12_begins 40 = .ok (.iaload, 1) := by decide +kernel
theorem dX12_begins_41 : decode cX12_begins 41 = .ok (.iadd, 1) := by decide +kernel
theorem dX12_begins_42 : decode cX12_begins 42 = .ok (.goto 4, 3) := by decide +kernel
theorem dX12_begins_45 : decode cX12_begins 45 = .ok (.iload_n 2, 1) := by decide +kernel
theorem dX12_begins_46 : decode cX12_begins 46 = .ok (.istore 4, 2) := by decide +kernel
theorem dX12_begins_48 : decode cX12_begins 48 = .ok (.iload 4, 2) := by decide +kernel
theorem dX12_begins_50 : decode cX12_begins 50 = .ok (.sipush 1440, 3) := by decide +kernel
theorem dX12_begins_53 : decode cX12_begins 53 = .ok (.idiv, 1) := by decide +kernel
theorem dX12_begins_54 : decode cX12_begins 54 = .ok (.istore 5, 2) := by decide +kernel
theorem dX12_begins_56 : decode cX12_begins 56 = .ok (.aload_n 0, 1) := by decide +kernel
theorem dX12_begins_57 : decode cX12_begins 57 = .ok (.getfield 62, 3) := by decide +kernel
theorem dX12_begins_60 : decode cX12_begins 60 = .ok (.iload_n 1, 1) := by decide +kernel
theorem dX12_begins_61 : decode cX12_begins 61 = .ok (.iaload, 1) := by decide +kernel
theorem dX12_begins_62 : decode cX12_begins 62 = .ok (.istore 6, 2) := by decide +kernel
theorem dX12_begins_64 : decode cX12_begins 64 = .ok (.iload 6, 2) := by decide +kernel
theorem dX12_begins_66 : decode cX12_begins 66 = .ok (.aload_n 0, 1) := by decide +kernel
theorem dX12_begins_67 : decode cX12_begins 67 = .ok (.getfield 65, 3) := by decide +kernel
theorem dX12_begins_70 : decode cX12_begins 70 = .ok (.iload_n 1, 1) := by decide +kernel
theorem dX12_begins_71 : decode cX12_begins 71 = .ok (.iaload, 1) := by decide +kernel
theorem dX12_begins_72 : decode cX12_begins 72 = .ok (.if_icmp .gt 41, 3) := by decide +kernel
theorem dX12_begins_75 : decode cX12_begins 75 = .ok (.sipush 1440, 3) := by decide +kernel
theorem dX12_begins_78 : decode cX12_begins 78 = .ok (.iload 5, 2) := by decide +kernel
theorem dX12_begins_80 : decode cX12_begins 80 = .ok (.imul, 1) := by decide +kernel
theorem dX12_begins_81 : decode cX12_begins 81 = .ok (.iload 6, 2) := by decide +kernel
theorem dX12_begins_83 : decode cX12_begins 83 = .ok (.iadd, 1) := by decide +kernel
theorem dX12_begins_84 : decode cX12_begins 84 = .ok (.iload 4, 2) := by decide +kernel
theorem dX12_begins_86 : decode cX12_begins 86 = .ok (.if_icmp .lt 13, 3) := by decide +kernel
theorem dX12_begins_89 : decode cX12_begins 89 = .ok (.sipush 1440, 3) := by decide +kernel
theorem dX12_begins_92 : decode cX12_begins 92 = .ok (.iload 5, 2) := by decide +kernel
theorem dX12_begins_94 : decode cX12_begins 94 = .ok (.imul, 1) := by decide +kernel
theorem dX12_begins_95 : decode cX12_begins 95 = .ok (.iload 6, 2) := by decide +kernel
theorem dX12_begins_97 : decode cX12_begins 97 = .ok (.iadd, 1) := by decide +kernel
theorem dX12_begins_98 : decode cX12_begins 98 = .ok (.ireturn, 1) := by decide +kernel
theorem dX12_begins_99 : decode cX12_begins 99 = .ok (.iload 6, 2) := by decide +kernel
theorem dX12_begins_101 : decode cX12_begins 101 = .ok (.aload_n 0, 1) := by decide +kernel
theorem dX12_begins_102 : decode cX12_begins 102 = .ok (.getfield 68, 3) := by decide +kernel
theorem dX12_begins_105 : decode cX12_begins 105 = .ok (.iload_n 1, 1) := by decide +kernel
theorem dX12_begins_106 : decode cX12_begins 106 = .ok (.iaload, 1) := by decide +kernel
theorem dX12_begins_107 : decode cX12_begins 107 = .ok (.iadd, 1) := by decide +kernel
theorem dX12_begins_108 : decode cX12_begins 108 = .ok (.istore 6, 2) := by decide +kernel
theorem dX12_begins_110 : decode cX12_begins 110 = .ok (.goto (-46), 3) := by decide +kernel
theorem dX12_begins_113 : decode cX12_begins 113 = .ok (.iinc 5 1, 3) := by decide +kernel
theorem dX12_begins_116 : decode cX12_begins 116 = .ok (.goto (-60), 3) := by decide +kernel
theorem dX12_behind_0 : decode cX12_behind 0 = .ok (.aload_n 0, 1) := by decide +kernel
theorem dX12_behind_1 : decode cX12_behind 1 = .ok (.iload_n 1, 1) := by decide +kernel
theorem dX12_behind_2 : decode cX12_behind 2 = .ok (.iload_n 2, 1) := by decide +kernel
theorem dX12_behind_3 : decode cX12_behind 3 = .ok (.iload_n 3, 1) := by decide +kernel
theorem dX12_behind_4 : decode cX12_behind 4 = .ok (.invokevirtual 184, 3) := by decide +kernel
theorem dX12_behind_7 : decode cX12_behind 7 = .ok (.aload_n 0, 1) := by decide +kernel
theorem dX12_behind_8 : decode cX12_behind 8 = .ok (.getfield 56, 3) := by decide +kernel
theorem dX12_behind_11 : decode cX12_behind 11 = .ok (.iload_n 1, 1) := by decide +kernel
theorem dX12_behind_12 : decode cX12_behind 12 = .ok (.iaload, 1) := by decide +kernel
theorem dX12_behind_13 : decode cX12_behind 13 = .ok (.iadd, 1) := by decide +kernel
theorem dX12_behind_14 : decode cX12_behind 14 = .ok (.ireturn, 1) := by decide +kernel
theorem dX12_look_0 : decode cX12_look 0 = .ok (.aload_n 0, 1) := by decide +kernel
theorem dX12_look_1 : decode cX12_look 1 = .ok (.sipush 1440, 3) := by decide +kernel
theorem dX12_look_4 : decode cX12_look 4 = .ok (.iload_n 1, 1) := by decide +kernel
theorem dX12_look_5 : decode cX12_look 5 = .ok (.imul, 1) := by decide +kernel
theorem dX12_look_6 : decode cX12_look 6 = .ok (.iload_n 2, 1) := by decide +kernel
theorem dX12_look_7 : decode cX12_look 7 = .ok (.iadd, 1) := by decide +kernel
theorem dX12_look_8 : decode cX12_look 8 = .ok (.putfield 187, 3) := by decide +kernel
theorem dX12_look_11 : decode cX12_look 11 = .ok (.aload_n 0, 1) := by decide +kernel
theorem dX12_look_12 : decode cX12_look 12 = .ok (.sipush 1440, 3) := by decide +kernel
theorem dX12_look_15 : decode cX12_look 15 = .ok (.iload_n 1, 1) := by decide +kernel
theorem dX12_look_16 : decode cX12_look 16 = .ok (.iconst 2, 1) := by decide +kernel
theorem dX12_look_17 : decode cX12_look 17 = .ok (.iadd, 1) := by decide +kernel
theorem dX12_look_18 : decode cX12_look 18 = .ok (.imul, 1) := by decide +kernel
theorem dX12_look_19 : decode cX12_look 19 = .ok (.putfield 190, 3) := by decide +kernel
theorem dX12_look_22 : decode cX12_look 22 = .ok (.aload_n 0, 1) := by decide +kernel
theorem dX12_look_23 : decode cX12_look 23 = .ok (.iconst 0, 1) := by decide +kernel
theorem dX12_look_24 : decode cX12_look 24 = .ok (.putfield 193, 3) := by decide +kernel
theorem dX12_look_27 : decode cX12_look 27 = .ok (.iconst 0, 1) := by decide +kernel
theorem dX12_look_28 : decode cX12_look 28 = .ok (.istore_n 3, 1) := by decide +kernel
theorem dX12_look_29 : decode cX12_look 29 = .ok (.iload_n 3, 1) := by decide +kernel
theorem dX12_look_30 : decode cX12_look 30 = .ok (.bipush 100, 2) := by decide +kernel
theorem dX12_look_32 : decode cX12_look 32 = .ok (.if_icmp .ge 192, 3) := by decide +kernel
theorem dX12_look_35 : decode cX12_look 35 = .ok (.iconst 0, 1) := by decide +kernel
theorem dX12_look_36 : decode cX12_look 36 = .ok (.istore 4, 2) := by decide +kernel
theorem dX12_look_38 : decode cX12_look 38 = .ok (.iload 4, 2) := by decide +kernel
theorem dX12_look_40 : decode cX12_look 40 = .ok (.aload_n 0, 1) := by decide +kernel
theorem dX12_look_41 : decode cX12_look 41 = .ok (.getfield 154, 3) := by decide +kernel
theorem dX12_look_44 : decode cX12_look 44 = .ok (.if_icmp .ge 174, 3) := by decide +kernel
theorem dX12_look_47 : decode cX12_look 47 = .ok (.aload_n 0, 1) := by decide +kernel
theorem dX12_look_48 : decode cX12_look 48 = .ok (.getfield 31, 3) := by decide +kernel
theorem dX12_look_51 : decode cX12_look 51 = .ok (.iload 4, 2) := by decide +kernel
theorem dX12_look_53 : decode cX12_look 53 = .ok (.iaload, 1) := by decide +kernel
theorem dX12_look_54 : decode cX12_look 54 = .ok (.iconst 2, 1) := by decide +kernel
theorem dX12_look_55 : decode cX12_look 55 = .ok (.if_icmp .lt 157, 3) := by decide +kernel
theorem dX12_look_58 : decode cX12_look 58 = .ok (.aload_n 0, 1) := by decide +kernel
theorem dX12_look_59 : decode cX12_look 59 = .ok (.iload 4, 2) := by decide +kernel
theorem dX12_look_61 : decode cX12_look 61 = .ok (.iload_n 3, 1) := by decide +kernel
theorem dX12_look_62 : decode cX12_look 62 = .ok (.invokevirtual 196, 3) := by decide +kernel
theorem dX12_look_65 : decode cX12_look 65 = .ok (.ifCond .ne 6, 3) := by decide +kernel
theorem dX12_look_68 : decode cX12_look 68 = .ok (.goto 144, 3) := by decide +kernel
theorem dX12_look_71 : decode cX12_look 71 = .ok (.aload_n 0, 1) := by decide +kernel
theorem dX12_look_72 : decode cX12_look 72 = .ok (.iload 4, 2) := by decide +kernel
theorem dX12_look_74 : decode cX12_look 74 = .ok (.iload_n 3, 1) := by decide +kernel
theorem dX12_look_75 : decode cX12_look 75 = .ok (.aload_n 0, 1) := by decide +kernel
theorem dX12_look_76 : decode cX12_look 76 = .ok (.getfield 31, 3) := by decide +kernel
theorem dX12_look_79 : decode cX12_look 79 = .ok (.iload 4, 2) := by decide +kernel
theorem dX12_look_81 : decode cX12_look 81 = .ok (.iaload, 1) := by decide +kernel
theorem dX12_look_82 : decode cX12_look 82 = .ok (.iconst 1, 1) := by decide +kernel
theorem dX12_look_83 : decode cX12_look 83 = .ok (.isub, 1) := by decide +kernel
theorem dX12_look_84 : decode cX12_look 84 = .ok (.invokevirtual 199, 3) := by decide +kernel
theorem dX12_look_87 : decode cX12_look 87 = .ok (.aload_n 0, 1) := by decide +kernel
theorem dX12_look_88 : decode cX12_look 88 = .ok (.getfield 187, 3) := by decide +kernel
theorem dX12_look_91 : decode cX12_look 91 = .ok (.if_icmp .lt 121, 3) := by decide +kernel
theorem dX12_look_94 : decode cX12_look 94 = .ok (.aload_n 0, 1) := by decide +kernel
theorem dX12_look_95 : decode cX12_look 95 = .ok (.iload 4, 2) := by decide +kernel
theorem dX12_look_97 : decode cX12_look 97 = .ok (.iload_n 3, 1) := by decide +kernel
theorem dX12_look_98 : decode cX12_look 98 = .ok (.iconst 0, 1) := by decide +kernel
theorem dX12_look_99 : decode cX12_look 99 = .ok (.invokevirtual 202, 3) := by decide +kernel
theorem dX12_look_102 : decode cX12_look 102 = .ok (.aload_n 0, 1) := by decide +kernel
theorem dX12_look_103 : decode cX12_look 103 = .ok (.getfield 190, 3) := by decide +kernel
theorem dX12_look_106 : decode cX12_look 106 = .ok (.if_icmp .lt 6, 3) := by decide +kernel
theorem dX12_look_109 : decode cX12_look 109 = .ok (.goto 103, 3) := by decide +kernel
theorem dX12_look_112 : decode cX12_look 112 = .ok (.aload_n 0, 1) := by decide +kernel
theorem dX12_look_113 : decode cX12_look 113 = .ok (.getfield 89, 3) := by decide +kernel
theorem dX12_look_116 : decode cX12_look 116 = .ok (.aload_n 0, 1) := by decide +kernel
theorem dX12_look_117 : decode cX12_look 117 = .ok (.getfield 193, 3) := by decide +kernel
theorem dX12_look_120 : decode cX12_look 120 = .ok (.iload 4, 2) := by decide +kernel
theorem dX12_look_122 : decode cX12_look 122 = .ok (.iastore, 1) := by decide +kernel
theorem dX12_look_123 : decode cX12_look 123 = .ok (.aload_n 0, 1) := by decide +kernel
theorem dX12_look_124 : decode cX12_look 124 = .ok (.getfield 92, 3) := by decide +kernel
theorem dX12_look_127 : decode cX12_look 127 = .ok (.aload_n 0, 1) := by decide +kernel
theorem dX12_look_128 : decode cX12_look 128 = .ok (.getfield 193, 3) := by decide +kernel
theorem dX12_look_131 : decode cX12_look 131 = .ok (.iload_n 3, 1) := by decide +kernel
theorem dX12_look_132 : decode cX12_look 132 = .ok (.iastore, 1) := by decide +kernel
theorem dX12_look_133 : decode cX12_look 133 = .ok (.iconst 0, 1) := by decide +kernel
theorem dX12_look_134 : decode cX12_look 134 = .ok (.istore 5, 2) := by decide +kernel
theorem dX12_look_136 : decode cX12_look 136 = .ok (.iload 5, 2) := by decide +kernel
theorem dX12_look_138 : decode cX12_look 138 = .ok (.aload_n 0, 1) := by decide +kernel
theorem dX12_look_139 : decode cX12_look 139 = .ok (.getfield 31, 3) := by decide +kernel
theorem dX12_look_142 : decode cX12_look 142 = .ok (.iload 4, 2) := by decide +kernel
theorem dX12_look_144 : decode cX12_look 144 = .ok (.iaload, 1) := by decide +kernel
theorem dX12_look_145 : decode cX12_look 145 = .ok (.if_icmp .ge 57, 3) := by decide +kernel
theorem dX12_look_148 : decode cX12_look 148 = .ok (.aload_n 0, 1) := by decide +kernel
theorem dX12_look_149 : decode cX12_look 149 = .ok (.getfield 95, 3) := by decide +kernel
theorem dX12_look_152 : decode cX12_look 152 = .ok (.bipush 8, 2) := by decide +kernel
theorem dX12_look_154 : decode cX12_look 154 = .ok (.aload_n 0, 1) := by decide +kernel
theorem dX12_look_155 : decode cX12_look 155 = .ok (.getfield 193, 3) := by decide +kernel
theorem dX12_look_158 : decode cX12_look 158 = .ok (.imul, 1) := by decide +kernel
theorem dX12_look_159 : decode cX12_look 159 = .ok (.iload 5, 2) := by decide +kernel
theorem dX12_look_161 : decode cX12_look 161 = .ok (.iadd, 1) := by decide +kernel
theorem dX12_look_162 : decode cX12_look 162 = .ok (.aload_n 0, 1) := by decide +kernel
theorem dX12_look_163 : decode cX12_look 163 = .ok (.iload 4, 2) := by decide +kernel
theorem dX12_look_165 : decode cX12_look 165 = .ok (.iload_n 3, 1) := by decide +kernel
theorem dX12_look_166 : decode cX12_look 166 = .ok (.iload 5, 2) := by decide +kernel
theorem dX12_look_168 : decode cX12_look 168 = .ok (.invokevirtual 199, 3) := by decide +kernel
theorem dX12_look_171 : decode cX12_look 171 = .ok (.iastore, 1) := by decide +kernel
theorem dX12_look_172 : decode cX12_look 172 = .ok (.aload_n 0, 1) := by decide +kernel
theorem dX12_look_173 : decode cX12_look 173 = .ok (.getfield 98, 3) := by decide +kernel
theorem dX12_look_176 : decode cX12_look 176 = .ok (.bipush 8, 2) := by decide +kernel
theorem dX12_look_178 : decode cX12_look 178 = .ok (.aload_n 0, 1) := by decide +kernel
theorem dX12_look_179 : decode cX12_look 179 = .ok (.getfield 193, 3) := by decide +kernel
theorem dX12_look_182 : decode cX12_look 182 = .ok (.imul, 1) := by decide +kernel
theorem dX12_look_183 : decode cX12_look 183 = .ok (.iload 5, 2) := by decide +kernel
theorem dX12_look_185 : decode cX12_look 185 = .ok (.iadd, 1) := by decide +kernel
theorem dX12_look_186 : decode cX12_look 186 = .ok (.aload_n 0, 1) := by decide +kernel
theorem dX12_look_187 : decode cX12_look 187 = .ok (.iload 4, 2) := by decide +kernel
theorem dX12_look_189 : decode cX12_look 189 = .ok (.iload_n 3, 1) := by decide +kernel
theorem dX12_look_190 : decode cX12_look 190 = .ok (.iload 5, 2) := by decide +kernel
theorem dX12_look_192 : decode cX12_look 192 = .ok (.invokevirtual 202, 3) := by decide +kernel
theorem dX12_look_195 : decode cX12_look 195 = .ok (.iastore, 1) := by decide +kernel
theorem dX12_look_196 : decode cX12_look 196 = .ok (.iinc 5 1, 3) := by decide +kernel
theorem dX12_look_199 : decode cX12_look 199 = .ok (.goto (-63), 3) := by decide +kernel
theorem dX12_look_202 : decode cX12_look 202 = .ok (.aload_n 0, 1) := by decide +kernel
theorem dX12_look_203 : decode cX12_look 203 = .ok (.dup, 1) := by decide +kernel
theorem dX12_look_204 : decode cX12_look 204 = .ok (.getfield 193, 3) := by decide +kernel
theorem dX12_look_207 : decode cX12_look 207 = .ok (.iconst 1, 1) := by decide +kernel
theorem dX12_look_208 : decode cX12_look 208 = .ok (.iadd, 1) := by decide +kernel
theorem dX12_look_209 : decode cX12_look 209 = .ok (.putfield 193, 3) := by decide +kernel
theorem dX12_look_212 : decode cX12_look 212 = .ok (.iinc 4 1, 3) := by decide +kernel
theorem dX12_look_215 : decode cX12_look 215 = .ok (.goto (-177), 3) := by decide +kernel
theorem dX12_look_218 : decode cX12_look 218 = .ok (.iinc 3 1, 3) := by decide +kernel
theorem dX12_look_221 : decode cX12_look 221 = .ok (.goto (-192), 3) := by decide +kernel
theorem dX12_look_224 : decode cX12_look 224 = .ok (.return_, 1) := by decide +kernel
theorem dX12_at_0 : decode cX12_at 0 = .ok (.iload_n 0, 1) := by decide +kernel
theorem dX12_at_1 : decode cX12_at 1 = .ok (.bipush 28, 2) := by decide +kernel
theorem dX12_at_3 : decode cX12_at 3 = .ok (.imul, 1) := by decide +kernel
theorem dX12_at_4 : decode cX12_at 4 = .ok (.iload_n 1, 1) := by decide +kernel
theorem dX12_at_5 : decode cX12_at 5 = .ok (.iadd, 1) := by decide +kernel
theorem dX12_at_6 : decode cX12_at 6 = .ok (.bipush 12, 2) := by decide +kernel
theorem dX12_at_8 : decode cX12_at 8 = .ok (.imul, 1) := by decide +kernel
theorem dX12_at_9 : decode cX12_at 9 = .ok (.iload_n 2, 1) := by decide +kernel
theorem dX12_at_10 : decode cX12_at 10 = .ok (.iadd, 1) := by decide +kernel
theorem dX12_at_11 : decode cX12_at 11 = .ok (.ireturn, 1) := by decide +kernel
theorem dX12_fareOf_0 : decode cX12_fareOf 0 = .ok (.aload_n 0, 1) := by decide +kernel
theorem dX12_fareOf_1 : decode cX12_fareOf 1 = .ok (.getfield 16, 3) := by decide +kernel
theorem dX12_fareOf_4 : decode cX12_fareOf 4 = .ok (.iconst 4, 1) := by decide +kernel
theorem dX12_fareOf_5 : decode cX12_fareOf 5 = .ok (.aload_n 0, 1) := by decide +kernel
theorem dX12_fareOf_6 : decode cX12_fareOf 6 = .ok (.getfield 13, 3) := by decide +kernel
theorem dX12_fareOf_9 : decode cX12_fareOf 9 = .ok (.aload_n 0, 1) := by decide +kernel
theorem dX12_fareOf_10 : decode cX12_fareOf 10 = .ok (.getfield 34, 3) := by decide +kernel
theorem dX12_fareOf_13 : decode cX12_fareOf 13 = .ok (.bipush 8, 2) := by decide +kernel
theorem dX12_fareOf_15 : decode cX12_fareOf 15 = .ok (.iload_n 1, 1) := by decide +kernel
theorem dX12_fareOf_16 : decode cX12_fareOf 16 = .ok (.imul, 1) := by decide +kernel
theorem dX12_fareOf_17 : decode cX12_fareOf 17 = .ok (.iload_n 2, 1) := by decide +kernel
theorem dX12_fareOf_18 : decode cX12_fareOf 18 = .ok (.iadd, 1) := by decide +kernel
theorem dX12_fareOf_19 : decode cX12_fareOf 19 = .ok (.iaload, 1) := by decide +kernel
theorem dX12_fareOf_20 : decode cX12_fareOf 20 = .ok (.iaload, 1) := by decide +kernel
theorem dX12_fareOf_21 : decode cX12_fareOf 21 = .ok (.imul, 1) := by decide +kernel
theorem dX12_fareOf_22 : decode cX12_fareOf 22 = .ok (.aload_n 0, 1) := by decide +kernel
theorem dX12_fareOf_23 : decode cX12_fareOf 23 = .ok (.getfield 13, 3) := by decide +kernel
theorem dX12_fareOf_26 : decode cX12_fareOf 26 = .ok (.aload_n 0, 1) := by decide +kernel
theorem dX12_fareOf_27 : decode cX12_fareOf 27 = .ok (.getfield 34, 3) := by decide +kernel
theorem dX12_fareOf_30 : decode cX12_fareOf 30 = .ok (.bipush 8, 2) := by decide +kernel
theorem dX12_fareOf_32 : decode cX12_fareOf 32 = .ok (.iload_n 1, 1) := by decide +kernel
theorem dX12_fareOf_33 : decode cX12_fareOf 33 = .ok (.imul, 1) := by decide +kernel
theorem dX12_fareOf_34 : decode cX12_fareOf 34 = .ok (.iload_n 3, 1) := by decide +kernel
theorem dX12_fareOf_35 : decode cX12_fareOf 35 = .ok (.iadd, 1) := by decide +kernel
theorem dX12_fareOf_36 : decode cX12_fareOf 36 = .ok (.iaload, 1) := by decide +kernel
theorem dX12_fareOf_37 : decode cX12_fareOf 37 = .ok (.iaload, 1) := by decide +kernel
theorem dX12_fareOf_38 : decode cX12_fareOf 38 = .ok (.iadd, 1) := by decide +kernel
theorem dX12_fareOf_39 : decode cX12_fareOf 39 = .ok (.iaload, 1) := by decide +kernel
theorem dX12_fareOf_40 : decode cX12_fareOf 40 = .ok (.ireturn, 1) := by decide +kernel
theorem dX12_hasPlace_0 : decode cX12_hasPlace 0 = .ok (.aload_n 0, 1) := by decide +kernel
theorem dX12_hasPlace_1 : decode cX12_hasPlace 1 = .ok (.getfield 43, 3) := by decide +kernel
theorem dX12_hasPlace_4 : decode cX12_hasPlace 4 = .ok (.bipush 8, 2) := by decide +kernel
theorem dX12_hasPlace_6 : decode cX12_hasPlace 6 = .ok (.iload_n 1, 1) := by decide +kernel
theorem dX12_hasPlace_7 : decode cX12_hasPlace 7 = .ok (.imul, 1) := by decide +kernel
theorem dX12_hasPlace_8 : decode cX12_hasPlace 8 = .ok (.iload_n 3, 1) := by decide +kernel
theorem dX12_hasPlace_9 : decode cX12_hasPlace 9 = .ok (.iadd, 1) := by decide +kernel
theorem dX12_hasPlace_10 : decode cX12_hasPlace 10 = .ok (.baload, 1) := by decide +kernel
theorem dX12_hasPlace_11 : decode cX12_hasPlace 11 = .ok (.ifCond .ne 18, 3) := by decide +kernel
theorem dX12_hasPlace_14 : decode cX12_hasPlace 14 = .ok (.aload_n 0, 1) := by decide +kernel
theorem dX12_hasPlace_15 : decode cX12_hasPlace 15 = .ok (.getfield 43, 3) := by decide +kernel
theorem dX12_hasPlace_18 : decode cX12_hasPlace 18 = .ok (.bipush 8, 2) := by decide +kernel
theorem dX12_hasPlace_20 : decode cX12_hasPlace 20 = .ok (.iload_n 1, 1) := by decide +kernel
theorem dX12_hasPlace_21 : decode cX12_hasPlace 21 = .ok (.imul, 1) := by decide +kernel
theorem dX12_hasPlace_22 : decode cX12_hasPlace 22 = .ok (.iload 4, 2) := by decide +kernel
theorem dX12_hasPlace_24 : decode cX12_hasPlace 24 = .ok (.iadd, 1) := by decide +kernel
theorem dX12_hasPlace_25 : decode cX12_hasPlace 25 = .ok (.baload, 1) := by decide +kernel
theorem dX12_hasPlace_26 : decode cX12_hasPlace 26 = .ok (.ifCond .eq 5, 3) := by decide +kernel
theorem dX12_hasPlace_29 : decode cX12_hasPlace 29 = .ok (.iconst 0, 1) := by decide +kernel
theorem dX12_hasPlace_30 : decode cX12_hasPlace 30 = .ok (.ireturn, 1) := by decide +kernel
theorem dX12_hasPlace_31 : decode cX12_hasPlace 31 = .ok (.iload_n 3, 1) := by decide +kernel
theorem dX12_hasPlace_32 : decode cX12_hasPlace 32 = .ok (.istore 5, 2) := by decide +kernel
theorem dX12_hasPlace_34 : decode cX12_hasPlace 34 = .ok (.iload 5, 2) := by decide +kernel
theorem dX12_hasPlace_36 : decode cX12_hasPlace 36 = .ok (.iload 4, 2) := by decide +kernel
theorem dX12_hasPlace_38 : decode cX12_hasPlace 38 = .ok (.if_icmp .ge 46, 3) := by decide +kernel
theorem dX12_hasPlace_41 : decode cX12_hasPlace 41 = .ok (.aload_n 0, 1) := by decide +kernel
theorem dX12_hasPlace_42 : decode cX12_hasPlace 42 = .ok (.getfield 22, 3) := by decide +kernel
theorem dX12_hasPlace_45 : decode cX12_hasPlace 45 = .ok (.iload_n 1, 1) := by decide +kernel
theorem dX12_hasPlace_46 : decode cX12_hasPlace 46 = .ok (.iaload, 1) := by decide +kernel
theorem dX12_hasPlace_47 : decode cX12_hasPlace 47 = .ok (.ifCond .eq 37, 3) := by decide +kernel
theorem dX12_hasPlace_50 : decode cX12_hasPlace 50 = .ok (.aload_n 0, 1) := by decide +kernel
theorem dX12_hasPlace_51 : decode cX12_hasPlace 51 = .ok (.getfield 86, 3) := by decide +kernel
theorem dX12_hasPlace_54 : decode cX12_hasPlace 54 = .ok (.bipush 100, 2) := by decide +kernel
theorem dX12_hasPlace_56 : decode cX12_hasPlace 56 = .ok (.iload_n 1, 1) := by decide +kernel
theorem dX12_hasPlace_57 : decode cX12_hasPlace 57 = .ok (.imul, 1) := by decide +kernel
theorem dX12_hasPlace_58 : decode cX12_hasPlace 58 = .ok (.iload_n 2, 1) := by decide +kernel
theorem dX12_hasPlace_59 : decode cX12_hasPlace 59 = .ok (.iadd, 1) := by decide +kernel
theorem dX12_hasPlace_60 : decode cX12_hasPlace 60 = .ok (.bipush 8, 2) := by decide +kernel
theorem dX12_hasPlace_62 : decode cX12_hasPlace 62 = .ok (.imul, 1) := by decide +kernel
theorem dX12_hasPlace_63 : decode cX12_hasPlace 63 = .ok (.iload 5, 2) := by decide +kernel
theorem dX12_hasPlace_65 : decode cX12_hasPlace 65 = .ok (.iadd, 1) := by decide +kernel
theorem dX12_hasPlace_66 : decode cX12_hasPlace 66 = .ok (.iaload, 1) := by decide +kernel
theorem dX12_hasPlace_67 : decode cX12_hasPlace 67 = .ok (.aload_n 0, 1) := by decide +kernel
theorem dX12_hasPlace_68 : decode cX12_hasPlace 68 = .ok (.getfield 28, 3) := by decide +kernel
theorem dX12_hasPlace_71 : decode cX12_hasPlace 71 = .ok (.iload_n 1, 1) := by decide +kernel
theorem dX12_hasPlace_72 : decode cX12_hasPlace 72 = .ok (.iaload, 1) := by decide +kernel
theorem dX12_hasPlace_73 : decode cX12_hasPlace 73 = .ok (.if_icmp .lt 5, 3) := by decide +kernel
theorem dX12_hasPlace_76 : decode cX12_hasPlace 76 = .ok (.iconst 0, 1) := by decide +kernel
theorem dX12_hasPlace_77 : decode cX12_hasPlace 77 = .ok (.ireturn, 1) := by decide +kernel
theorem dX12_hasPlace_78 : decode cX12_hasPlace 78 = .ok (.iinc 5 1, 3) := by decide +kernel
theorem dX12_hasPlace_81 : decode cX12_hasPlace 81 = .ok (.goto (-47), 3) := by decide +kernel
theorem dX12_hasPlace_84 : decode cX12_hasPlace 84 = .ok (.iconst 1, 1) := by decide +kernel
theorem dX12_hasPlace_85 : decode cX12_hasPlace 85 = .ok (.ireturn, 1) := by decide +kernel
theorem dX12_go_0 : decode cX12_go 0 = .ok (.aload_n 0, 1) := by decide +kernel
theorem dX12_go_1 : decode cX12_go 1 = .ok (.iload_n 1, 1) := by decide +kernel
theorem dX12_go_2 : decode cX12_go 2 = .ok (.putfield 205, 3) := by decide +kernel
theorem dX12_go_5 : decode cX12_go 5 = .ok (.aload_n 0, 1) := by decide +kernel
theorem dX12_go_6 : decode cX12_go 6 = .ok (.iload_n 2, 1) := by decide +kernel
theorem dX12_go_7 : decode cX12_go 7 = .ok (.putfield 187, 3) := by decide +kernel
theorem dX12_go_10 : decode cX12_go 10 = .ok (.iconst 0, 1) := by decide +kernel
theorem dX12_go_11 : decode cX12_go 11 = .ok (.istore_n 3, 1) := by decide +kernel
theorem dX12_go_12 : decode cX12_go 12 = .ok (.iload_n 3, 1) := by decide +kernel
theorem dX12_go_13 : decode cX12_go 13 = .ok (.sipush 1344, 3) := by decide +kernel
theorem dX12_go_16 : decode cX12_go 16 = .ok (.if_icmp .ge 25, 3) := by decide +kernel
theorem dX12_go_19 : decode cX12_go 19 = .ok (.aload_n 0, 1) := by decide +kernel
theorem dX12_go_20 : decode cX12_go 20 = .ok (.getfield 101, 3) := by decide +kernel
theorem dX12_go_23 : decode cX12_go 23 = .ok (.iload_n 3, 1) := by decide +kernel
theorem dX12_go_24 : decode cX12_go 24 = .ok (.ldc 208, 2) := by decide +kernel
theorem dX12_go_26 : decode cX12_go 26 = .ok (.iastore, 1) := by decide +kernel
theorem dX12_go_27 : decode cX12_go 27 = .ok (.aload_n 0, 1) := by decide +kernel
theorem dX12_go_28 : decode cX12_go 28 = .ok (.getfield 104, 3) := by decide +kernel
theorem dX12_go_31 : decode cX12_go 31 = .ok (.iload_n 3, 1) := by decide +kernel
theorem dX12_go_32 : decode cX12_go 32 = .ok (.ldc 208, 2) := by decide +kernel
theorem dX12_go_34 : decode cX12_go 34 = .ok (.iastore, 1) := by decide +kernel
theorem dX12_go_35 : decode cX12_go 35 = .ok (.iinc 3 1, 3) := by decide +kernel
theorem dX12_go_38 : decode cX12_go 38 = .ok (.goto (-26), 3) := by decide +kernel
theorem dX12_go_41 : decode cX12_go 41 = .ok (.aload_n 0, 1) := by decide +kernel
theorem dX12_go_42 : decode cX12_go 42 = .ok (.getfield 104, 3) := by decide +kernel
theorem dX12_go_45 : decode cX12_go 45 = .ok (.iconst 0, 1) := by decide +kernel
theorem dX12_go_46 : decode cX12_go 46 = .ok (.iconst 0, 1) := by decide +kernel
theorem dX12_go_47 : decode cX12_go 47 = .ok (.aload_n 0, 1) := by decide +kernel
theorem dX12_go_48 : decode cX12_go 48 = .ok (.getfield 205, 3) := by decide +kernel
theorem dX12_go_51 : decode cX12_go 51 = .ok (.invokestatic 209, 3) := by decide +kernel
theorem dX12_go_54 : decode cX12_go 54 = .ok (.iload_n 2, 1) := by decide +kernel
theorem dX12_go_55 : decode cX12_go 55 = .ok (.iastore, 1) := by decide +kernel
theorem dX12_go_56 : decode cX12_go 56 = .ok (.iconst 0, 1) := by decide +kernel
theorem dX12_go_57 : decode cX12_go 57 = .ok (.istore_n 3, 1) := by decide +kernel
theorem dX12_go_58 : decode cX12_go 58 = .ok (.iload_n 3, 1) := by decide +kernel
theorem dX12_go_59 : decode cX12_go 59 = .ok (.aload_n 0, 1) := by decide +kernel
theorem dX12_go_60 : decode cX12_go 60 = .ok (.getfield 161, 3) := by decide +kernel
theorem dX12_go_63 : decode cX12_go 63 = .ok (.if_icmp .ge 47, 3) := by decide +kernel
theorem dX12_go_66 : decode cX12_go 66 = .ok (.aload_n 0, 1) := by decide +kernel
theorem dX12_go_67 : decode cX12_go 67 = .ok (.getfield 50, 3) := by decide +kernel
theorem dX12_go_70 : decode cX12_go 70 = .ok (.iload_n 3, 1) := by decide +kernel
theorem dX12_go_71 : decode cX12_go 71 = .ok (.iaload, 1) := by decide +kernel
theorem dX12_go_72 : decode cX12_go 72 = .ok (.aload_n 0, 1) := by decide +kernel
theorem dX12_go_73 : decode cX12_go 73 = .ok (.getfield 205, 3) := by decide +kernel
theorem dX12_go_76 : decode cX12_go 76 = .ok (.if_icmp .ne 28, 3) := by decide +kernel
theorem dX12_go_79 : decode cX12_go 79 = .ok (.aload_n 0, 1) := by decide +kernel
theorem dX12_go_80 : decode cX12_go 80 = .ok (.getfield 104, 3) := by decide +kernel
theorem dX12_go_83 : decode cX12_go 83 = .ok (.iconst 0, 1) := by decide +kernel
theorem dX12_go_84 : decode cX12_go 84 = .ok (.iconst 0, 1) := by decide +kernel
theorem dX12_go_85 : decode cX12_go 85 = .ok (.aload_n 0, 1) := by decide +kernel
theorem dX12_go_86 : decode cX12_go 86 = .ok (.getfield 53, 3) := by decide +kernel
theorem dX12_go_89 : decode cX12_go 89 = .ok (.iload_n 3, 1) := by decide +kernel
theorem dX12_go_90 : decode cX12_go 90 = .ok (.iaload, 1) := by decide +kernel
theorem dX12_go_91 : decode cX12_go 91 = .ok (.invokestatic 209, 3) := by decide +kernel
theorem dX12_go_94 : decode cX12_go 94 = .ok (.aload_n 0, 1) := by decide +kernel
theorem dX12_go_95 : decode cX12_go 95 = .ok (.iload_n 3, 1) := by decide +kernel
theorem dX12_go_96 : decode cX12_go 96 = .ok (.iload_n 2, 1) := by decide +kernel
theorem dX12_go_97 : decode cX12_go 97 = .ok (.iload_n 2, 1) := by decide +kernel
theorem dX12_go_98 : decode cX12_go 98 = .ok (.invokevirtual 212, 3) := by decide +kernel
theorem dX12_go_101 : decode cX12_go 101 = .ok (.invokestatic 215, 3) := by decide +kernel
theorem dX12_go_104 : decode cX12_go 104 = .ok (.iinc 3 1, 3) := by decide +kernel
theorem dX12_go_107 : decode cX12_go 107 = .ok (.goto (-49), 3) := by decide +kernel
theorem dX12_go_110 : decode cX12_go 110 = .ok (.iconst 1, 1) := by decide +kernel
theorem dX12_go_111 : decode cX12_go 111 = .ok (.istore_n 3, 1) := by decide +kernel
theorem dX12_go_112 : decode cX12_go 112 = .ok (.iload_n 3, 1) := by decide +kernel
theorem dX12_go_113 : decode cX12_go 113 = .ok (.iconst 4, 1) := by decide +kernel
theorem dX12_go_114 : decode cX12_go 114 = .ok (.if_icmp .ge 196, 3) := by decide +kernel
theorem dX12_go_117 : decode cX12_go 117 = .ok (.iconst 0, 1) := by decide +kernel
theorem dX12_go_118 : decode cX12_go 118 = .ok (.istore 4, 2) := by decide +kernel
theorem dX12_go_120 : decode cX12_go 120 = .ok (.iload 4, 2) := by decide +kernel
theorem dX12_go_122 : decode cX12_go 122 = .ok (.aload_n 0, 1) := by decide +kernel
theorem dX12_go_123 : decode cX12_go 123 = .ok (.getfield 193, 3) := by decide +kernel
theorem dX12_go_126 : decode cX12_go 126 = .ok (.if_icmp .ge 16, 3) := by decide +kernel
theorem dX12_go_129 : decode cX12_go 129 = .ok (.aload_n 0, 1) := by decide +kernel
theorem dX12_go_130 : decode cX12_go 130 = .ok (.iload_n 3, 1) := by decide +kernel
theorem dX12_go_131 : decode cX12_go 131 = .ok (.iload 4, 2) := by decide +kernel
theorem dX12_go_133 : decode cX12_go 133 = .ok (.invokevirtual 219, 3) := by decide +kernel
theorem dX12_go_136 : decode cX12_go 136 = .ok (.iinc 4 1, 3) := by decide +kernel
theorem dX12_go_139 : decode cX12_go 139 = .ok (.goto (-19), 3) := by decide +kernel
theorem dX12_go_142 : decode cX12_go 142 = .ok (.iconst 0, 1) := by decide +kernel
theorem dX12_go_143 : decode cX12_go 143 = .ok (.istore 4, 2) := by decide +kernel
theorem dX12_go_145 : decode cX12_go 145 = .ok (.iload 4, 2) := by decide +kernel
theorem dX12_go_147 : decode cX12_go 147 = .ok (.bipush 28, 2) := by decide +kernel
theorem dX12_go_149 : decode cX12_go 149 = .ok (.if_icmp .ge 155, 3) := by decide +kernel
theorem dX12_go_152 : decode cX12_go 152 = .ok (.iconst 0, 1) := by decide +kernel
theorem dX12_go_153 : decode cX12_go 153 = .ok (.istore 5, 2) := by decide +kernel
theorem dX12_go_155 : decode cX12_go 155 = .ok (.iload 5, 2) := by decide +kernel
theorem dX12_go_157 : decode cX12_go 157 = .ok (.aload_n 0, 1) := by decide +kernel
theorem dX12_go_158 : decode cX12_go 158 = .ok (.getfield 147, 3) := by decide +kernel
theorem dX12_go_161 : decode cX12_go 161 = .ok (.if_icmp .ge 63, 3) := by decide +kernel
theorem dX12_go_164 : decode cX12_go 164 = .ok (.aload_n 0, 1) := by decide +kernel
theorem dX12_go_165 : decode cX12_go 165 = .ok (.getfield 101, 3) := by decide +kernel
theorem dX12_go_168 : decode cX12_go 168 = .ok (.iload_n 3, 1) := by decide +kernel
theorem dX12_go_169 : decode cX12_go 169 = .ok (.iload 4, 2) := by decide +kernel
theorem dX12_go_171 : decode cX12_go 171 = .ok (.iload 5, 2) := by decide +kernel
theorem dX12_go_173 : decode cX12_go 173 = .ok (.invokestatic 209, 3) := by decide +kernel
theorem dX12_go_176 : decode cX12_go 176 = .ok (.iaload, 1) := by decide +kernel
theorem dX12_go_177 : decode cX12_go 177 = .ok (.ldc 208, 2) := by decide +kernel
theorem dX12_go_179 : decode cX12_go 179 = .ok (.if_icmp .ge 39, 3) := by decide +kernel
theorem dX12_go_182 : decode cX12_go 182 = .ok (.aload_n 0, 1) := by decide +kernel
theorem dX12_go_183 : decode cX12_go 183 = .ok (.getfield 104, 3) := by decide +kernel
theorem dX12_go_186 : decode cX12_go 186 = .ok (.iload_n 3, 1) := by decide +kernel
theorem dX12_go_187 : decode cX12_go 187 = .ok (.iload 4, 2) := by decide +kernel
theorem dX12_go_189 : decode cX12_go 189 = .ok (.iload 5, 2) := by decide +kernel
theorem dX12_go_191 : decode cX12_go 191 = .ok (.invokestatic 209, 3) := by decide +kernel
theorem dX12_go_194 : decode cX12_go 194 = .ok (.aload_n 0, 1) := by decide +kernel
theorem dX12_go_195 : decode cX12_go 195 = .ok (.getfield 101, 3) := by decide +kernel
theorem dX12_go_198 : decode cX12_go 198 = .ok (.iload_n 3, 1) := by decide +kernel
theorem dX12_go_199 : decode cX12_go 199 = .ok (.iload 4, 2) := by decide +kernel
theorem dX12_go_201 : decode cX12_go 201 = .ok (.iload 5, 2) := by decide +kernel
theorem dX12_go_203 : decode cX12_go 203 = .ok (.invokestatic 209, 3) := by decide +kernel
theorem dX12_go_206 : decode cX12_go 206 = .ok (.iaload, 1) := by decide +kernel
theorem dX12_go_207 : decode cX12_go 207 = .ok (.aload_n 0, 1) := by decide +kernel
theorem dX12_go_208 : decode cX12_go 208 = .ok (.getfield 7, 3) := by decide +kernel
theorem dX12_go_211 : decode cX12_go 211 = .ok (.iload 5, 2) := by decide +kernel
theorem dX12_go_213 : decode cX12_go 213 = .ok (.iaload, 1) := by decide +kernel
theorem dX12_go_214 : decode cX12_go 214 = .ok (.iadd, 1) := by decide +kernel
theorem dX12_go_215 : decode cX12_go 215 = .ok (.invokestatic 215, 3) := by decide +kernel
theorem dX12_go_218 : decode cX12_go 218 = .ok (.iinc 5 1, 3) := by decide +kernel
theorem dX12_go_221 : decode cX12_go 221 = .ok (.goto (-66), 3) := by decide +kernel
theorem dX12_go_224 : decode cX12_go 224 = .ok (.iconst 0, 1) := by decide +kernel
theorem dX12_go_225 : decode cX12_go 225 = .ok (.istore 5, 2) := by decide +kernel
theorem dX12_go_227 : decode cX12_go 227 = .ok (.iload 5, 2) := by decide +kernel
theorem dX12_go_229 : decode cX12_go 229 = .ok (.aload_n 0, 1) := by decide +kernel
theorem dX12_go_230 : decode cX12_go 230 = .ok (.getfield 161, 3) := by decide +kernel
theorem dX12_go_233 : decode cX12_go 233 = .ok (.if_icmp .ge 65, 3) := by decide +kernel
theorem dX12_go_236 : decode cX12_go 236 = .ok (.aload_n 0, 1) := by decide +kernel
theorem dX12_go_237 : decode cX12_go 237 = .ok (.getfield 101, 3) := by decide +kernel
theorem dX12_go_240 : decode cX12_go 240 = .ok (.iload_n 3, 1) := by decide +kernel
theorem dX12_go_241 : decode cX12_go 241 = .ok (.iload 4, 2) := by decide +kernel
theorem dX12_go_243 : decode cX12_go 243 = .ok (.aload_n 0, 1) := by decide +kernel
theorem dX12_go_244 : decode cX12_go 244 = .ok (.getfield 50, 3) := by decide +kernel
theorem dX12_go_247 : decode cX12_go 247 = .ok (.iload 5, 2) := by decide +kernel
theorem dX12_go_249 : decode cX12_go 249 = .ok (.iaload, 1) := by decide +kernel
theorem dX12_go_250 : decode cX12_go 250 = .ok (.invokestatic 209, 3) := by decide +kernel
theorem dX12_go_253 : decode cX12_go 253 = .ok (.iaload, 1) := by decide +kernel
theorem dX12_go_254 : decode cX12_go 254 = .ok (.istore 6, 2) := by decide +kernel
theorem dX12_go_256 : decode cX12_go 256 = .ok (.iload 6, 2) := by decide +kernel
theorem dX12_go_258 : decode cX12_go 258 = .ok (.ldc 208, 2) := by decide +kernel
theorem dX12_go_260 : decode cX12_go 260 = .ok (.if_icmp .ge 32, 3) := by decide +kernel
theorem dX12_go_263 : decode cX12_go 263 = .ok (.aload_n 0, 1) := by decide +kernel
theorem dX12_go_264 : decode cX12_go 264 = .ok (.getfield 104, 3) := by decide +kernel
theorem dX12_go_267 : decode cX12_go 267 = .ok (.iload_n 3, 1) := by decide +kernel
theorem dX12_go_268 : decode cX12_go 268 = .ok (.iload 4, 2) := by decide +kernel
theorem dX12_go_270 : decode cX12_go 270 = .ok (.aload_n 0, 1) := by decide +kernel
theorem dX12_go_271 : decode cX12_go 271 = .ok (.getfield 53, 3) := by decide +kernel
theorem dX12_go_274 : decode cX12_go 274 = .ok (.iload 5, 2) := by decide +kernel
theorem dX12_go_276 : decode cX12_go 276 = .ok (.iaload, 1) := by decide +kernel
theorem dX12_go_277 : decode cX12_go 277 = .ok (.invokestatic 209, 3) := by decide +kernel
theorem dX12_go_280 : decode cX12_go 280 = .ok (.aload_n 0, 1) := by decide +kernel
theorem dX12_go_281 : decode cX12_go 281 = .ok (.iload 5, 2) := by decide +kernel
theorem dX12_go_283 : decode cX12_go 283 = .ok (.iload 6, 2) := by decide +kernel
theorem dX12_go_285 : decode cX12_go 285 = .ok (.iload_n 2, 1) := by decide +kernel
theorem dX12_go_286 : decode cX12_go 286 = .ok (.invokevirtual 212, 3) := by decide +kernel
theorem dX12_go_289 : decode cX12_go 289 = .ok (.invokestatic 215, 3) := by decide +kernel
theorem dX12_go_292 : decode cX12_go 292 = .ok (.iinc 5 1, 3) := by decide +kernel
theorem dX12_go_295 : decode cX12_go 295 = .ok (.goto (-68), 3) := by decide +kernel
theorem dX12_go_298 : decode cX12_go 298 = .ok (.iinc 4 1, 3) := by decide +kernel
theorem dX12_go_301 : decode cX12_go 301 = .ok (.goto (-156), 3) := by decide +kernel
theorem dX12_go_304 : decode cX12_go 304 = .ok (.iinc 3 1, 3) := by decide +kernel
theorem dX12_go_307 : decode cX12_go 307 = .ok (.goto (-195), 3) := by decide +kernel
theorem dX12_go_310 : decode cX12_go 310 = .ok (.return_, 1) := by decide +kernel
theorem dX12_least_0 : decode cX12_least 0 = .ok (.aload_n 0, 1) := by decide +kernel
theorem dX12_least_1 : decode cX12_least 1 = .ok (.iload_n 1, 1) := by decide +kernel
theorem dX12_least_2 : decode cX12_least 2 = .ok (.iload_n 2, 1) := by decide +kernel
theorem dX12_least_3 : decode cX12_least 3 = .ok (.aload_n 0, 1) := by decide +kernel
theorem dX12_least_4 : decode cX12_least 4 = .ok (.iload_n 1, 1) := by decide +kernel
theorem dX12_least_5 : decode cX12_least 5 = .ok (.iaload, 1) := by decide +kernel
theorem dX12_least_6 : decode cX12_least 6 = .ok (.if_icmp .ge 7, 3) := by decide +kernel
theorem dX12_least_9 : decode cX12_least 9 = .ok (.iload_n 2, 1) := by decide +kernel
theorem dX12_least_10 : decode cX12_least 10 = .ok (.goto 6, 3) := by decide +kernel
theorem dX12_least_13 : decode cX12_least 13 = .ok (.aload_n 0, 1) := by decide +kernel
theorem dX12_least_14 : decode cX12_least 14 = .ok (.iload_n 1, 1) := by decide +kernel
theorem dX12_least_15 : decode cX12_least 15 = .ok (.iaload, 1) := by decide +kernel
theorem dX12_least_16 : decode cX12_least 16 = .ok (.iastore, 1) := by decide +kernel
theorem dX12_least_17 : decode cX12_least 17 = .ok (.return_, 1) := by decide +kernel
theorem dX12_ride_0 : decode cX12_ride 0 = .ok (.aload_n 0, 1) := by decide +kernel
theorem dX12_ride_1 : decode cX12_ride 1 = .ok (.getfield 89, 3) := by decide +kernel
theorem dX12_ride_4 : decode cX12_ride 4 = .ok (.iload_n 2, 1) := by decide +kernel
theorem dX12_ride_5 : decode cX12_ride 5 = .ok (.iaload, 1) := by decide +kernel
theorem dX12_ride_6 : decode cX12_ride 6 = .ok (.istore_n 3, 1) := by decide +kernel
theorem dX12_ride_7 : decode cX12_ride 7 = .ok (.iconst 0, 1) := by decide +kernel
theorem dX12_ride_8 : decode cX12_ride 8 = .ok (.istore 4, 2) := by decide +kernel
theorem dX12_ride_10 : decode cX12_ride 10 = .ok (.iload 4, 2) := by decide +kernel
theorem dX12_ride_12 : decode cX12_ride 12 = .ok (.aload_n 0, 1) := by decide +kernel
theorem dX12_ride_13 : decode cX12_ride 13 = .ok (.getfield 31, 3) := by decide +kernel
theorem dX12_ride_16 : decode cX12_ride 16 = .ok (.iload_n 3, 1) := by decide +kernel
theorem dX12_ride_17 : decode cX12_ride 17 = .ok (.iaload, 1) := by decide +kernel
theorem dX12_ride_18 : decode cX12_ride 18 = .ok (.if_icmp .ge 182, 3) := by decide +kernel
theorem dX12_ride_21 : decode cX12_ride 21 = .ok (.iload 4, 2) := by decide +kernel
theorem dX12_ride_23 : decode cX12_ride 23 = .ok (.iconst 1, 1) := by decide +kernel
theorem dX12_ride_24 : decode cX12_ride 24 = .ok (.iadd, 1) := by decide +kernel
theorem dX12_ride_25 : decode cX12_ride 25 = .ok (.istore 5, 2) := by decide +kernel
theorem dX12_ride_27 : decode cX12_ride 27 = .ok (.iload 5, 2) := by decide +kernel
theorem dX12_ride_29 : decode cX12_ride 29 = .ok (.aload_n 0, 1) := by decide +kernel
theorem dX12_ride_30 : decode cX12_ride 30 = .ok (.getfield 31, 3) := by decide +kernel
theorem dX12_ride_33 : decode cX12_ride 33 = .ok (.iload_n 3, 1) := by decide +kernel
theorem dX12_ride_34 : decode cX12_ride 34 = .ok (.iaload, 1) := by decide +kernel
theorem dX12_ride_35 : decode cX12_ride 35 = .ok (.if_icmp .ge 159, 3) := by decide +kernel
theorem dX12_ride_38 : decode cX12_ride 38 = .ok (.aload_n 0, 1) := by decide +kernel
theorem dX12_ride_39 : decode cX12_ride 39 = .ok (.getfield 95, 3) := by decide +kernel
theorem dX12_ride_42 : decode cX12_ride 42 = .ok (.bipush 8, 2) := by decide +kernel
theorem dX12_ride_44 : decode cX12_ride 44 = .ok (.iload_n 2, 1) := by decide +kernel
theorem dX12_ride_45 : decode cX12_ride 45 = .ok (.imul, 1) := by decide +kernel
theorem dX12_ride_46 : decode cX12_ride 46 = .ok (.iload 5, 2) := by decide +kernel
theorem dX12_ride_48 : decode cX12_ride 48 = .ok (.iadd, 1) := by decide +kernel
theorem dX12_ride_49 : decode cX12_ride 49 = .ok (.iaload, 1) := by decide +kernel
theorem dX12_ride_50 : decode cX12_ride 50 = .ok (.aload_n 0, 1) := by decide +kernel
theorem dX12_ride_51 : decode cX12_ride 51 = .ok (.getfield 190, 3) := by decide +kernel
theorem dX12_ride_54 : decode cX12_ride 54 = .ok (.if_icmp .ge 134, 3) := by decide +kernel
theorem dX12_ride_57 : decode cX12_ride 57 = .ok (.aload_n 0, 1) := by decide +kernel
theorem dX12_ride_58 : decode cX12_ride 58 = .ok (.iload_n 3, 1) := by decide +kernel
theorem dX12_ride_59 : decode cX12_ride 59 = .ok (.aload_n 0, 1) := by decide +kernel
theorem dX12_ride_60 : decode cX12_ride 60 = .ok (.getfield 92, 3) := by decide +kernel
theorem dX12_ride_63 : decode cX12_ride 63 = .ok (.iload_n 2, 1) := by decide +kernel
theorem dX12_ride_64 : decode cX12_ride 64 = .ok (.iaload, 1) := by decide +kernel
theorem dX12_ride_65 : decode cX12_ride 65 = .ok (.iload 4, 2) := by decide +kernel
theorem dX12_ride_67 : decode cX12_ride 67 = .ok (.iload 5, 2) := by decide +kernel
theorem dX12_ride_69 : decode cX12_ride 69 = .ok (.invokevirtual 223, 3) := by decide +kernel
theorem dX12_ride_72 : decode cX12_ride 72 = .ok (.ifCond .ne 6, 3) := by decide +kernel
theorem dX12_ride_75 : decode cX12_ride 75 = .ok (.goto 113, 3) := by decide +kernel
theorem dX12_ride_78 : decode cX12_ride 78 = .ok (.aload_n 0, 1) := by decide +kernel
theorem dX12_ride_79 : decode cX12_ride 79 = .ok (.iload_n 3, 1) := by decide +kernel
theorem dX12_ride_80 : decode cX12_ride 80 = .ok (.iload 4, 2) := by decide +kernel
theorem dX12_ride_82 : decode cX12_ride 82 = .ok (.iload 5, 2) := by decide +kernel
theorem dX12_ride_84 : decode cX12_ride 84 = .ok (.invokevirtual 227, 3) := by decide +kernel
theorem dX12_ride_87 : decode cX12_ride 87 = .ok (.istore 6, 2) := by decide +kernel
theorem dX12_ride_89 : decode cX12_ride 89 = .ok (.iconst 0, 1) := by decide +kernel
theorem dX12_ride_90 : decode cX12_ride 90 = .ok (.istore 7, 2) := by decide +kernel
theorem dX12_ride_92 : decode cX12_ride 92 = .ok (.iload 7, 2) := by decide +kernel
theorem dX12_ride_94 : decode cX12_ride 94 = .ok (.iload 6, 2) := by decide +kernel
theorem dX12_ride_96 : decode cX12_ride 96 = .ok (.iadd, 1) := by decide +kernel
theorem dX12_ride_97 : decode cX12_ride 97 = .ok (.bipush 28, 2) := by decide +kernel
theorem dX12_ride_99 : decode cX12_ride 99 = .ok (.if_icmp .ge 89, 3) := by decide +kernel
theorem dX12_ride_102 : decode cX12_ride 102 = .ok (.aload_n 0, 1) := by decide +kernel
theorem dX12_ride_103 : decode cX12_ride 103 = .ok (.getfield 104, 3) := by decide +kernel
theorem dX12_ride_106 : decode cX12_ride 106 = .ok (.iload_n 1, 1) := by decide +kernel
theorem dX12_ride_107 : decode cX12_ride 107 = .ok (.iconst 1, 1) := by decide +kernel
theorem dX12_ride_108 : decode cX12_ride 108 = .ok (.isub, 1) := by decide +kernel
theorem dX12_ride_109 : decode cX12_ride 109 = .ok (.iload 7, 2) := by decide +kernel
theorem dX12_ride_111 : decode cX12_ride 111 = .ok (.aload_n 0, 1) := by decide +kernel
theorem dX12_ride_112 : decode cX12_ride 112 = .ok (.getfield 34, 3) := by decide +kernel
theorem dX12_ride_115 : decode cX12_ride 115 = .ok (.bipush 8, 2) := by decide +kernel
theorem dX12_ride_117 : decode cX12_ride 117 = .ok (.iload_n 3, 1) := by decide +kernel
theorem dX12_ride_118 : decode cX12_ride 118 = .ok (.imul, 1) := by decide +kernel
theorem dX12_ride_119 : decode cX12_ride 119 = .ok (.iload 4, 2) := by decide +kernel
theorem dX12_ride_121 : decode cX12_ride 121 = .ok (.iadd, 1) := by decide +kernel
theorem dX12_ride_122 : decode cX12_ride 122 = .ok (.iaload, 1) := by decide +kernel
theorem dX12_ride_123 : decode cX12_ride 123 = .ok (.invokestatic 209, 3) := by decide +kernel
theorem dX12_ride_126 : decode cX12_ride 126 = .ok (.iaload, 1) := by decide +kernel
theorem dX12_ride_127 : decode cX12_ride 127 = .ok (.aload_n 0, 1) := by decide +kernel
theorem dX12_ride_128 : decode cX12_ride 128 = .ok (.getfield 98, 3) := by decide +kernel
theorem dX12_ride_131 : decode cX12_ride 131 = .ok (.bipush 8, 2) := by decide +kernel
theorem dX12_ride_133 : decode cX12_ride 133 = .ok (.iload_n 2, 1) := by decide +kernel
theorem dX12_ride_134 : decode cX12_ride 134 = .ok (.imul, 1) := by decide +kernel
theorem dX12_ride_135 : decode cX12_ride 135 = .ok (.iload 4, 2) := by decide +kernel
theorem dX12_ride_137 : decode cX12_ride 137 = .ok (.iadd, 1) := by decide +kernel
theorem dX12_ride_138 : decode cX12_ride 138 = .ok (.iaload, 1) := by decide +kernel
theorem dX12_ride_139 : decode cX12_ride 139 = .ok (.if_icmp .gt 43, 3) := by decide +kernel
theorem dX12_ride_142 : decode cX12_ride 142 = .ok (.aload_n 0, 1) := by decide +kernel
theorem dX12_ride_143 : decode cX12_ride 143 = .ok (.getfield 101, 3) := by decide +kernel
theorem dX12_ride_146 : decode cX12_ride 146 = .ok (.iload_n 1, 1) := by decide +kernel
theorem dX12_ride_147 : decode cX12_ride 147 = .ok (.iload 7, 2) := by decide +kernel
theorem dX12_ride_149 : decode cX12_ride 149 = .ok (.iload 6, 2) := by decide +kernel
theorem dX12_ride_151 : decode cX12_ride 151 = .ok (.iadd, 1) := by decide +kernel
theorem dX12_ride_152 : decode cX12_ride 152 = .ok (.aload_n 0, 1) := by decide +kernel
theorem dX12_ride_153 : decode cX12_ride 153 = .ok (.getfield 34, 3) := by decide +kernel
theorem dX12_ride_156 : decode cX12_ride 156 = .ok (.bipush 8, 2) := by decide +kernel
theorem dX12_ride_158 : decode cX12_ride 158 = .ok (.iload_n 3, 1) := by decide +kernel
theorem dX12_ride_159 : decode cX12_ride 159 = .ok (.imul, 1) := by decide +kernel
theorem dX12_ride_160 : decode cX12_ride 160 = .ok (.iload 5, 2) := by decide +kernel
theorem dX12_ride_162 : decode cX12_ride 162 = .ok (.iadd, 1) := by decide +kernel
theorem dX12_ride_163 : decode cX12_ride 163 = .ok (.iaload, 1) := by decide +kernel
theorem dX12_ride_164 : decode cX12_ride 164 = .ok (.invokestatic 209, 3) := by decide +kernel
theorem dX12_ride_167 : decode cX12_ride 167 = .ok (.aload_n 0, 1) := by decide +kernel
theorem dX12_ride_168 : decode cX12_ride 168 = .ok (.getfield 95, 3) := by decide +kernel
theorem dX12_ride_171 : decode cX12_ride 171 = .ok (.bipush 8, 2) := by decide +kernel
theorem dX12_ride_173 : decode cX12_ride 173 = .ok (.iload_n 2, 1) := by decide +kernel
theorem dX12_ride_174 : decode cX12_ride 174 = .ok (.imul, 1) := by decide +kernel
theorem dX12_ride_175 : decode cX12_ride 175 = .ok (.iload 5, 2) := by decide +kernel
theorem dX12_ride_177 : decode cX12_ride 177 = .ok (.iadd, 1) := by decide +kernel
theorem dX12_ride_178 : decode cX12_ride 178 = .ok (.iaload, 1) := by decide +kernel
theorem dX12_ride_179 : decode cX12_ride 179 = .ok (.invokestatic 215, 3) := by decide +kernel
theorem dX12_ride_182 : decode cX12_ride 182 = .ok (.iinc 7 1, 3) := by decide +kernel
theorem dX12_ride_185 : decode cX12_ride 185 = .ok (.goto (-93), 3) := by decide +kernel
theorem dX12_ride_188 : decode cX12_ride 188 = .ok (.iinc 5 1, 3) := by decide +kernel
theorem dX12_ride_191 : decode cX12_ride 191 = .ok (.goto (-164), 3) := by decide +kernel
theorem dX12_ride_194 : decode cX12_ride 194 = .ok (.iinc 4 1, 3) := by decide +kernel
theorem dX12_ride_197 : decode cX12_ride 197 = .ok (.goto (-187), 3) := by decide +kernel
theorem dX12_ride_200 : decode cX12_ride 200 = .ok (.return_, 1) := by decide +kernel
theorem dX12_arrival_0 : decode cX12_arrival 0 = .ok (.iload_n 1, 1) := by decide +kernel
theorem dX12_arrival_1 : decode cX12_arrival 1 = .ok (.ifCond .le 17, 3) := by decide +kernel
theorem dX12_arrival_4 : decode cX12_arrival 4 = .ok (.aload_n 0, 1) := by decide +kernel
theorem dX12_arrival_5 : decode cX12_arrival 5 = .ok (.getfield 101, 3) := by decide +kernel
theorem dX12_arrival_8 : decode cX12_arrival 8 = .ok (.iload_n 1, 1) := by decide +kernel
theorem dX12_arrival_9 : decode cX12_arrival 9 = .ok (.iload_n 2, 1) := by decide +kernel
theorem dX12_arrival_10 : decode cX12_arrival 10 = .ok (.iload_n 3, 1) := by decide +kernel
theorem dX12_arrival_11 : decode cX12_arrival 11 = .ok (.invokestatic 209, 3) := by decide +kernel
theorem dX12_arrival_14 : decode cX12_arrival 14 = .ok (.iaload, 1) := by decide +kernel
theorem dX12_arrival_15 : decode cX12_arrival 15 = .ok (.goto 24, 3) := by decide +kernel
theorem dX12_arrival_18 : decode cX12_arrival 18 = .ok (.iload_n 2, 1) := by decide +kernel
theorem dX12_arrival_19 : decode cX12_arrival 19 = .ok (.ifCond .ne 18, 3) := by decide +kernel
theorem dX12_arrival_22 : decode cX12_arrival 22 = .ok (.iload_n 3, 1) := by decide +kernel
theorem dX12_arrival_23 : decode cX12_arrival 23 = .ok (.aload_n 0, 1) := by decide +kernel
theorem dX12_arrival_24 : decode cX12_arrival 24 = .ok (.getfield 205, 3) := by decide +kernel
theorem dX12_arrival_27 : decode cX12_arrival 27 = .ok (.if_icmp .ne 10, 3) := by decide +kernel
theorem dX12_arrival_30 : decode cX12_arrival 30 = .ok (.aload_n 0, 1) := by decide +kernel
theorem dX12_arrival_31 : decode cX12_arrival 31 = .ok (.getfield 187, 3) := by decide +kernel
theorem dX12_arrival_34 : decode cX12_arrival 34 = .ok (.goto 5, 3) := by decide +kernel
theorem dX12_arrival_37 : decode cX12_arrival 37 = .ok (.ldc 208, 2) := by decide +kernel
theorem dX12_arrival_39 : decode cX12_arrival 39 = .ok (.istore 4, 2) := by decide +kernel
theorem dX12_arrival_41 : decode cX12_arrival 41 = .ok (.iconst 0, 1) := by decide +kernel
theorem dX12_arrival_42 : decode cX12_arrival 42 = .ok (.istore 5, 2) := by decide +kernel
theorem dX12_arrival_44 : decode cX12_arrival 44 = .ok (.iload 5, 2) := by decide +kernel
theorem dX12_arrival_46 : decode cX12_arrival 46 = .ok (.aload_n 0, 1) := by decide +kernel
theorem dX12_arrival_47 : decode cX12_arrival 47 = .ok (.getfield 161, 3) := by decide +kernel
theorem dX12_arrival_50 : decode cX12_arrival 50 = .ok (.if_icmp .ge 116, 3) := by decide +kernel
theorem dX12_arrival_53 : decode cX12_arrival 53 = .ok (.aload_n 0, 1) := by decide +kernel
theorem dX12_arrival_54 : decode cX12_arrival 54 = .ok (.getfield 53, 3) := by decide +kernel
theorem dX12_arrival_57 : decode cX12_arrival 57 = .ok (.iload 5, 2) := by decide +kernel
theorem dX12_arrival_59 : decode cX12_arrival 59 = .ok (.iaload, 1) := by decide +kernel
theorem dX12_arrival_60 : decode cX12_arrival 60 = .ok (.iload_n 3, 1) := by decide +kernel
theorem dX12_arrival_61 : decode cX12_arrival 61 = .ok (.if_icmp .eq 6, 3) := by decide +kernel
theorem dX12_arrival_64 : decode cX12_arrival 64 = .ok (.goto 96, 3) := by decide +kernel
theorem dX12_arrival_67 : decode cX12_arrival 67 = .ok (.iload_n 1, 1) := by decide +kernel
theorem dX12_arrival_68 : decode cX12_arrival 68 = .ok (.ifCond .le 23, 3) := by decide +kernel
theorem dX12_arrival_71 : decode cX12_arrival 71 = .ok (.aload_n 0, 1) := by decide +kernel
theorem dX12_arrival_72 : decode cX12_arrival 72 = .ok (.getfield 101, 3) := by decide +kernel
theorem dX12_arrival_75 : decode cX12_arrival 75 = .ok (.iload_n 1, 1) := by decide +kernel
theorem dX12_arrival_76 : decode cX12_arrival 76 = .ok (.iload_n 2, 1) := by decide +kernel
theorem dX12_arrival_77 : decode cX12_arrival 77 = .ok (.aload_n 0, 1) := by decide +kernel
theorem dX12_arrival_78 : decode cX12_arrival 78 = .ok (.getfield 50, 3) := by decide +kernel
theorem dX12_arrival_81 : decode cX12_arrival 81 = .ok (.iload 5, 2) := by decide +kernel
theorem dX12_arrival_83 : decode cX12_arrival 83 = .ok (.iaload, 1) := by decide +kernel
theorem dX12_arrival_84 : decode cX12_arrival 84 = .ok (.invokestatic 209, 3) := by decide +kernel
theorem dX12_arrival_87 : decode cX12_arrival 87 = .ok (.iaload, 1) := by decide +kernel
theorem dX12_arrival_88 : decode cX12_arrival 88 = .ok (.goto 30, 3) := by decide +kernel
theorem dX12_arrival_91 : decode cX12_arrival 91 = .ok (.iload_n 2, 1) := by decide +kernel
theorem dX12_arrival_92 : decode cX12_arrival 92 = .ok (.ifCond .ne 24, 3) := by decide +kernel
theorem dX12_arrival_95 : decode cX12_arrival 95 = .ok (.aload_n 0, 1) := by decide +kernel
theorem dX12_arrival_96 : decode cX12_arrival 96 = .ok (.getfield 50, 3) := by decide +kernel
theorem dX12_arrival_99 : decode cX12_arrival 99 = .ok (.iload 5, 2) := by decide +kernel
theorem dX12_arrival_101 : decode cX12_arrival 101 = .ok (.iaload, 1) := by decide +kernel
theorem dX12_arrival_102 : decode cX12_arrival 102 = .ok (.aload_n 0, 1) := by decide +kernel
theorem dX12_arrival_103 : decode cX12_arrival 103 = .ok (.getfield 205, 3) := by decide +kernel
theorem dX12_arrival_106 : decode cX12_arrival 106 = .ok (.if_icmp .ne 10, 3) := by decide +kernel
theorem dX12_arrival_109 : decode cX12_arrival 109 = .ok (.aload_n 0, 1) := by decide +kernel
theorem dX12_arrival_110 : decode cX12_arrival 110 = .ok (.getfield 187, 3) := by decide +kernel
theorem dX12_arrival_113 : decode cX12_arrival 113 = .ok (.goto 5, 3) := by decide +kernel
theorem dX12_arrival_116 : decode cX12_arrival 116 = .ok (.ldc 208, 2) := by decide +kernel
theorem dX12_arrival_118 : decode cX12_arrival 118 = .ok (.istore 6, 2) := by decide +kernel
theorem dX12_arrival_120 : decode cX12_arrival 120 = .ok (.iload 6, 2) := by decide +kernel
theorem dX12_arrival_122 : decode cX12_arrival 122 = .ok (.ldc 208, 2) := by decide +kernel
theorem dX12_arrival_124 : decode cX12_arrival 124 = .ok (.if_icmp .ne 6, 3) := by decide +kernel
theorem dX12_arrival_127 : decode cX12_arrival 127 = .ok (.goto 33, 3) := by decide +kernel
theorem dX12_arrival_130 : decode cX12_arrival 130 = .ok (.aload_n 0, 1) := by decide +kernel
theorem dX12_arrival_131 : decode cX12_arrival 131 = .ok (.iload 5, 2) := by decide +kernel
theorem dX12_arrival_133 : decode cX12_arrival 133 = .ok (.iload 6, 2) := by decide +kernel
theorem dX12_arrival_135 : decode cX12_arrival 135 = .ok (.aload_n 0, 1) := by decide +kernel
theorem dX12_arrival_136 : decode cX12_arrival 136 = .ok (.getfield 187, 3) := by decide +kernel
theorem dX12_arrival_139 : decode cX12_arrival 139 = .ok (.invokevirtual 212, 3) := by decide +kernel
theorem dX12_arrival_142 : decode cX12_arrival 142 = .ok (.istore 7, 2) := by decide +kernel
theorem dX12_arrival_144 : decode cX12_arrival 144 = .ok (.iload 7, 2) := by decide +kernel
theorem dX12_arrival_146 : decode cX12_arrival 146 = .ok (.iload 4, 2) := by decide +kernel
theorem dX12_arrival_148 : decode cX12_arrival 148 = .ok (.if_icmp .ge 8, 3) := by decide +kernel
theorem dX12_arrival_151 : decode cX12_arrival 151 = .ok (.iload 7, 2) := by decide +kernel
theorem dX12_arrival_153 : decode cX12_arrival 153 = .ok (.goto 5, 3) := by decide +kernel
theorem dX12_arrival_156 : decode cX12_arrival 156 = .ok (.iload 4, 2) := by decide +kernel
theorem dX12_arrival_158 : decode cX12_arrival 158 = .ok (.istore 4, 2) := by decide +kernel
theorem dX12_arrival_160 : decode cX12_arrival 160 = .ok (.iinc 5 1, 3) := by decide +kernel
theorem dX12_arrival_163 : decode cX12_arrival 163 = .ok (.goto (-119), 3) := by decide +kernel
theorem dX12_arrival_166 : decode cX12_arrival 166 = .ok (.iload 4, 2) := by decide +kernel
theorem dX12_arrival_168 : decode cX12_arrival 168 = .ok (.aload_n 0, 1) := by decide +kernel
theorem dX12_arrival_169 : decode cX12_arrival 169 = .ok (.getfield 190, 3) := by decide +kernel
theorem dX12_arrival_172 : decode cX12_arrival 172 = .ok (.if_icmp .ge 8, 3) := by decide +kernel
theorem dX12_arrival_175 : decode cX12_arrival 175 = .ok (.iload 4, 2) := by decide +kernel
theorem dX12_arrival_177 : decode cX12_arrival 177 = .ok (.goto 5, 3) := by decide +kernel
theorem dX12_arrival_180 : decode cX12_arrival 180 = .ok (.ldc 208, 2) := by decide +kernel
theorem dX12_arrival_182 : decode cX12_arrival 182 = .ok (.ireturn, 1) := by decide +kernel
theorem dX12_soonestOf_0 : decode cX12_soonestOf 0 = .ok (.ldc 208, 2) := by decide +kernel
theorem dX12_soonestOf_2 : decode cX12_soonestOf 2 = .ok (.istore_n 2, 1) := by decide +kernel
theorem dX12_soonestOf_3 : decode cX12_soonestOf 3 = .ok (.iconst 0, 1) := by decide +kernel
theorem dX12_soonestOf_4 : decode cX12_soonestOf 4 = .ok (.istore_n 3, 1) := by decide +kernel
theorem dX12_soonestOf_5 : decode cX12_soonestOf 5 = .ok (.iload_n 3, 1) := by decide +kernel
theorem dX12_soonestOf_6 : decode cX12_soonestOf 6 = .ok (.iconst 4, 1) := by decide +kernel
theorem dX12_soonestOf_7 : decode cX12_soonestOf 7 = .ok (.if_icmp .ge 48, 3) := by decide +kernel
theorem dX12_soonestOf_10 : decode cX12_soonestOf 10 = .ok (.iconst 0, 1) := by decide +kernel
theorem dX12_soonestOf_11 : decode cX12_soonestOf 11 = .ok (.istore 4, 2) := by decide +kernel
theorem dX12_soonestOf_13 : decode cX12_soonestOf 13 = .ok (.iload 4, 2) := by decide +kernel
theorem dX12_soonestOf_15 : decode cX12_soonestOf 15 = .ok (.bipush 28, 2) := by decide +kernel
theorem dX12_soonestOf_17 : decode cX12_soonestOf 17 = .ok (.if_icmp .ge 32, 3) := by decide +kernel
theorem dX12_soonestOf_20 : decode cX12_soonestOf 20 = .ok (.aload_n 0, 1) := by decide +kernel
theorem dX12_soonestOf_21 : decode cX12_soonestOf 21 = .ok (.iload_n 3, 1) := by decide +kernel
theorem dX12_soonestOf_22 : decode cX12_soonestOf 22 = .ok (.iload 4, 2) := by decide +kernel
theorem dX12_soonestOf_24 : decode cX12_soonestOf 24 = .ok (.iload_n 1, 1) := by decide +kernel
theorem dX12_soonestOf_25 : decode cX12_soonestOf 25 = .ok (.invokevirtual 230, 3) := by decide +kernel
theorem dX12_soonestOf_28 : decode cX12_soonestOf 28 = .ok (.istore 5, 2) := by decide +kernel
theorem dX12_soonestOf_30 : decode cX12_soonestOf 30 = .ok (.iload 5, 2) := by decide +kernel
theorem dX12_soonestOf_32 : decode cX12_soonestOf 32 = .ok (.iload_n 2, 1) := by decide +kernel
theorem dX12_soonestOf_33 : decode cX12_soonestOf 33 = .ok (.if_icmp .ge 8, 3) := by decide +kernel
theorem dX12_soonestOf_36 : decode cX12_soonestOf 36 = .ok (.iload 5, 2) := by decide +kernel
theorem dX12_soonestOf_38 : decode cX12_soonestOf 38 = .ok (.goto 4, 3) := by decide +kernel
theorem dX12_soonestOf_41 : decode cX12_soonestOf 41 = .ok (.iload_n 2, 1) := by decide +kernel
theorem dX12_soonestOf_42 : decode cX12_soonestOf 42 = .ok (.istore_n 2, 1) := by decide +kernel
theorem dX12_soonestOf_43 : decode cX12_soonestOf 43 = .ok (.iinc 4 1, 3) := by decide +kernel
theorem dX12_soonestOf_46 : decode cX12_soonestOf 46 = .ok (.goto (-33), 3) := by decide +kernel
theorem dX12_soonestOf_49 : decode cX12_soonestOf 49 = .ok (.iinc 3 1, 3) := by decide +kernel
theorem dX12_soonestOf_52 : decode cX12_soonestOf 52 = .ok (.goto (-47), 3) := by decide +kernel
theorem dX12_soonestOf_55 : decode cX12_soonestOf 55 = .ok (.iload_n 2, 1) := by decide +kernel
theorem dX12_soonestOf_56 : decode cX12_soonestOf 56 = .ok (.ireturn, 1) := by decide +kernel
theorem dX12_putWalk_0 : decode cX12_putWalk 0 = .ok (.bipush 9, 2) := by decide +kernel
theorem dX12_putWalk_2 : decode cX12_putWalk 2 = .ok (.aload_n 0, 1) := by decide +kernel
theorem dX12_putWalk_3 : decode cX12_putWalk 3 = .ok (.getfield 233, 3) := by decide +kernel
theorem dX12_putWalk_6 : decode cX12_putWalk 6 = .ok (.imul, 1) := by decide +kernel
theorem dX12_putWalk_7 : decode cX12_putWalk 7 = .ok (.istore_n 2, 1) := by decide +kernel
theorem dX12_putWalk_8 : decode cX12_putWalk 8 = .ok (.aload_n 0, 1) := by decide +kernel
theorem dX12_putWalk_9 : decode cX12_putWalk 9 = .ok (.getfield 125, 3) := by decide +kernel
theorem dX12_putWalk_12 : decode cX12_putWalk 12 = .ok (.iload_n 2, 1) := by decide +kernel
theorem dX12_putWalk_13 : decode cX12_putWalk 13 = .ok (.aload_n 0, 1) := by decide +kernel
theorem dX12_putWalk_14 : decode cX12_putWalk 14 = .ok (.getfield 59, 3) := by decide +kernel
theorem dX12_putWalk_17 : decode cX12_putWalk 17 = .ok (.iload_n 1, 1) := by decide +kernel
theorem dX12_putWalk_18 : decode cX12_putWalk 18 = .ok (.iaload, 1) := by decide +kernel
theorem dX12_putWalk_19 : decode cX12_putWalk 19 = .ok (.iastore, 1) := by decide +kernel
theorem dX12_putWalk_20 : decode cX12_putWalk 20 = .ok (.aload_n 0, 1) := by decide +kernel
theorem dX12_putWalk_21 : decode cX12_putWalk 21 = .ok (.getfield 125, 3) := by decide +kernel
theorem dX12_putWalk_24 : decode cX12_putWalk 24 = .ok (.iload_n 2, 1) := by decide +kernel
theorem dX12_putWalk_25 : decode cX12_putWalk 25 = .ok (.iconst 1, 1) := by decide +kernel
theorem dX12_putWalk_26 : decode cX12_putWalk 26 = .ok (.iadd, 1) := by decide +kernel
theorem dX12_putWalk_27 : decode cX12_putWalk 27 = .ok (.iload_n 1, 1) := by decide +kernel
theorem dX12_putWalk_28 : decode cX12_putWalk 28 = .ok (.iastore, 1) := by decide +kernel
theorem dX12_putWalk_29 : decode cX12_putWalk 29 = .ok (.aload_n 0, 1) := by decide +kernel
theorem dX12_putWalk_30 : decode cX12_putWalk 30 = .ok (.getfield 125, 3) := by decide +kernel
theorem dX12_putWalk_33 : decode cX12_putWalk 33 = .ok (.iload_n 2, 1) := by decide +kernel
theorem dX12_putWalk_34 : decode cX12_putWalk 34 = .ok (.iconst 2, 1) := by decide +kernel
theorem dX12_putWalk_35 : decode cX12_putWalk 35 = .ok (.iadd, 1) := by decide +kernel
theorem dX12_putWalk_36 : decode cX12_putWalk 36 = .ok (.aload_n 0, 1) := by decide +kernel
theorem dX12_putWalk_37 : decode cX12_putWalk 37 = .ok (.getfield 50, 3) := by decide +kernel
theorem dX12_putWalk_40 : decode cX12_putWalk 40 = .ok (.iload_n 1, 1) := by decide +kernel
theorem dX12_putWalk_41 : decode cX12_putWalk 41 = .ok (.iaload, 1) := by decide +kernel
theorem dX12_putWalk_42 : decode cX12_putWalk 42 = .ok (.iastore, 1) := by decide +kernel
theorem dX12_putWalk_43 : decode cX12_putWalk 43 = .ok (.aload_n 0, 1) := by decide +kernel
theorem dX12_putWalk_44 : decode cX12_putWalk 44 = .ok (.getfield 125, 3) := by decide +kernel
theorem dX12_putWalk_47 : decode cX12_putWalk 47 = .ok (.iload_n 2, 1) := by decide +kernel
theorem dX12_putWalk_48 : decode cX12_putWalk 48 = .ok (.iconst 3, 1) := by decide +kernel
theorem dX12_putWalk_49 : decode cX12_putWalk 49 = .ok (.iadd, 1) := by decide +kernel
theorem dX12_putWalk_50 : decode cX12_putWalk 50 = .ok (.aload_n 0, 1) := by decide +kernel
theorem dX12_putWalk_51 : decode cX12_putWalk 51 = .ok (.getfield 53, 3) := by decide +kernel
theorem dX12_putWalk_54 : decode cX12_putWalk 54 = .ok (.iload_n 1, 1) := by decide +kernel
theorem dX12_putWalk_55 : decode cX12_putWalk 55 = .ok (.iaload, 1) := by decide +kernel
theorem dX12_putWalk_56 : decode cX12_putWalk 56 = .ok (.iastore, 1) := by decide +kernel
theorem dX12_putWalk_57 : decode cX12_putWalk 57 = .ok (.aload_n 0, 1) := by decide +kernel
theorem dX12_putWalk_58 : decode cX12_putWalk 58 = .ok (.getfield 125, 3) := by decide +kernel
theorem dX12_putWalk_61 : decode cX12_putWalk 61 = .ok (.iload_n 2, 1) := by decide +kernel
theorem dX12_putWalk_62 : decode cX12_putWalk 62 = .ok (.bipush 6, 2) := by decide +kernel
theorem dX12_putWalk_64 : decode cX12_putWalk 64 = .ok (.iadd, 1) := by decide +kernel
theorem dX12_putWalk_65 : decode cX12_putWalk 65 = .ok (.iconst (-1), 1) := by decide +kernel
theorem dX12_putWalk_66 : decode cX12_putWalk 66 = .ok (.iastore, 1) := by decide +kernel
theorem dX12_putWalk_67 : decode cX12_putWalk 67 = .ok (.aload_n 0, 1) := by decide +kernel
theorem dX12_putWalk_68 : decode cX12_putWalk 68 = .ok (.getfield 125, 3) := by decide +kernel
theorem dX12_putWalk_71 : decode cX12_putWalk 71 = .ok (.iload_n 2, 1) := by decide +kernel
theorem dX12_putWalk_72 : decode cX12_putWalk 72 = .ok (.bipush 7, 2) := by decide +kernel
theorem dX12_putWalk_74 : decode cX12_putWalk 74 = .ok (.iadd, 1) := by decide +kernel
theorem dX12_putWalk_75 : decode cX12_putWalk 75 = .ok (.iconst (-1), 1) := by decide +kernel
theorem dX12_putWalk_76 : decode cX12_putWalk 76 = .ok (.iastore, 1) := by decide +kernel
theorem dX12_putWalk_77 : decode cX12_putWalk 77 = .ok (.aload_n 0, 1) := by decide +kernel
theorem dX12_putWalk_78 : decode cX12_putWalk 78 = .ok (.getfield 125, 3) := by decide +kernel
theorem dX12_putWalk_81 : decode cX12_putWalk 81 = .ok (.iload_n 2, 1) := by decide +kernel
theorem dX12_putWalk_82 : decode cX12_putWalk 82 = .ok (.bipush 8, 2) := by decide +kernel
theorem dX12_putWalk_84 : decode cX12_putWalk 84 = .ok (.iadd, 1) := by decide +kernel
theorem dX12_putWalk_85 : decode cX12_putWalk 85 = .ok (.iconst (-1), 1) := by decide +kernel
theorem dX12_putWalk_86 : decode cX12_putWalk 86 = .ok (.iastore, 1) := by decide +kernel
theorem dX12_putWalk_87 : decode cX12_putWalk 87 = .ok (.aload_n 0, 1) := by decide +kernel
theorem dX12_putWalk_88 : decode cX12_putWalk 88 = .ok (.dup, 1) := by decide +kernel
theorem dX12_putWalk_89 : decode cX12_putWalk 89 = .ok (.getfield 233, 3) := by decide +kernel
theorem dX12_putWalk_92 : decode cX12_putWalk 92 = .ok (.iconst 1, 1) := by decide +kernel
theorem dX12_putWalk_93 : decode cX12_putWalk 93 = .ok (.iadd, 1) := by decide +kernel
theorem dX12_putWalk_94 : decode cX12_putWalk 94 = .ok (.putfield 233, 3) := by decide +kernel
theorem dX12_putWalk_97 : decode cX12_putWalk 97 = .ok (.return_, 1) := by decide +kernel
theorem dX12_putRide_0 : decode cX12_putRide 0 = .ok (.aload_n 0, 1) := by decide +kernel
theorem dX12_putRide_1 : decode cX12_putRide 1 = .ok (.getfield 89, 3) := by decide +kernel
theorem dX12_putRide_4 : decode cX12_putRide 4 = .ok (.iload_n 1, 1) := by decide +kernel
theorem dX12_putRide_5 : decode cX12_putRide 5 = .ok (.iaload, 1) := by decide +kernel
theorem dX12_putRide_6 : decode cX12_putRide 6 = .ok (.istore 4, 2) := by decide +kernel
theorem dX12_putRide_8 : decode cX12_putRide 8 = .ok (.bipush 9, 2) := by decide +kernel
theorem dX12_putRide_10 : decode cX12_putRide 10 = .ok (.aload_n 0, 1) := by decide +kernel
theorem dX12_putRide_11 : decode cX12_putRide 11 = .ok (.getfield 233, 3) := by decide +kernel
theorem dX12_putRide_14 : decode cX12_putRide 14 = .ok (.imul, 1) := by decide +kernel
theorem dX12_putRide_15 : decode cX12_putRide 15 = .ok (.istore 5, 2) := by decide +kernel
theorem dX12_putRide_17 : decode cX12_putRide 17 = .ok (.aload_n 0, 1) := by decide +kernel
theorem dX12_putRide_18 : decode cX12_putRide 18 = .ok (.getfield 125, 3) := by decide +kernel
theorem dX12_putRide_21 : decode cX12_putRide 21 = .ok (.iload 5, 2) := by decide +kernel
theorem dX12_putRide_23 : decode cX12_putRide 23 = .ok (.aload_n 0, 1) := by decide +kernel
theorem dX12_putRide_24 : decode cX12_putRide 24 = .ok (.getfield 22, 3) := by decide +kernel
theorem dX12_putRide_27 : decode cX12_putRide 27 = .ok (.iload 4, 2) := by decide +kernel
theorem dX12_putRide_29 : decode cX12_putRide 29 = .ok (.iaload, 1) := by decide +kernel
theorem dX12_putRide_30 : decode cX12_putRide 30 = .ok (.iastore, 1) := by decide +kernel
theorem dX12_putRide_31 : decode cX12_putRide 31 = .ok (.aload_n 0, 1) := by decide +kernel
theorem dX12_putRide_32 : decode cX12_putRide 32 = .ok (.getfield 125, 3) := by decide +kernel
theorem dX12_putRide_35 : decode cX12_putRide 35 = .ok (.iload 5, 2) := by decide +kernel
theorem dX12_putRide_37 : decode cX12_putRide 37 = .ok (.iconst 1, 1) := by decide +kernel
theorem dX12_putRide_38 : decode cX12_putRide 38 = .ok (.iadd, 1) := by decide +kernel
theorem dX12_putRide_39 : decode cX12_putRide 39 = .ok (.iload 4, 2) := by decide +kernel
theorem dX12_putRide_41 : decode cX12_putRide 41 = .ok (.iastore, 1) := by decide +kernel
theorem dX12_putRide_42 : decode cX12_putRide 42 = .ok (.aload_n 0, 1) := by decide +kernel
theorem dX12_putRide_43 : decode cX12_putRide 43 = .ok (.getfield 125, 3) := by decide +kernel
theorem dX12_putRide_46 : decode cX12_putRide 46 = .ok (.iload 5, 2) := by decide +kernel
theorem dX12_putRide_48 : decode cX12_putRide 48 = .ok (.iconst 2, 1) := by decide +kernel
theorem dX12_putRide_49 : decode cX12_putRide 49 = .ok (.iadd, 1) := by decide +kernel
theorem dX12_putRide_50 : decode cX12_putRide 50 = .ok (.aload_n 0, 1) := by decide +kernel
theorem dX12_putRide_51 : decode cX12_putRide 51 = .ok (.getfield 34, 3) := by decide +kernel
theorem dX12_putRide_54 : decode cX12_putRide 54 = .ok (.bipush 8, 2) := by decide +kernel
theorem dX12_putRide_56 : decode cX12_putRide 56 = .ok (.iload 4, 2) := by decide +kernel
theorem dX12_putRide_58 : decode cX12_putRide 58 = .ok (.imul, 1) := by decide +kernel
theorem dX12_putRide_59 : decode cX12_putRide 59 = .ok (.iload_n 2, 1) := by decide +kernel
theorem dX12_putRide_60 : decode cX12_putRide 60 = .ok (.iadd, 1) := by decide +kernel
theorem dX12_putRide_61 : decode cX12_putRide 61 = .ok (.iaload, 1) := by decide +kernel
theorem dX12_putRide_62 : decode cX12_putRide 62 = .ok (.iastore, 1) := by decide +kernel
theorem dX12_putRide_63 : decode cX12_putRide 63 = .ok (.aload_n 0, 1) := by decide +kernel
theorem dX12_putRide_64 : decode cX12_putRide 64 = .ok (.getfield 125, 3) := by decide +kernel
theorem dX12_putRide_67 : decode cX12_putRide 67 = .ok (.iload 5, 2) := by decide +kernel
theorem dX12_putRide_69 : decode cX12_putRide 69 = .ok (.iconst 3, 1) := by decide +kernel
theorem dX12_putRide_70 : decode cX12_putRide 70 = .ok (.iadd, 1) := by decide +kernel
theorem dX12_putRide_71 : decode cX12_putRide 71 = .ok (.aload_n 0, 1) := by decide +kernel
theorem dX12_putRide_72 : decode cX12_putRide 72 = .ok (.getfield 34, 3) := by decide +kernel
theorem dX12_putRide_75 : decode cX12_putRide 75 = .ok (.bipush 8, 2) := by decide +kernel
theorem dX12_putRide_77 : decode cX12_putRide 77 = .ok (.iload 4, 2) := by decide +kernel
theorem dX12_putRide_79 : decode cX12_putRide 79 = .ok (.imul, 1) := by decide +kernel
theorem dX12_putRide_80 : decode cX12_putRide 80 = .ok (.iload_n 3, 1) := by decide +kernel
theorem dX12_putRide_81 : decode cX12_putRide 81 = .ok (.iadd, 1) := by decide +kernel
theorem dX12_putRide_82 : decode cX12_putRide 82 = .ok (.iaload, 1) := by decide +kernel
theorem dX12_putRide_83 : decode cX12_putRide 83 = .ok (.iastore, 1) := by decide +kernel
theorem dX12_putRide_84 : decode cX12_putRide 84 = .ok (.aload_n 0, 1) := by decide +kernel
theorem dX12_putRide_85 : decode cX12_putRide 85 = .ok (.getfield 125, 3) := by decide +kernel
theorem dX12_putRide_88 : decode cX12_putRide 88 = .ok (.iload 5, 2) := by decide +kernel
theorem dX12_putRide_90 : decode cX12_putRide 90 = .ok (.iconst 4, 1) := by decide +kernel
theorem dX12_putRide_91 : decode cX12_putRide 91 = .ok (.iadd, 1) := by decide +kernel
theorem dX12_putRide_92 : decode cX12_putRide 92 = .ok (.aload_n 0, 1) := by decide +kernel
theorem dX12_putRide_93 : decode cX12_putRide 93 = .ok (.getfield 98, 3) := by decide +kernel
theorem dX12_putRide_96 : decode cX12_putRide 96 = .ok (.bipush 8, 2) := by decide +kernel
theorem dX12_putRide_98 : decode cX12_putRide 98 = .ok (.iload_n 1, 1) := by decide +kernel
theorem dX12_putRide_99 : decode cX12_putRide 99 = .ok (.imul, 1) := by decide +kernel
theorem dX12_putRide_100 : decode cX12_putRide 100 = .ok (.iload_n 2, 1) := by decide +kernel
theorem dX12_putRide_101 : decode cX12_putRide 101 = .ok (.iadd, 1) := by decide +kernel
theorem dX12_putRide_102 : decode cX12_putRide 102 = .ok (.iaload, 1) := by decide +kernel
theorem dX12_putRide_103 : decode cX12_putRide 103 = .ok (.iastore, 1) := by decide +kernel
theorem dX12_putRide_104 : decode cX12_putRide 104 = .ok (.aload_n 0, 1) := by decide +kernel
theorem dX12_putRide_105 : decode cX12_putRide 105 = .ok (.getfield 125, 3) := by decide +kernel
theorem dX12_putRide_108 : decode cX12_putRide 108 = .ok (.iload 5, 2) := by decide +kernel
theorem dX12_putRide_110 : decode cX12_putRide 110 = .ok (.iconst 5, 1) := by decide +kernel
theorem dX12_putRide_111 : decode cX12_putRide 111 = .ok (.iadd, 1) := by decide +kernel
theorem dX12_putRide_112 : decode cX12_putRide 112 = .ok (.aload_n 0, 1) := by decide +kernel
theorem dX12_putRide_113 : decode cX12_putRide 113 = .ok (.getfield 95, 3) := by decide +kernel
theorem dX12_putRide_116 : decode cX12_putRide 116 = .ok (.bipush 8, 2) := by decide +kernel
theorem dX12_putRide_118 : decode cX12_putRide 118 = .ok (.iload_n 1, 1) := by decide +kernel
theorem dX12_putRide_119 : decode cX12_putRide 119 = .ok (.imul, 1) := by decide +kernel
theorem dX12_putRide_120 : decode cX12_putRide 120 = .ok (.iload_n 3, 1) := by decide +kernel
theorem dX12_putRide_121 : decode cX12_putRide 121 = .ok (.iadd, 1) := by decide +kernel
theorem dX12_putRide_122 : decode cX12_putRide 122 = .ok (.iaload, 1) := by decide +kernel
theorem dX12_putRide_123 : decode cX12_putRide 123 = .ok (.iastore, 1) := by decide +kernel
theorem dX12_putRide_124 : decode cX12_putRide 124 = .ok (.aload_n 0, 1) := by decide +kernel
theorem dX12_putRide_125 : decode cX12_putRide 125 = .ok (.getfield 125, 3) := by decide +kernel
theorem dX12_putRide_128 : decode cX12_putRide 128 = .ok (.iload 5, 2) := by decide +kernel
theorem dX12_putRide_130 : decode cX12_putRide 130 = .ok (.bipush 6, 2) := by decide +kernel
theorem dX12_putRide_132 : decode cX12_putRide 132 = .ok (.iadd, 1) := by decide +kernel
theorem dX12_putRide_133 : decode cX12_putRide 133 = .ok (.aload_n 0, 1) := by decide +kernel
theorem dX12_putRide_134 : decode cX12_putRide 134 = .ok (.getfield 92, 3) := by decide +kernel
theorem dX12_putRide_137 : decode cX12_putRide 137 = .ok (.iload_n 1, 1) := by decide +kernel
theorem dX12_putRide_138 : decode cX12_putRide 138 = .ok (.iaload, 1) := by decide +kernel
theorem dX12_putRide_139 : decode cX12_putRide 139 = .ok (.iastore, 1) := by decide +kernel
theorem dX12_putRide_140 : decode cX12_putRide 140 = .ok (.aload_n 0, 1) := by decide +kernel
theorem dX12_putRide_141 : decode cX12_putRide 141 = .ok (.getfield 125, 3) := by decide +kernel
theorem dX12_putRide_144 : decode cX12_putRide 144 = .ok (.iload 5, 2) := by decide +kernel
theorem dX12_putRide_146 : decode cX12_putRide 146 = .ok (.bipush 7, 2) := by decide +kernel
theorem dX12_putRide_148 : decode cX12_putRide 148 = .ok (.iadd, 1) := by decide +kernel
theorem dX12_putRide_149 : decode cX12_putRide 149 = .ok (.iload_n 2, 1) := by decide +kernel
theorem dX12_putRide_150 : decode cX12_putRide 150 = .ok (.iastore, 1) := by decide +kernel
theorem dX12_putRide_151 : decode cX12_putRide 151 = .ok (.aload_n 0, 1) := by decide +kernel
theorem dX12_putRide_152 : decode cX12_putRide 152 = .ok (.getfield 125, 3) := by decide +kernel
theorem dX12_putRide_155 : decode cX12_putRide 155 = .ok (.iload 5, 2) := by decide +kernel
theorem dX12_putRide_157 : decode cX12_putRide 157 = .ok (.bipush 8, 2) := by decide +kernel
theorem dX12_putRide_159 : decode cX12_putRide 159 = .ok (.iadd, 1) := by decide +kernel
theorem dX12_putRide_160 : decode cX12_putRide 160 = .ok (.iload_n 3, 1) := by decide +kernel
theorem dX12_putRide_161 : decode cX12_putRide 161 = .ok (.iastore, 1) := by decide +kernel
theorem dX12_putRide_162 : decode cX12_putRide 162 = .ok (.aload_n 0, 1) := by decide +kernel
theorem dX12_putRide_163 : decode cX12_putRide 163 = .ok (.dup, 1) := by decide +kernel
theorem dX12_putRide_164 : decode cX12_putRide 164 = .ok (.getfield 233, 3) := by decide +kernel
theorem dX12_putRide_167 : decode cX12_putRide 167 = .ok (.iconst 1, 1) := by decide +kernel
theorem dX12_putRide_168 : decode cX12_putRide 168 = .ok (.iadd, 1) := by decide +kernel
theorem dX12_putRide_169 : decode cX12_putRide 169 = .ok (.putfield 233, 3) := by decide +kernel
theorem dX12_putRide_172 : decode cX12_putRide 172 = .ok (.return_, 1) := by decide +kernel
theorem dX12_findRide_0 : decode cX12_findRide 0 = .ok (.iconst 0, 1) := by decide +kernel
theorem dX12_findRide_1 : decode cX12_findRide 1 = .ok (.istore 7, 2) := by decide +kernel
theorem dX12_findRide_3 : decode cX12_findRide 3 = .ok (.iload 7, 2) := by decide +kernel
theorem dX12_findRide_5 : decode cX12_findRide 5 = .ok (.aload_n 0, 1) := by decide +kernel
theorem dX12_findRide_6 : decode cX12_findRide 6 = .ok (.getfield 193, 3) := by decide +kernel
theorem dX12_findRide_9 : decode cX12_findRide 9 = .ok (.if_icmp .ge 288, 3) := by decide +kernel
theorem dX12_findRide_12 : decode cX12_findRide 12 = .ok (.aload_n 0, 1) := by decide +kernel
theorem dX12_findRide_13 : decode cX12_findRide 13 = .ok (.getfield 89, 3) := by decide +kernel
theorem dX12_findRide_16 : decode cX12_findRide 16 = .ok (.iload 7, 2) := by decide +kernel
theorem dX12_findRide_18 : decode cX12_findRide 18 = .ok (.iaload, 1) := by decide +kernel
theorem dX12_findRide_19 : decode cX12_findRide 19 = .ok (.istore 8, 2) := by decide +kernel
theorem dX12_findRide_21 : decode cX12_findRide 21 = .ok (.iconst 0, 1) := by decide +kernel
theorem dX12_findRide_22 : decode cX12_findRide 22 = .ok (.istore 9, 2) := by decide +kernel
theorem dX12_findRide_24 : decode cX12_findRide 24 = .ok (.iload 9, 2) := by decide +kernel
theorem dX12_findRide_26 : decode cX12_findRide 26 = .ok (.aload_n 0, 1) := by decide +kernel
theorem dX12_findRide_27 : decode cX12_findRide 27 = .ok (.getfield 31, 3) := by decide +kernel
theorem dX12_findRide_30 : decode cX12_findRide 30 = .ok (.iload 8, 2) := by decide +kernel
theorem dX12_findRide_32 : decode cX12_findRide 32 = .ok (.iaload, 1) := by decide +kernel
theorem dX12_findRide_33 : decode cX12_findRide 33 = .ok (.if_icmp .ge 258, 3) := by decide +kernel
theorem dX12_findRide_36 : decode cX12_findRide 36 = .ok (.iload 9, 2) := by decide +kernel
theorem dX12_findRide_38 : decode cX12_findRide 38 = .ok (.iconst 1, 1) := by decide +kernel
theorem dX12_findRide_39 : decode cX12_findRide 39 = .ok (.iadd, 1) := by decide +kernel
theorem dX12_findRide_40 : decode cX12_findRide 40 = .ok (.istore 10, 2) := by decide +kernel
theorem dX12_findRide_42 : decode cX12_findRide 42 = .ok (.iload 10, 2) := by decide +kernel
theorem dX12_findRide_44 : decode cX12_findRide 44 = .ok (.aload_n 0, 1) := by decide +kernel
theorem dX12_findRide_45 : decode cX12_findRide 45 = .ok (.getfield 31, 3) := by decide +kernel
theorem dX12_findRide_48 : decode cX12_findRide 48 = .ok (.iload 8, 2) := by decide +kernel
theorem dX12_findRide_50 : decode cX12_findRide 50 = .ok (.iaload, 1) := by decide +kernel
theorem dX12_findRide_51 : decode cX12_findRide 51 = .ok (.if_icmp .ge 234, 3) := by decide +kernel
theorem dX12_findRide_54 : decode cX12_findRide 54 = .ok (.aload_n 0, 1) := by decide +kernel
theorem dX12_findRide_55 : decode cX12_findRide 55 = .ok (.getfield 34, 3) := by decide +kernel
theorem dX12_findRide_58 : decode cX12_findRide 58 = .ok (.bipush 8, 2) := by decide +kernel
theorem dX12_findRide_60 : decode cX12_findRide 60 = .ok (.iload 8, 2) := by decide +kernel
theorem dX12_findRide_62 : decode cX12_findRide 62 = .ok (.imul, 1) := by decide +kernel
theorem dX12_findRide_63 : decode cX12_findRide 63 = .ok (.iload 10, 2) := by decide +kernel
theorem dX12_findRide_65 : decode cX12_findRide 65 = .ok (.iadd, 1) := by decide +kernel
theorem dX12_findRide_66 : decode cX12_findRide 66 = .ok (.iaload, 1) := by decide +kernel
theorem dX12_findRide_67 : decode cX12_findRide 67 = .ok (.iload_n 3, 1) := by decide +kernel
theorem dX12_findRide_68 : decode cX12_findRide 68 = .ok (.if_icmp .ne 211, 3) := by decide +kernel
theorem dX12_findRide_71 : decode cX12_findRide 71 = .ok (.aload_n 0, 1) := by decide +kernel
theorem dX12_findRide_72 : decode cX12_findRide 72 = .ok (.getfield 95, 3) := by decide +kernel
theorem dX12_findRide_75 : decode cX12_findRide 75 = .ok (.bipush 8, 2) := by decide +kernel
theorem dX12_findRide_77 : decode cX12_findRide 77 = .ok (.iload 7, 2) := by decide +kernel
theorem dX12_findRide_79 : decode cX12_findRide 79 = .ok (.imul, 1) := by decide +kernel
theorem dX12_findRide_80 : decode cX12_findRide 80 = .ok (.iload 10, 2) := by decide +kernel
theorem dX12_findRide_82 : decode cX12_findRide 82 = .ok (.iadd, 1) := by decide +kernel
theorem dX12_findRide_83 : decode cX12_findRide 83 = .ok (.iaload, 1) := by decide +kernel
theorem dX12_findRide_84 : decode cX12_findRide 84 = .ok (.aload_n 0, 1) := by decide +kernel
theorem dX12_findRide_85 : decode cX12_findRide 85 = .ok (.getfield 190, 3) := by decide +kernel
theorem dX12_findRide_88 : decode cX12_findRide 88 = .ok (.if_icmp .ge 191, 3) := by decide +kernel
theorem dX12_findRide_91 : decode cX12_findRide 91 = .ok (.aload_n 0, 1) := by decide +kernel
theorem dX12_findRide_92 : decode cX12_findRide 92 = .ok (.iload 8, 2) := by decide +kernel
theorem dX12_findRide_94 : decode cX12_findRide 94 = .ok (.aload_n 0, 1) := by decide +kernel
theorem dX12_findRide_95 : decode cX12_findRide 95 = .ok (.getfield 92, 3) := by decide +kernel
theorem dX12_findRide_98 : decode cX12_findRide 98 = .ok (.iload 7, 2) := by decide +kernel
theorem dX12_findRide_100 : decode cX12_findRide 100 = .ok (.iaload, 1) := by decide +kernel
theorem dX12_findRide_101 : decode cX12_findRide 101 = .ok (.iload 9, 2) := by decide +kernel
theorem dX12_findRide_103 : decode cX12_findRide 103 = .ok (.iload 10, 2) := by decide +kernel
theorem dX12_findRide_105 : decode cX12_findRide 105 = .ok (.invokevirtual 223, 3) := by decide +kernel
theorem dX12_findRide_108 : decode cX12_findRide 108 = .ok (.ifCond .ne 6, 3) := by decide +kernel
theorem dX12_findRide_111 : decode cX12_findRide 111 = .ok (.goto 168, 3) := by decide +kernel
theorem dX12_findRide_114 : decode cX12_findRide 114 = .ok (.iload_n 2, 1) := by decide +kernel
theorem dX12_findRide_115 : decode cX12_findRide 115 = .ok (.aload_n 0, 1) := by decide +kernel
theorem dX12_findRide_116 : decode cX12_findRide 116 = .ok (.iload 8, 2) := by decide +kernel
theorem dX12_findRide_118 : decode cX12_findRide 118 = .ok (.iload 9, 2) := by decide +kernel
theorem dX12_findRide_120 : decode cX12_findRide 120 = .ok (.iload 10, 2) := by decide +kernel
theorem dX12_findRide_122 : decode cX12_findRide 122 = .ok (.invokevirtual 227, 3) := by decide +kernel
theorem dX12_findRide_125 : decode cX12_findRide 125 = .ok (.isub, 1) := by decide +kernel
theorem dX12_findRide_126 : decode cX12_findRide 126 = .ok (.istore 11, 2) := by decide +kernel
theorem dX12_findRide_128 : decode cX12_findRide 128 = .ok (.iload 11, 2) := by decide +kernel
theorem dX12_findRide_130 : decode cX12_findRide 130 = .ok (.ifCond .lt 149, 3) := by decide +kernel
theorem dX12_findRide_133 : decode cX12_findRide 133 = .ok (.aload_n 0, 1) := by decide +kernel
theorem dX12_findRide_134 : decode cX12_findRide 134 = .ok (.getfield 104, 3) := by decide +kernel
theorem dX12_findRide_137 : decode cX12_findRide 137 = .ok (.iload_n 1, 1) := by decide +kernel
theorem dX12_findRide_138 : decode cX12_findRide 138 = .ok (.iconst 1, 1) := by decide +kernel
theorem dX12_findRide_139 : decode cX12_findRide 139 = .ok (.isub, 1) := by decide +kernel
theorem dX12_findRide_140 : decode cX12_findRide 140 = .ok (.iload 11, 2) := by decide +kernel
theorem dX12_findRide_142 : decode cX12_findRide 142 = .ok (.aload_n 0, 1) := by decide +kernel
theorem dX12_findRide_143 : decode cX12_findRide 143 = .ok (.getfield 34, 3) := by decide +kernel
theorem dX12_findRide_146 : decode cX12_findRide 146 = .ok (.bipush 8, 2) := by decide +kernel
theorem dX12_findRide_148 : decode cX12_findRide 148 = .ok (.iload 8, 2) := by decide +kernel
theorem dX12_findRide_150 : decode cX12_findRide 150 = .ok (.imul, 1) := by decide +kernel
theorem dX12_findRide_151 : decode cX12_findRide 151 = .ok (.iload 9, 2) := by decide +kernel
theorem dX12_findRide_153 : decode cX12_findRide 153 = .ok (.iadd, 1) := by decide +kernel
theorem dX12_findRide_154 : decode cX12_findRide 154 = .ok (.iaload, 1) := by decide +kernel
theorem dX12_findRide_155 : decode cX12_findRide 155 = .ok (.invokestatic 209, 3) := by decide +kernel
theorem dX12_findRide_158 : decode cX12_findRide 158 = .ok (.iaload, 1) := by decide +kernel
theorem dX12_findRide_159 : decode cX12_findRide 159 = .ok (.aload_n 0, 1) := by decide +kernel
theorem dX12_findRide_160 : decode cX12_findRide 160 = .ok (.getfield 98, 3) := by decide +kernel
theorem dX12_findRide_163 : decode cX12_findRide 163 = .ok (.bipush 8, 2) := by decide +kernel
theorem dX12_findRide_165 : decode cX12_findRide 165 = .ok (.iload 7, 2) := by decide +kernel
theorem dX12_findRide_167 : decode cX12_findRide 167 = .ok (.imul, 1) := by decide +kernel
theorem dX12_findRide_168 : decode cX12_findRide 168 = .ok (.iload 9, 2) := by decide +kernel
theorem dX12_findRide_170 : decode cX12_findRide 170 = .ok (.iadd, 1) := by decide +kernel
theorem dX12_findRide_171 : decode cX12_findRide 171 = .ok (.iaload, 1) := by decide +kernel
theorem dX12_findRide_172 : decode cX12_findRide 172 = .ok (.if_icmp .le 6, 3) := by decide +kernel
theorem dX12_findRide_175 : decode cX12_findRide 175 = .ok (.goto 104, 3) := by decide +kernel
theorem dX12_findRide_178 : decode cX12_findRide 178 = .ok (.aload_n 0, 1) := by decide +kernel
theorem dX12_findRide_179 : decode cX12_findRide 179 = .ok (.getfield 95, 3) := by decide +kernel
theorem dX12_findRide_182 : decode cX12_findRide 182 = .ok (.bipush 8, 2) := by decide +kernel
theorem dX12_findRide_184 : decode cX12_findRide 184 = .ok (.iload 7, 2) := by decide +kernel
theorem dX12_findRide_186 : decode cX12_findRide 186 = .ok (.imul, 1) := by decide +kernel
theorem dX12_findRide_187 : decode cX12_findRide 187 = .ok (.iload 10, 2) := by decide +kernel
theorem dX12_findRide_189 : decode cX12_findRide 189 = .ok (.iadd, 1) := by decide +kernel
theorem dX12_findRide_190 : decode cX12_findRide 190 = .ok (.iaload, 1) := by decide +kernel
theorem dX12_findRide_191 : decode cX12_findRide 191 = .ok (.istore 12, 2) := by decide +kernel
theorem dX12_findRide_193 : decode cX12_findRide 193 = .ok (.iload 4, 2) := by decide +kernel
theorem dX12_findRide_195 : decode cX12_findRide 195 = .ok (.ifCond .lt 18, 3) := by decide +kernel
theorem dX12_findRide_198 : decode cX12_findRide 198 = .ok (.aload_n 0, 1) := by decide +kernel
theorem dX12_findRide_199 : decode cX12_findRide 199 = .ok (.iload 4, 2) := by decide +kernel
theorem dX12_findRide_201 : decode cX12_findRide 201 = .ok (.iload 12, 2) := by decide +kernel
theorem dX12_findRide_203 : decode cX12_findRide 203 = .ok (.aload_n 0, 1) := by decide +kernel
theorem dX12_findRide_204 : decode cX12_findRide 204 = .ok (.getfield 187, 3) := by decide +kernel
theorem dX12_findRide_207 : decode cX12_findRide 207 = .ok (.invokevirtual 212, 3) := by decide +kernel
theorem dX12_findRide_210 : decode cX12_findRide 210 = .ok (.goto 22, 3) := by decide +kernel
theorem dX12_findRide_213 : decode cX12_findRide 213 = .ok (.iload 5, 2) := by decide +kernel
theorem dX12_findRide_215 : decode cX12_findRide 215 = .ok (.ifCond .eq 8, 3) := by decide +kernel
theorem dX12_findRide_218 : decode cX12_findRide 218 = .ok (.iload 12, 2) := by decide +kernel
theorem dX12_findRide_220 : decode cX12_findRide 220 = .ok (.goto 12, 3) := by decide +kernel
theorem dX12_findRide_223 : decode cX12_findRide 223 = .ok (.iload 12, 2) := by decide +kernel
theorem dX12_findRide_225 : decode cX12_findRide 225 = .ok (.aload_n 0, 1) := by decide +kernel
theorem dX12_findRide_226 : decode cX12_findRide 226 = .ok (.getfield 7, 3) := by decide +kernel
theorem dX12_findRide_229 : decode cX12_findRide 229 = .ok (.iload_n 3, 1) := by decide +kernel
theorem dX12_findRide_230 : decode cX12_findRide 230 = .ok (.iaload, 1) := by decide +kernel
theorem dX12_findRide_231 : decode cX12_findRide 231 = .ok (.iadd, 1) := by decide +kernel
theorem dX12_findRide_232 : decode cX12_findRide 232 = .ok (.istore 13, 2) := by decide +kernel
theorem dX12_findRide_234 : decode cX12_findRide 234 = .ok (.iload 5, 2) := by decide +kernel
theorem dX12_findRide_236 : decode cX12_findRide 236 = .ok (.ifCond .eq 13, 3) := by decide +kernel
theorem dX12_findRide_239 : decode cX12_findRide 239 = .ok (.iload 13, 2) := by decide +kernel
theorem dX12_findRide_241 : decode cX12_findRide 241 = .ok (.iload 6, 2) := by decide +kernel
theorem dX12_findRide_243 : decode cX12_findRide 243 = .ok (.if_icmp .eq 16, 3) := by decide +kernel
theorem dX12_findRide_246 : decode cX12_findRide 246 = .ok (.goto 33, 3) := by decide +kernel
theorem dX12_findRide_249 : decode cX12_findRide 249 = .ok (.iload 13, 2) := by decide +kernel
theorem dX12_findRide_251 : decode cX12_findRide 251 = .ok (.iload 6, 2) := by decide +kernel
theorem dX12_findRide_253 : decode cX12_findRide 253 = .ok (.if_icmp .le 6, 3) := by decide +kernel
theorem dX12_findRide_256 : decode cX12_findRide 256 = .ok (.goto 23, 3) := by decide +kernel
theorem dX12_findRide_259 : decode cX12_findRide 259 = .ok (.aload_n 0, 1) := by decide +kernel
theorem dX12_findRide_260 : decode cX12_findRide 260 = .ok (.iload 7, 2) := by decide +kernel
theorem dX12_findRide_262 : decode cX12_findRide 262 = .ok (.putfield 236, 3) := by decide +kernel
theorem dX12_findRide_265 : decode cX12_findRide 265 = .ok (.aload_n 0, 1) := by decide +kernel
theorem dX12_findRide_266 : decode cX12_findRide 266 = .ok (.iload 9, 2) := by decide +kernel
theorem dX12_findRide_268 : decode cX12_findRide 268 = .ok (.putfield 239, 3) := by decide +kernel
theorem dX12_findRide_271 : decode cX12_findRide 271 = .ok (.aload_n 0, 1) := by decide +kernel
theorem dX12_findRide_272 : decode cX12_findRide 272 = .ok (.iload 10, 2) := by decide +kernel
theorem dX12_findRide_274 : decode cX12_findRide 274 = .ok (.putfield 242, 3) := by decide +kernel
theorem dX12_findRide_277 : decode cX12_findRide 277 = .ok (.iconst 1, 1) := by decide +kernel
theorem dX12_findRide_278 : decode cX12_findRide 278 = .ok (.ireturn, 1) := by decide +kernel
theorem dX12_findRide_279 : decode cX12_findRide 279 = .ok (.iinc 10 1, 3) := by decide +kernel
theorem dX12_findRide_282 : decode cX12_findRide 282 = .ok (.goto (-240), 3) := by decide +kernel
theorem dX12_findRide_285 : decode cX12_findRide 285 = .ok (.iinc 9 1, 3) := by decide +kernel
theorem dX12_findRide_288 : decode cX12_findRide 288 = .ok (.goto (-264), 3) := by decide +kernel
theorem dX12_findRide_291 : decode cX12_findRide 291 = .ok (.iinc 7 1, 3) := by decide +kernel
theorem dX12_findRide_294 : decode cX12_findRide 294 = .ok (.goto (-291), 3) := by decide +kernel
theorem dX12_findRide_297 : decode cX12_findRide 297 = .ok (.iconst 0, 1) := by decide +kernel
theorem dX12_findRide_298 : decode cX12_findRide 298 = .ok (.ireturn, 1) := by decide +kernel
theorem dX12_findWay_0 : decode cX12_findWay 0 = .ok (.aload_n 0, 1) := by decide +kernel
theorem dX12_findWay_1 : decode cX12_findWay 1 = .ok (.iconst 0, 1) := by decide +kernel
theorem dX12_findWay_2 : decode cX12_findWay 2 = .ok (.putfield 233, 3) := by decide +kernel
theorem dX12_findWay_5 : decode cX12_findWay 5 = .ok (.iload_n 1, 1) := by decide +kernel
theorem dX12_findWay_6 : decode cX12_findWay 6 = .ok (.istore 5, 2) := by decide +kernel
theorem dX12_findWay_8 : decode cX12_findWay 8 = .ok (.iload_n 2, 1) := by decide +kernel
theorem dX12_findWay_9 : decode cX12_findWay 9 = .ok (.istore 6, 2) := by decide +kernel
theorem dX12_findWay_11 : decode cX12_findWay 11 = .ok (.iload_n 3, 1) := by decide +kernel
theorem dX12_findWay_12 : decode cX12_findWay 12 = .ok (.istore 7, 2) := by decide +kernel
theorem dX12_findWay_14 : decode cX12_findWay 14 = .ok (.iload 4, 2) := by decide +kernel
theorem dX12_findWay_16 : decode cX12_findWay 16 = .ok (.istore 8, 2) := by decide +kernel
theorem dX12_findWay_18 : decode cX12_findWay 18 = .ok (.iconst 1, 1) := by decide +kernel
theorem dX12_findWay_19 : decode cX12_findWay 19 = .ok (.istore 9, 2) := by decide +kernel
theorem dX12_findWay_21 : decode cX12_findWay 21 = .ok (.iconst 1, 1) := by decide +kernel
theorem dX12_findWay_22 : decode cX12_findWay 22 = .ok (.istore 10, 2) := by decide +kernel
theorem dX12_findWay_24 : decode cX12_findWay 24 = .ok (.iload 10, 2) := by decide +kernel
theorem dX12_findWay_26 : decode cX12_findWay 26 = .ok (.ifCond .eq 174, 3) := by decide +kernel
theorem dX12_findWay_29 : decode cX12_findWay 29 = .ok (.aload_n 0, 1) := by decide +kernel
theorem dX12_findWay_30 : decode cX12_findWay 30 = .ok (.iload 5, 2) := by decide +kernel
theorem dX12_findWay_32 : decode cX12_findWay 32 = .ok (.iload 6, 2) := by decide +kernel
theorem dX12_findWay_34 : decode cX12_findWay 34 = .ok (.iload 7, 2) := by decide +kernel
theorem dX12_findWay_36 : decode cX12_findWay 36 = .ok (.iload 9, 2) := by decide +kernel
theorem dX12_findWay_38 : decode cX12_findWay 38 = .ok (.iload 8, 2) := by decide +kernel
theorem dX12_findWay_40 : decode cX12_findWay 40 = .ok (.invokevirtual 245, 3) := by decide +kernel
theorem dX12_findWay_43 : decode cX12_findWay 43 = .ok (.istore 11, 2) := by decide +kernel
theorem dX12_findWay_45 : decode cX12_findWay 45 = .ok (.iload 11, 2) := by decide +kernel
theorem dX12_findWay_47 : decode cX12_findWay 47 = .ok (.ifCond .lt 9, 3) := by decide +kernel
theorem dX12_findWay_50 : decode cX12_findWay 50 = .ok (.aload_n 0, 1) := by decide +kernel
theorem dX12_findWay_51 : decode cX12_findWay 51 = .ok (.iload 11, 2) := by decide +kernel
theorem dX12_findWay_53 : decode cX12_findWay 53 = .ok (.invokevirtual 249, 3) := by decide +kernel
theorem dX12_findWay_56 : decode cX12_findWay 56 = .ok (.iload 5, 2) := by decide +kernel
theorem dX12_findWay_58 : decode cX12_findWay 58 = .ok (.ifCond .le 7, 3) := by decide +kernel
theorem dX12_findWay_61 : decode cX12_findWay 61 = .ok (.iconst 1, 1) := by decide +kernel
theorem dX12_findWay_62 : decode cX12_findWay 62 = .ok (.goto 4, 3) := by decide +kernel
theorem dX12_findWay_65 : decode cX12_findWay 65 = .ok (.iconst 0, 1) := by decide +kernel
theorem dX12_findWay_66 : decode cX12_findWay 66 = .ok (.istore 10, 2) := by decide +kernel
theorem dX12_findWay_68 : decode cX12_findWay 68 = .ok (.iload 10, 2) := by decide +kernel
theorem dX12_findWay_70 : decode cX12_findWay 70 = .ok (.ifCond .ne 6, 3) := by decide +kernel
theorem dX12_findWay_73 : decode cX12_findWay 73 = .ok (.goto (-49), 3) := by decide +kernel
theorem dX12_findWay_76 : decode cX12_findWay 76 = .ok (.aload_n 0, 1) := by decide +kernel
theorem dX12_findWay_77 : decode cX12_findWay 77 = .ok (.iload 5, 2) := by decide +kernel
theorem dX12_findWay_79 : decode cX12_findWay 79 = .ok (.iload 6, 2) := by decide +kernel
theorem dX12_findWay_81 : decode cX12_findWay 81 = .ok (.iload 11, 2) := by decide +kernel
theorem dX12_findWay_83 : decode cX12_findWay 83 = .ok (.ifCond .lt 13, 3) := by decide +kernel
theorem dX12_findWay_86 : decode cX12_findWay 86 = .ok (.aload_n 0, 1) := by decide +kernel
theorem dX12_findWay_87 : decode cX12_findWay 87 = .ok (.getfield 50, 3) := by decide +kernel
theorem dX12_findWay_90 : decode cX12_findWay 90 = .ok (.iload 11, 2) := by decide +kernel
theorem dX12_findWay_92 : decode cX12_findWay 92 = .ok (.iaload, 1) := by decide +kernel
theorem dX12_findWay_93 : decode cX12_findWay 93 = .ok (.goto 5, 3) := by decide +kernel
theorem dX12_findWay_96 : decode cX12_findWay 96 = .ok (.iload 7, 2) := by decide +kernel
theorem dX12_findWay_98 : decode cX12_findWay 98 = .ok (.iload 11, 2) := by decide +kernel
theorem dX12_findWay_100 : decode cX12_findWay 100 = .ok (.iload 9, 2) := by decide +kernel
theorem dX12_findWay_102 : decode cX12_findWay 102 = .ok (.iload 8, 2) := by decide +kernel
theorem dX12_findWay_104 : decode cX12_findWay 104 = .ok (.invokevirtual 253, 3) := by decide +kernel
theorem dX12_findWay_107 : decode cX12_findWay 107 = .ok (.istore 12, 2) := by decide +kernel
theorem dX12_findWay_109 : decode cX12_findWay 109 = .ok (.aload_n 0, 1) := by decide +kernel
theorem dX12_findWay_110 : decode cX12_findWay 110 = .ok (.getfield 89, 3) := by decide +kernel
theorem dX12_findWay_113 : decode cX12_findWay 113 = .ok (.aload_n 0, 1) := by decide +kernel
theorem dX12_findWay_114 : decode cX12_findWay 114 = .ok (.getfield 236, 3) := by decide +kernel
theorem dX12_findWay_117 : decode cX12_findWay 117 = .ok (.iaload, 1) := by decide +kernel
theorem dX12_findWay_118 : decode cX12_findWay 118 = .ok (.istore 13, 2) := by decide +kernel
theorem dX12_findWay_120 : decode cX12_findWay 120 = .ok (.aload_n 0, 1) := by decide +kernel
theorem dX12_findWay_121 : decode cX12_findWay 121 = .ok (.aload_n 0, 1) := by decide +kernel
theorem dX12_findWay_122 : decode cX12_findWay 122 = .ok (.getfield 236, 3) := by decide +kernel
theorem dX12_findWay_125 : decode cX12_findWay 125 = .ok (.aload_n 0, 1) := by decide +kernel
theorem dX12_findWay_126 : decode cX12_findWay 126 = .ok (.getfield 239, 3) := by decide +kernel
theorem dX12_findWay_129 : decode cX12_findWay 129 = .ok (.aload_n 0, 1) := by decide +kernel
theorem dX12_findWay_130 : decode cX12_findWay 130 = .ok (.getfield 242, 3) := by decide +kernel
theorem dX12_findWay_133 : decode cX12_findWay 133 = .ok (.invokevirtual 257, 3) := by decide +kernel
theorem dX12_findWay_136 : decode cX12_findWay 136 = .ok (.iload 6, 2) := by decide +kernel
theorem dX12_findWay_138 : decode cX12_findWay 138 = .ok (.aload_n 0, 1) := by decide +kernel
theorem dX12_findWay_139 : decode cX12_findWay 139 = .ok (.iload 13, 2) := by decide +kernel
theorem dX12_findWay_141 : decode cX12_findWay 141 = .ok (.aload_n 0, 1) := by decide +kernel
theorem dX12_findWay_142 : decode cX12_findWay 142 = .ok (.getfield 239, 3) := by decide +kernel
theorem dX12_findWay_145 : decode cX12_findWay 145 = .ok (.aload_n 0, 1) := by decide +kernel
theorem dX12_findWay_146 : decode cX12_findWay 146 = .ok (.getfield 242, 3) := by decide +kernel
theorem dX12_findWay_149 : decode cX12_findWay 149 = .ok (.invokevirtual 227, 3) := by decide +kernel
theorem dX12_findWay_152 : decode cX12_findWay 152 = .ok (.isub, 1) := by decide +kernel
theorem dX12_findWay_153 : decode cX12_findWay 153 = .ok (.istore 6, 2) := by decide +kernel
theorem dX12_findWay_155 : decode cX12_findWay 155 = .ok (.aload_n 0, 1) := by decide +kernel
theorem dX12_findWay_156 : decode cX12_findWay 156 = .ok (.getfield 34, 3) := by decide +kernel
theorem dX12_findWay_159 : decode cX12_findWay 159 = .ok (.bipush 8, 2) := by decide +kernel
theorem dX12_findWay_161 : decode cX12_findWay 161 = .ok (.iload 13, 2) := by decide +kernel
theorem dX12_findWay_163 : decode cX12_findWay 163 = .ok (.imul, 1) := by decide +kernel
theorem dX12_findWay_164 : decode cX12_findWay 164 = .ok (.aload_n 0, 1) := by decide +kernel
theorem dX12_findWay_165 : decode cX12_findWay 165 = .ok (.getfield 239, 3) := by decide +kernel
theorem dX12_findWay_168 : decode cX12_findWay 168 = .ok (.iadd, 1) := by decide +kernel
theorem dX12_findWay_169 : decode cX12_findWay 169 = .ok (.iaload, 1) := by decide +kernel
theorem dX12_findWay_170 : decode cX12_findWay 170 = .ok (.istore 7, 2) := by decide +kernel
theorem dX12_findWay_172 : decode cX12_findWay 172 = .ok (.aload_n 0, 1) := by decide +kernel
theorem dX12_findWay_173 : decode cX12_findWay 173 = .ok (.getfield 98, 3) := by decide +kernel
theorem dX12_findWay_176 : decode cX12_findWay 176 = .ok (.bipush 8, 2) := by decide +kernel
theorem dX12_findWay_178 : decode cX12_findWay 178 = .ok (.aload_n 0, 1) := by decide +kernel
theorem dX12_findWay_179 : decode cX12_findWay 179 = .ok (.getfield 236, 3) := by decide +kernel
theorem dX12_findWay_182 : decode cX12_findWay 182 = .ok (.imul, 1) := by decide +kernel
theorem dX12_findWay_183 : decode cX12_findWay 183 = .ok (.aload_n 0, 1) := by decide +kernel
theorem dX12_findWay_184 : decode cX12_findWay 184 = .ok (.getfield 239, 3) := by decide +kernel
theorem dX12_findWay_187 : decode cX12_findWay 187 = .ok (.iadd, 1) := by decide +kernel
theorem dX12_findWay_188 : decode cX12_findWay 188 = .ok (.iaload, 1) := by decide +kernel
theorem dX12_findWay_189 : decode cX12_findWay 189 = .ok (.istore 8, 2) := by decide +kernel
theorem dX12_findWay_191 : decode cX12_findWay 191 = .ok (.iconst 0, 1) := by decide +kernel
theorem dX12_findWay_192 : decode cX12_findWay 192 = .ok (.istore 9, 2) := by decide +kernel
theorem dX12_findWay_194 : decode cX12_findWay 194 = .ok (.iinc 5 (-1), 3) := by decide +kernel
theorem dX12_findWay_197 : decode cX12_findWay 197 = .ok (.goto (-173), 3) := by decide +kernel
theorem dX12_findWay_200 : decode cX12_findWay 200 = .ok (.return_, 1) := by decide +kernel
theorem dX12_walkAhead_0 : decode cX12_walkAhead 0 = .ok (.iload_n 1, 1) := by decide +kernel
theorem dX12_walkAhead_1 : decode cX12_walkAhead 1 = .ok (.ifCond .ne 43, 3) := by decide +kernel
theorem dX12_walkAhead_4 : decode cX12_walkAhead 4 = .ok (.iload_n 2, 1) := by decide +kernel
theorem dX12_walkAhead_5 : decode cX12_walkAhead 5 = .ok (.ifCond .ne 39, 3) := by decide +kernel
theorem dX12_walkAhead_8 : decode cX12_walkAhead 8 = .ok (.iload_n 3, 1) := by decide +kernel
theorem dX12_walkAhead_9 : decode cX12_walkAhead 9 = .ok (.aload_n 0, 1) := by decide +kernel
theorem dX12_walkAhead_10 : decode cX12_walkAhead 10 = .ok (.getfield 205, 3) := by decide +kernel
theorem dX12_walkAhead_13 : decode cX12_walkAhead 13 = .ok (.if_icmp .ne 31, 3) := by decide +kernel
theorem dX12_walkAhead_16 : decode cX12_walkAhead 16 = .ok (.iload 4, 2) := by decide +kernel
theorem dX12_walkAhead_18 : decode cX12_walkAhead 18 = .ok (.ifCond .eq 15, 3) := by decide +kernel
theorem dX12_walkAhead_21 : decode cX12_walkAhead 21 = .ok (.aload_n 0, 1) := by decide +kernel
theorem dX12_walkAhead_22 : decode cX12_walkAhead 22 = .ok (.getfield 187, 3) := by decide +kernel
theorem dX12_walkAhead_25 : decode cX12_walkAhead 25 = .ok (.iload 5, 2) := by decide +kernel
theorem dX12_walkAhead_27 : decode cX12_walkAhead 27 = .ok (.if_icmp .ne 17, 3) := by decide +kernel
theorem dX12_walkAhead_30 : decode cX12_walkAhead 30 = .ok (.goto 12, 3) := by decide +kernel
theorem dX12_walkAhead_33 : decode cX12_walkAhead 33 = .ok (.aload_n 0, 1) := by decide +kernel
theorem dX12_walkAhead_34 : decode cX12_walkAhead 34 = .ok (.getfield 187, 3) := by decide +kernel
theorem dX12_walkAhead_37 : decode cX12_walkAhead 37 = .ok (.iload 5, 2) := by decide +kernel
theorem dX12_walkAhead_39 : decode cX12_walkAhead 39 = .ok (.if_icmp .gt 5, 3) := by decide +kernel
theorem dX12_walkAhead_42 : decode cX12_walkAhead 42 = .ok (.iconst (-1), 1) := by decide +kernel
theorem dX12_walkAhead_43 : decode cX12_walkAhead 43 = .ok (.ireturn, 1) := by decide +kernel
theorem dX12_walkAhead_44 : decode cX12_walkAhead 44 = .ok (.iload_n 1, 1) := by decide +kernel
theorem dX12_walkAhead_45 : decode cX12_walkAhead 45 = .ok (.ifCond .le 20, 3) := by decide +kernel
theorem dX12_walkAhead_48 : decode cX12_walkAhead 48 = .ok (.aload_n 0, 1) := by decide +kernel
theorem dX12_walkAhead_49 : decode cX12_walkAhead 49 = .ok (.iload_n 1, 1) := by decide +kernel
theorem dX12_walkAhead_50 : decode cX12_walkAhead 50 = .ok (.iload_n 2, 1) := by decide +kernel
theorem dX12_walkAhead_51 : decode cX12_walkAhead 51 = .ok (.iload_n 3, 1) := by decide +kernel
theorem dX12_walkAhead_52 : decode cX12_walkAhead 52 = .ok (.iconst (-1), 1) := by decide +kernel
theorem dX12_walkAhead_53 : decode cX12_walkAhead 53 = .ok (.iload 4, 2) := by decide +kernel
theorem dX12_walkAhead_55 : decode cX12_walkAhead 55 = .ok (.iload 5, 2) := by decide +kernel
theorem dX12_walkAhead_57 : decode cX12_walkAhead 57 = .ok (.invokevirtual 253, 3) := by decide +kernel
theorem dX12_walkAhead_60 : decode cX12_walkAhead 60 = .ok (.ifCond .eq 5, 3) := by decide +kernel
theorem dX12_walkAhead_63 : decode cX12_walkAhead 63 = .ok (.iconst (-1), 1) := by decide +kernel
theorem dX12_walkAhead_64 : decode cX12_walkAhead 64 = .ok (.ireturn, 1) := by decide +kernel
theorem dX12_walkAhead_65 : decode cX12_walkAhead 65 = .ok (.iconst 0, 1) := by decide +kernel
theorem dX12_walkAhead_66 : decode cX12_walkAhead 66 = .ok (.istore 6, 2) := by decide +kernel
theorem dX12_walkAhead_68 : decode cX12_walkAhead 68 = .ok (.iload 6, 2) := by decide +kernel
theorem dX12_walkAhead_70 : decode cX12_walkAhead 70 = .ok (.aload_n 0, 1) := by decide +kernel
theorem dX12_walkAhead_71 : decode cX12_walkAhead 71 = .ok (.getfield 161, 3) := by decide +kernel
theorem dX12_walkAhead_74 : decode cX12_walkAhead 74 = .ok (.if_icmp .ge 107, 3) := by decide +kernel
theorem dX12_walkAhead_77 : decode cX12_walkAhead 77 = .ok (.aload_n 0, 1) := by decide +kernel
theorem dX12_walkAhead_78 : decode cX12_walkAhead 78 = .ok (.getfield 53, 3) := by decide +kernel
theorem dX12_walkAhead_81 : decode cX12_walkAhead 81 = .ok (.iload 6, 2) := by decide +kernel
theorem dX12_walkAhead_83 : decode cX12_walkAhead 83 = .ok (.iaload, 1) := by decide +kernel
theorem dX12_walkAhead_84 : decode cX12_walkAhead 84 = .ok (.iload_n 3, 1) := by decide +kernel
theorem dX12_walkAhead_85 : decode cX12_walkAhead 85 = .ok (.if_icmp .eq 6, 3) := by decide +kernel
theorem dX12_walkAhead_88 : decode cX12_walkAhead 88 = .ok (.goto 87, 3) := by decide +kernel
theorem dX12_walkAhead_91 : decode cX12_walkAhead 91 = .ok (.iload_n 1, 1) := by decide +kernel
theorem dX12_walkAhead_92 : decode cX12_walkAhead 92 = .ok (.ifCond .le 28, 3) := by decide +kernel
theorem dX12_walkAhead_95 : decode cX12_walkAhead 95 = .ok (.aload_n 0, 1) := by decide +kernel
theorem dX12_walkAhead_96 : decode cX12_walkAhead 96 = .ok (.iload_n 1, 1) := by decide +kernel
theorem dX12_walkAhead_97 : decode cX12_walkAhead 97 = .ok (.iload_n 2, 1) := by decide +kernel
theorem dX12_walkAhead_98 : decode cX12_walkAhead 98 = .ok (.aload_n 0, 1) := by decide +kernel
theorem dX12_walkAhead_99 : decode cX12_walkAhead 99 = .ok (.getfield 50, 3) := by decide +kernel
theorem dX12_walkAhead_102 : decode cX12_walkAhead 102 = .ok (.iload 6, 2) := by decide +kernel
theorem dX12_walkAhead_104 : decode cX12_walkAhead 104 = .ok (.iaload, 1) := by decide +kernel
theorem dX12_walkAhead_105 : decode cX12_walkAhead 105 = .ok (.iload 6, 2) := by decide +kernel
theorem dX12_walkAhead_107 : decode cX12_walkAhead 107 = .ok (.iload 4, 2) := by decide +kernel
theorem dX12_walkAhead_109 : decode cX12_walkAhead 109 = .ok (.iload 5, 2) := by decide +kernel
theorem dX12_walkAhead_111 : decode cX12_walkAhead 111 = .ok (.invokevirtual 253, 3) := by decide +kernel
theorem dX12_walkAhead_114 : decode cX12_walkAhead 114 = .ok (.ifCond .eq 61, 3) := by decide +kernel
theorem dX12_walkAhead_117 : decode cX12_walkAhead 117 = .ok (.iload 6, 2) := by decide +kernel
theorem dX12_walkAhead_119 : decode cX12_walkAhead 119 = .ok (.ireturn, 1) := by decide +kernel
theorem dX12_walkAhead_120 : decode cX12_walkAhead 120 = .ok (.aload_n 0, 1) := by decide +kernel
theorem dX12_walkAhead_121 : decode cX12_walkAhead 121 = .ok (.getfield 50, 3) := by decide +kernel
theorem dX12_walkAhead_124 : decode cX12_walkAhead 124 = .ok (.iload 6, 2) := by decide +kernel
theorem dX12_walkAhead_126 : decode cX12_walkAhead 126 = .ok (.iaload, 1) := by decide +kernel
theorem dX12_walkAhead_127 : decode cX12_walkAhead 127 = .ok (.aload_n 0, 1) := by decide +kernel
theorem dX12_walkAhead_128 : decode cX12_walkAhead 128 = .ok (.getfield 205, 3) := by decide +kernel
theorem dX12_walkAhead_131 : decode cX12_walkAhead 131 = .ok (.if_icmp .ne 44, 3) := by decide +kernel
theorem dX12_walkAhead_134 : decode cX12_walkAhead 134 = .ok (.aload_n 0, 1) := by decide +kernel
theorem dX12_walkAhead_135 : decode cX12_walkAhead 135 = .ok (.iload 6, 2) := by decide +kernel
theorem dX12_walkAhead_137 : decode cX12_walkAhead 137 = .ok (.aload_n 0, 1) := by decide +kernel
theorem dX12_walkAhead_138 : decode cX12_walkAhead 138 = .ok (.getfield 187, 3) := by decide +kernel
theorem dX12_walkAhead_141 : decode cX12_walkAhead 141 = .ok (.aload_n 0, 1) := by decide +kernel
theorem dX12_walkAhead_142 : decode cX12_walkAhead 142 = .ok (.getfield 187, 3) := by decide +kernel
theorem dX12_walkAhead_145 : decode cX12_walkAhead 145 = .ok (.invokevirtual 212, 3) := by decide +kernel
theorem dX12_walkAhead_148 : decode cX12_walkAhead 148 = .ok (.istore 7, 2) := by decide +kernel
theorem dX12_walkAhead_150 : decode cX12_walkAhead 150 = .ok (.iload 4, 2) := by decide +kernel
theorem dX12_walkAhead_152 : decode cX12_walkAhead 152 = .ok (.ifCond .eq 13, 3) := by decide +kernel
theorem dX12_walkAhead_155 : decode cX12_walkAhead 155 = .ok (.iload 7, 2) := by decide +kernel
theorem dX12_walkAhead_157 : decode cX12_walkAhead 157 = .ok (.iload 5, 2) := by decide +kernel
theorem dX12_walkAhead_159 : decode cX12_walkAhead 159 = .ok (.if_icmp .ne 16, 3) := by decide +kernel
theorem dX12_walkAhead_162 : decode cX12_walkAhead 162 = .ok (.goto 10, 3) := by decide +kernel
theorem dX12_walkAhead_165 : decode cX12_walkAhead 165 = .ok (.iload 7, 2) := by decide +kernel
theorem dX12_walkAhead_167 : decode cX12_walkAhead 167 = .ok (.iload 5, 2) := by decide +kernel
theorem dX12_walkAhead_169 : decode cX12_walkAhead 169 = .ok (.if_icmp .gt 6, 3) := by decide +kernel
theorem dX12_walkAhead_172 : decode cX12_walkAhead 172 = .ok (.iload 6, 2) := by decide +kernel
theorem dX12_walkAhead_174 : decode cX12_walkAhead 174 = .ok (.ireturn, 1) := by decide +kernel
theorem dX12_walkAhead_175 : decode cX12_walkAhead 175 = .ok (.iinc 6 1, 3) := by decide +kernel
theorem dX12_walkAhead_178 : decode cX12_walkAhead 178 = .ok (.goto (-110), 3) := by decide +kernel
theorem dX12_walkAhead_181 : decode cX12_walkAhead 181 = .ok (.iconst (-1), 1) := by decide +kernel
theorem dX12_walkAhead_182 : decode cX12_walkAhead 182 = .ok (.ireturn, 1) := by decide +kernel
theorem dX12_isBeaten_0 : decode cX12_isBeaten 0 = .ok (.iconst 0, 1) := by decide +kernel
theorem dX12_isBeaten_1 : decode cX12_isBeaten 1 = .ok (.istore 5, 2) := by decide +kernel
theorem dX12_isBeaten_3 : decode cX12_isBeaten 3 = .ok (.iload 5, 2) := by decide +kernel
theorem dX12_isBeaten_5 : decode cX12_isBeaten 5 = .ok (.iload_n 2, 1) := by decide +kernel
theorem dX12_isBeaten_6 : decode cX12_isBeaten 6 = .ok (.if_icmp .gt 62, 3) := by decide +kernel
theorem dX12_isBeaten_9 : decode cX12_isBeaten 9 = .ok (.iconst 0, 1) := by decide +kernel
theorem dX12_isBeaten_10 : decode cX12_isBeaten 10 = .ok (.istore 6, 2) := by decide +kernel
theorem dX12_isBeaten_12 : decode cX12_isBeaten 12 = .ok (.iload 6, 2) := by decide +kernel
theorem dX12_isBeaten_14 : decode cX12_isBeaten 14 = .ok (.iload_n 3, 1) := by decide +kernel
theorem dX12_isBeaten_15 : decode cX12_isBeaten 15 = .ok (.if_icmp .gt 47, 3) := by decide +kernel
theorem dX12_isBeaten_18 : decode cX12_isBeaten 18 = .ok (.aload_n 0, 1) := by decide +kernel
theorem dX12_isBeaten_19 : decode cX12_isBeaten 19 = .ok (.iload 5, 2) := by decide +kernel
theorem dX12_isBeaten_21 : decode cX12_isBeaten 21 = .ok (.iload 6, 2) := by decide +kernel
theorem dX12_isBeaten_23 : decode cX12_isBeaten 23 = .ok (.iload 4, 2) := by decide +kernel
theorem dX12_isBeaten_25 : decode cX12_isBeaten 25 = .ok (.invokevirtual 230, 3) := by decide +kernel
theorem dX12_isBeaten_28 : decode cX12_isBeaten 28 = .ok (.istore 7, 2) := by decide +kernel
theorem dX12_isBeaten_30 : decode cX12_isBeaten 30 = .ok (.iload 7, 2) := by decide +kernel
theorem dX12_isBeaten_32 : decode cX12_isBeaten 32 = .ok (.iload_n 1, 1) := by decide +kernel
theorem dX12_isBeaten_33 : decode cX12_isBeaten 33 = .ok (.if_icmp .gt 23, 3) := by decide +kernel
theorem dX12_isBeaten_36 : decode cX12_isBeaten 36 = .ok (.iload 7, 2) := by decide +kernel
theorem dX12_isBeaten_38 : decode cX12_isBeaten 38 = .ok (.iload_n 1, 1) := by decide +kernel
theorem dX12_isBeaten_39 : decode cX12_isBeaten 39 = .ok (.if_icmp .lt 15, 3) := by decide +kernel
theorem dX12_isBeaten_42 : decode cX12_isBeaten 42 = .ok (.iload 5, 2) := by decide +kernel
theorem dX12_isBeaten_44 : decode cX12_isBeaten 44 = .ok (.iload_n 2, 1) := by decide +kernel
theorem dX12_isBeaten_45 : decode cX12_isBeaten 45 = .ok (.if_icmp .lt 9, 3) := by decide +kernel
theorem dX12_isBeaten_48 : decode cX12_isBeaten 48 = .ok (.iload 6, 2) := by decide +kernel
theorem dX12_isBeaten_50 : decode cX12_isBeaten 50 = .ok (.iload_n 3, 1) := by decide +kernel
theorem dX12_isBeaten_51 : decode cX12_isBeaten 51 = .ok (.if_icmp .ge 5, 3) := by decide +kernel
theorem dX12_isBeaten_54 : decode cX12_isBeaten 54 = .ok (.iconst 1, 1) := by decide +kernel
theorem dX12_isBeaten_55 : decode cX12_isBeaten 55 = .ok (.ireturn, 1) := by decide +kernel
theorem dX12_isBeaten_56 : decode cX12_isBeaten 56 = .ok (.iinc 6 1, 3) := by decide +kernel
theorem dX12_isBeaten_59 : decode cX12_isBeaten 59 = .ok (.goto (-47), 3) := by decide +kernel
theorem dX12_isBeaten_62 : decode cX12_isBeaten 62 = .ok (.iinc 5 1, 3) := by decide +kernel
theorem dX12_isBeaten_65 : decode cX12_isBeaten 65 = .ok (.goto (-62), 3) := by decide +kernel
theorem dX12_isBeaten_68 : decode cX12_isBeaten 68 = .ok (.iconst 0, 1) := by decide +kernel
theorem dX12_isBeaten_69 : decode cX12_isBeaten 69 = .ok (.ireturn, 1) := by decide +kernel
theorem dX12_add_0 : decode cX12_add 0 = .ok (.aload_n 0, 1) := by decide +kernel
theorem dX12_add_1 : decode cX12_add 1 = .ok (.getfield 261, 3) := by decide +kernel
theorem dX12_add_4 : decode cX12_add 4 = .ok (.istore 4, 2) := by decide +kernel
theorem dX12_add_6 : decode cX12_add 6 = .ok (.aload_n 0, 1) := by decide +kernel
theorem dX12_add_7 : decode cX12_add 7 = .ok (.getfield 107, 3) := by decide +kernel
theorem dX12_add_10 : decode cX12_add 10 = .ok (.iload 4, 2) := by decide +kernel
theorem dX12_add_12 : decode cX12_add 12 = .ok (.iload_n 1, 1) := by decide +kernel
theorem dX12_add_13 : decode cX12_add 13 = .ok (.iastore, 1) := by decide +kernel
theorem dX12_add_14 : decode cX12_add 14 = .ok (.aload_n 0, 1) := by decide +kernel
theorem dX12_add_15 : decode cX12_add 15 = .ok (.getfield 110, 3) := by decide +kernel
theorem dX12_add_18 : decode cX12_add 18 = .ok (.iload 4, 2) := by decide +kernel
theorem dX12_add_20 : decode cX12_add 20 = .ok (.iload_n 2, 1) := by decide +kernel
theorem dX12_add_21 : decode cX12_add 21 = .ok (.iastore, 1) := by decide +kernel
theorem dX12_add_22 : decode cX12_add 22 = .ok (.aload_n 0, 1) := by decide +kernel
theorem dX12_add_23 : decode cX12_add 23 = .ok (.getfield 113, 3) := by decide +kernel
theorem dX12_add_26 : decode cX12_add 26 = .ok (.iload 4, 2) := by decide +kernel
theorem dX12_add_28 : decode cX12_add 28 = .ok (.iload_n 3, 1) := by decide +kernel
theorem dX12_add_29 : decode cX12_add 29 = .ok (.iastore, 1) := by decide +kernel
theorem dX12_add_30 : decode cX12_add 30 = .ok (.aload_n 0, 1) := by decide +kernel
theorem dX12_add_31 : decode cX12_add 31 = .ok (.getfield 116, 3) := by decide +kernel
theorem dX12_add_34 : decode cX12_add 34 = .ok (.iload 4, 2) := by decide +kernel
theorem dX12_add_36 : decode cX12_add 36 = .ok (.aload_n 0, 1) := by decide +kernel
theorem dX12_add_37 : decode cX12_add 37 = .ok (.getfield 233, 3) := by decide +kernel
theorem dX12_add_40 : decode cX12_add 40 = .ok (.iastore, 1) := by decide +kernel
theorem dX12_add_41 : decode cX12_add 41 = .ok (.aload_n 0, 1) := by decide +kernel
theorem dX12_add_42 : decode cX12_add 42 = .ok (.getfield 119, 3) := by decide +kernel
theorem dX12_add_45 : decode cX12_add 45 = .ok (.iload 4, 2) := by decide +kernel
theorem dX12_add_47 : decode cX12_add 47 = .ok (.aload_n 0, 1) := by decide +kernel
theorem dX12_add_48 : decode cX12_add 48 = .ok (.getfield 187, 3) := by decide +kernel
theorem dX12_add_51 : decode cX12_add 51 = .ok (.iastore, 1) := by decide +kernel
theorem dX12_add_52 : decode cX12_add 52 = .ok (.aload_n 0, 1) := by decide +kernel
theorem dX12_add_53 : decode cX12_add 53 = .ok (.getfield 187, 3) := by decide +kernel
theorem dX12_add_56 : decode cX12_add 56 = .ok (.istore 5, 2) := by decide +kernel
theorem dX12_add_58 : decode cX12_add 58 = .ok (.iconst 0, 1) := by decide +kernel
theorem dX12_add_59 : decode cX12_add 59 = .ok (.istore 6, 2) := by decide +kernel
theorem dX12_add_61 : decode cX12_add 61 = .ok (.iload 6, 2) := by decide +kernel
theorem dX12_add_63 : decode cX12_add 63 = .ok (.aload_n 0, 1) := by decide +kernel
theorem dX12_add_64 : decode cX12_add 64 = .ok (.getfield 233, 3) := by decide +kernel
theorem dX12_add_67 : decode cX12_add 67 = .ok (.if_icmp .ge 151, 3) := by decide +kernel
theorem dX12_add_70 : decode cX12_add 70 = .ok (.bipush 63, 2) := by decide +kernel
theorem dX12_add_72 : decode cX12_add 72 = .ok (.iload 4, 2) := by decide +kernel
theorem dX12_add_74 : decode cX12_add 74 = .ok (.imul, 1) := by decide +kernel
theorem dX12_add_75 : decode cX12_add 75 = .ok (.bipush 9, 2) := by decide +kernel
theorem dX12_add_77 : decode cX12_add 77 = .ok (.iload 6, 2) := by decide +kernel
theorem dX12_add_79 : decode cX12_add 79 = .ok (.imul, 1) := by decide +kernel
theorem dX12_add_80 : decode cX12_add 80 = .ok (.iadd, 1) := by decide +kernel
theorem dX12_add_81 : decode cX12_add 81 = .ok (.istore 7, 2) := by decide +kernel
theorem dX12_add_83 : decode cX12_add 83 = .ok (.iconst 0, 1) := by decide +kernel
theorem dX12_add_84 : decode cX12_add 84 = .ok (.istore 8, 2) := by decide +kernel
theorem dX12_add_86 : decode cX12_add 86 = .ok (.iload 8, 2) := by decide +kernel
theorem dX12_add_88 : decode cX12_add 88 = .ok (.bipush 9, 2) := by decide +kernel
theorem dX12_add_90 : decode cX12_add 90 = .ok (.if_icmp .ge 39, 3) := by decide +kernel
theorem dX12_add_93 : decode cX12_add 93 = .ok (.aload_n 0, 1) := by decide +kernel
theorem dX12_add_94 : decode cX12_add 94 = .ok (.getfield 122, 3) := by decide +kernel
theorem dX12_add_97 : decode cX12_add 97 = .ok (.iload 7, 2) := by decide +kernel
theorem dX12_add_99 : decode cX12_add 99 = .ok (.iload 8, 2) := by decide +kernel
theorem dX12_add_101 : decode cX12_add 101 = .ok (.iadd, 1) := by decide +kernel
theorem dX12_add_102 : decode cX12_add 102 = .ok (.aload_n 0, 1) := by decide +kernel
theorem dX12_add_103 : decode cX12_add 103 = .ok (.getfield 125, 3) := by decide +kernel
theorem dX12_add_106 : decode cX12_add 106 = .ok (.bipush 9, 2) := by decide +kernel
theorem dX12_add_108 : decode cX12_add 108 = .ok (.aload_n 0, 1) := by decide +kernel
theorem dX12_add_109 : decode cX12_add 109 = .ok (.getfield 233, 3) := by decide +kernel
theorem dX12_add_112 : decode cX12_add 112 = .ok (.iconst 1, 1) := by decide +kernel
theorem dX12_add_113 : decode cX12_add 113 = .ok (.isub, 1) := by decide +kernel
theorem dX12_add_114 : decode cX12_add 114 = .ok (.iload 6, 2) := by decide +kernel
theorem dX12_add_116 : decode cX12_add 116 = .ok (.isub, 1) := by decide +kernel
theorem dX12_add_117 : decode cX12_add 117 = .ok (.imul, 1) := by decide +kernel
theorem dX12_add_118 : decode cX12_add 118 = .ok (.iload 8, 2) := by decide +kernel
theorem dX12_add_120 : decode cX12_add 120 = .ok (.iadd, 1) := by decide +kernel
theorem dX12_add_121 : decode cX12_add 121 = .ok (.iaload, 1) := by decide +kernel
theorem dX12_add_122 : decode cX12_add 122 = .ok (.iastore, 1) := by decide +kernel
theorem dX12_add_123 : decode cX12_add 123 = .ok (.iinc 8 1, 3) := by decide +kernel
theorem dX12_add_126 : decode cX12_add 126 = .ok (.goto (-40), 3) := by decide +kernel
theorem dX12_add_129 : decode cX12_add 129 = .ok (.aload_n 0, 1) := by decide +kernel
theorem dX12_add_130 : decode cX12_add 130 = .ok (.getfield 122, 3) := by decide +kernel
theorem dX12_add_133 : decode cX12_add 133 = .ok (.iload 7, 2) := by decide +kernel
theorem dX12_add_135 : decode cX12_add 135 = .ok (.iaload, 1) := by decide +kernel
theorem dX12_add_136 : decode cX12_add 136 = .ok (.iconst 2, 1) := by decide +kernel
theorem dX12_add_137 : decode cX12_add 137 = .ok (.if_icmp .le 64, 3) := by decide +kernel
theorem dX12_add_140 : decode cX12_add 140 = .ok (.aload_n 0, 1) := by decide +kernel
theorem dX12_add_141 : decode cX12_add 141 = .ok (.getfield 122, 3) := by decide +kernel
theorem dX12_add_144 : decode cX12_add 144 = .ok (.iload 7, 2) := by decide +kernel
theorem dX12_add_146 : decode cX12_add 146 = .ok (.iconst 4, 1) := by decide +kernel
theorem dX12_add_147 : decode cX12_add 147 = .ok (.iadd, 1) := by decide +kernel
theorem dX12_add_148 : decode cX12_add 148 = .ok (.aload_n 0, 1) := by decide +kernel
theorem dX12_add_149 : decode cX12_add 149 = .ok (.aload_n 0, 1) := by decide +kernel
theorem dX12_add_150 : decode cX12_add 150 = .ok (.getfield 122, 3) := by decide +kernel
theorem dX12_add_153 : decode cX12_add 153 = .ok (.iload 7, 2) := by decide +kernel
theorem dX12_add_155 : decode cX12_add 155 = .ok (.iconst 1, 1) := by decide +kernel
theorem dX12_add_156 : decode cX12_add 156 = .ok (.iadd, 1) := by decide +kernel
theorem dX12_add_157 : decode cX12_add 157 = .ok (.iaload, 1) := by decide +kernel
theorem dX12_add_158 : decode cX12_add 158 = .ok (.iload 5, 2) := by decide +kernel
theorem dX12_add_160 : decode cX12_add 160 = .ok (.aload_n 0, 1) := by decide +kernel
theorem dX12_add_161 : decode cX12_add 161 = .ok (.getfield 187, 3) := by decide +kernel
theorem dX12_add_164 : decode cX12_add 164 = .ok (.invokevirtual 184, 3) := by decide +kernel
theorem dX12_add_167 : decode cX12_add 167 = .ok (.iastore, 1) := by decide +kernel
theorem dX12_add_168 : decode cX12_add 168 = .ok (.aload_n 0, 1) := by decide +kernel
theorem dX12_add_169 : decode cX12_add 169 = .ok (.getfield 122, 3) := by decide +kernel
theorem dX12_add_172 : decode cX12_add 172 = .ok (.iload 7, 2) := by decide +kernel
theorem dX12_add_174 : decode cX12_add 174 = .ok (.iconst 5, 1) := by decide +kernel
theorem dX12_add_175 : decode cX12_add 175 = .ok (.iadd, 1) := by decide +kernel
theorem dX12_add_176 : decode cX12_add 176 = .ok (.aload_n 0, 1) := by decide +kernel
theorem dX12_add_177 : decode cX12_add 177 = .ok (.getfield 122, 3) := by decide +kernel
theorem dX12_add_180 : decode cX12_add 180 = .ok (.iload 7, 2) := by decide +kernel
theorem dX12_add_182 : decode cX12_add 182 = .ok (.iconst 4, 1) := by decide +kernel
theorem dX12_add_183 : decode cX12_add 183 = .ok (.iadd, 1) := by decide +kernel
theorem dX12_add_184 : decode cX12_add 184 = .ok (.iaload, 1) := by decide +kernel
theorem dX12_add_185 : decode cX12_add 185 = .ok (.aload_n 0, 1) := by decide +kernel
theorem dX12_add_186 : decode cX12_add 186 = .ok (.getfield 56, 3) := by decide +kernel
theorem dX12_add_189 : decode cX12_add 189 = .ok (.aload_n 0, 1) := by decide +kernel
theorem dX12_add_190 : decode cX12_add 190 = .ok (.getfield 122, 3) := by decide +kernel
theorem dX12_add_193 : decode cX12_add 193 = .ok (.iload 7, 2) := by decide +kernel
theorem dX12_add_195 : decode cX12_add 195 = .ok (.iconst 1, 1) := by decide +kernel
theorem dX12_add_196 : decode cX12_add 196 = .ok (.iadd, 1) := by decide +kernel
theorem dX12_add_197 : decode cX12_add 197 = .ok (.iaload, 1) := by decide +kernel
theorem dX12_add_198 : decode cX12_add 198 = .ok (.iaload, 1) := by decide +kernel
theorem dX12_add_199 : decode cX12_add 199 = .ok (.iadd, 1) := by decide +kernel
theorem dX12_add_200 : decode cX12_add 200 = .ok (.iastore, 1) := by decide +kernel
theorem dX12_add_201 : decode cX12_add 201 = .ok (.aload_n 0, 1) := by decide +kernel
theorem dX12_add_202 : decode cX12_add 202 = .ok (.getfield 122, 3) := by decide +kernel
theorem dX12_add_205 : decode cX12_add 205 = .ok (.iload 7, 2) := by decide +kernel
theorem dX12_add_207 : decode cX12_add 207 = .ok (.iconst 5, 1) := by decide +kernel
theorem dX12_add_208 : decode cX12_add 208 = .ok (.iadd, 1) := by decide +kernel
theorem dX12_add_209 : decode cX12_add 209 = .ok (.iaload, 1) := by decide +kernel
theorem dX12_add_210 : decode cX12_add 210 = .ok (.istore 5, 2) := by decide +kernel
theorem dX12_add_212 : decode cX12_add 212 = .ok (.iinc 6 1, 3) := by decide +kernel
theorem dX12_add_215 : decode cX12_add 215 = .ok (.goto (-154), 3) := by decide +kernel
theorem dX12_add_218 : decode cX12_add 218 = .ok (.aload_n 0, 1) := by decide +kernel
theorem dX12_add_219 : decode cX12_add 219 = .ok (.dup, 1) := by decide +kernel
theorem dX12_add_220 : decode cX12_add 220 = .ok (.getfield 261, 3) := by decide +kernel
theorem dX12_add_223 : decode cX12_add 223 = .ok (.iconst 1, 1) := by decide +kernel
theorem dX12_add_224 : decode cX12_add 224 = .ok (.iadd, 1) := by decide +kernel
theorem dX12_add_225 : decode cX12_add 225 = .ok (.putfield 261, 3) := by decide +kernel
theorem dX12_add_228 : decode cX12_add 228 = .ok (.return_, 1) := by decide +kernel
theorem dX12_ways_0 : decode cX12_ways 0 = .ok (.aload_n 0, 1) := by decide +kernel
theorem dX12_ways_1 : decode cX12_ways 1 = .ok (.iload_n 1, 1) := by decide +kernel
theorem dX12_ways_2 : decode cX12_ways 2 = .ok (.invokevirtual 167, 3) := by decide +kernel
theorem dX12_ways_5 : decode cX12_ways 5 = .ok (.ifCond .eq 30, 3) := by decide +kernel
theorem dX12_ways_8 : decode cX12_ways 8 = .ok (.aload_n 0, 1) := by decide +kernel
theorem dX12_ways_9 : decode cX12_ways 9 = .ok (.iload_n 2, 1) := by decide +kernel
theorem dX12_ways_10 : decode cX12_ways 10 = .ok (.invokevirtual 167, 3) := by decide +kernel
theorem dX12_ways_13 : decode cX12_ways 13 = .ok (.ifCond .eq 22, 3) := by decide +kernel
theorem dX12_ways_16 : decode cX12_ways 16 = .ok (.iload_n 3, 1) := by decide +kernel
theorem dX12_ways_17 : decode cX12_ways 17 = .ok (.invokestatic 164, 3) := by decide +kernel
theorem dX12_ways_20 : decode cX12_ways 20 = .ok (.ifCond .eq 15, 3) := by decide +kernel
theorem dX12_ways_23 : decode cX12_ways 23 = .ok (.iload 4, 2) := by decide +kernel
theorem dX12_ways_25 : decode cX12_ways 25 = .ok (.iconst 0, 1) := by decide +kernel
theorem dX12_ways_26 : decode cX12_ways 26 = .ok (.sipush 1439, 3) := by decide +kernel
theorem dX12_ways_29 : decode cX12_ways 29 = .ok (.invokestatic 150, 3) := by decide +kernel
theorem dX12_ways_32 : decode cX12_ways 32 = .ok (.ifCond .ne 6, 3) := by decide +kernel
theorem dX12_ways_35 : decode cX12_ways 35 = .ok (.bipush (-2), 2) := by decide +kernel
theorem dX12_ways_37 : decode cX12_ways 37 = .ok (.ireturn, 1) := by decide +kernel
theorem dX12_ways_38 : decode cX12_ways 38 = .ok (.aload_n 0, 1) := by decide +kernel
theorem dX12_ways_39 : decode cX12_ways 39 = .ok (.iload_n 3, 1) := by decide +kernel
theorem dX12_ways_40 : decode cX12_ways 40 = .ok (.iload 4, 2) := by decide +kernel
theorem dX12_ways_42 : decode cX12_ways 42 = .ok (.invokevirtual 264, 3) := by decide +kernel
theorem dX12_ways_45 : decode cX12_ways 45 = .ok (.aload_n 0, 1) := by decide +kernel
theorem dX12_ways_46 : decode cX12_ways 46 = .ok (.iload_n 1, 1) := by decide +kernel
theorem dX12_ways_47 : decode cX12_ways 47 = .ok (.sipush 1440, 3) := by decide +kernel
theorem dX12_ways_50 : decode cX12_ways 50 = .ok (.iload_n 3, 1) := by decide +kernel
theorem dX12_ways_51 : decode cX12_ways 51 = .ok (.imul, 1) := by decide +kernel
theorem dX12_ways_52 : decode cX12_ways 52 = .ok (.iload 4, 2) := by decide +kernel
theorem dX12_ways_54 : decode cX12_ways 54 = .ok (.iadd, 1) := by decide +kernel
theorem dX12_ways_55 : decode cX12_ways 55 = .ok (.invokevirtual 267, 3) := by decide +kernel
theorem dX12_ways_58 : decode cX12_ways 58 = .ok (.aload_n 0, 1) := by decide +kernel
theorem dX12_ways_59 : decode cX12_ways 59 = .ok (.iconst 0, 1) := by decide +kernel
theorem dX12_ways_60 : decode cX12_ways 60 = .ok (.putfield 261, 3) := by decide +kernel
theorem dX12_ways_63 : decode cX12_ways 63 = .ok (.iconst (-1), 1) := by decide +kernel
theorem dX12_ways_64 : decode cX12_ways 64 = .ok (.istore 5, 2) := by decide +kernel
theorem dX12_ways_66 : decode cX12_ways 66 = .ok (.iload 5, 2) := by decide +kernel
theorem dX12_ways_68 : decode cX12_ways 68 = .ok (.ldc 208, 2) := by decide +kernel
theorem dX12_ways_70 : decode cX12_ways 70 = .ok (.if_icmp .ge 164, 3) := by decide +kernel
theorem dX12_ways_73 : decode cX12_ways 73 = .ok (.ldc 208, 2) := by decide +kernel
theorem dX12_ways_75 : decode cX12_ways 75 = .ok (.istore 6, 2) := by decide +kernel
theorem dX12_ways_77 : decode cX12_ways 77 = .ok (.iconst 0, 1) := by decide +kernel
theorem dX12_ways_78 : decode cX12_ways 78 = .ok (.istore 7, 2) := by decide +kernel
theorem dX12_ways_80 : decode cX12_ways 80 = .ok (.iload 7, 2) := by decide +kernel
theorem dX12_ways_82 : decode cX12_ways 82 = .ok (.iconst 4, 1) := by decide +kernel
theorem dX12_ways_83 : decode cX12_ways 83 = .ok (.if_icmp .ge 54, 3) := by decide +kernel
theorem dX12_ways_86 : decode cX12_ways 86 = .ok (.iconst 0, 1) := by decide +kernel
theorem dX12_ways_87 : decode cX12_ways 87 = .ok (.istore 8, 2) := by decide +kernel
theorem dX12_ways_89 : decode cX12_ways 89 = .ok (.iload 8, 2) := by decide +kernel
theorem dX12_ways_91 : decode cX12_ways 91 = .ok (.bipush 28, 2) := by decide +kernel
theorem dX12_ways_93 : decode cX12_ways 93 = .ok (.if_icmp .ge 38, 3) := by decide +kernel
theorem dX12_ways_96 : decode cX12_ways 96 = .ok (.aload_n 0, 1) := by decide +kernel
theorem dX12_ways_97 : decode cX12_ways 97 = .ok (.iload 7, 2) := by decide +kernel
theorem dX12_ways_99 : decode cX12_ways 99 = .ok (.iload 8, 2) := by decide +kernel
theorem dX12_ways_101 : decode cX12_ways 101 = .ok (.iload_n 2, 1) := by decide +kernel
theorem dX12_ways_102 : decode cX12_ways 102 = .ok (.invokevirtual 230, 3) := by decide +kernel
theorem dX12_ways_105 : decode cX12_ways 105 = .ok (.istore 9, 2) := by decide +kernel
theorem dX12_ways_107 : decode cX12_ways 107 = .ok (.iload 9, 2) := by decide +kernel
theorem dX12_ways_109 : decode cX12_ways 109 = .ok (.iload 5, 2) := by decide +kernel
theorem dX12_ways_111 : decode cX12_ways 111 = .ok (.if_icmp .le 14, 3) := by decide +kernel
theorem dX12_ways_114 : decode cX12_ways 114 = .ok (.iload 9, 2) := by decide +kernel
theorem dX12_ways_116 : decode cX12_ways 116 = .ok (.iload 6, 2) := by decide +kernel
theorem dX12_ways_118 : decode cX12_ways 118 = .ok (.if_icmp .ge 7, 3) := by decide +kernel
theorem dX12_ways_121 : decode cX12_ways 121 = .ok (.iload 9, 2) := by decide +kernel
theorem dX12_ways_123 : decode cX12_ways 123 = .ok (.istore 6, 2) := by decide +kernel
theorem dX12_ways_125 : decode cX12_ways 125 = .ok (.iinc 8 1, 3) := by decide +kernel
theorem dX12_ways_128 : decode cX12_ways 128 = .ok (.goto (-39), 3) := by decide +kernel
theorem dX12_ways_131 : decode cX12_ways 131 = .ok (.iinc 7 1, 3) := by decide +kernel
theorem dX12_ways_134 : decode cX12_ways 134 = .ok (.goto (-54), 3) := by decide +kernel
theorem dX12_ways_137 : decode cX12_ways 137 = .ok (.iload 6, 2) := by decide +kernel
theorem dX12_ways_139 : decode cX12_ways 139 = .ok (.istore 5, 2) := by decide +kernel
theorem dX12_ways_141 : decode cX12_ways 141 = .ok (.iconst 0, 1) := by decide +kernel
theorem dX12_ways_142 : decode cX12_ways 142 = .ok (.istore 7, 2) := by decide +kernel
theorem dX12_ways_144 : decode cX12_ways 144 = .ok (.iload 7, 2) := by decide +kernel
theorem dX12_ways_146 : decode cX12_ways 146 = .ok (.iconst 4, 1) := by decide +kernel
theorem dX12_ways_147 : decode cX12_ways 147 = .ok (.if_icmp .ge 84, 3) := by decide +kernel
theorem dX12_ways_150 : decode cX12_ways 150 = .ok (.iload 5, 2) := by decide +kernel
theorem dX12_ways_152 : decode cX12_ways 152 = .ok (.ldc 208, 2) := by decide +kernel
theorem dX12_ways_154 : decode cX12_ways 154 = .ok (.if_icmp .ge 77, 3) := by decide +kernel
theorem dX12_ways_157 : decode cX12_ways 157 = .ok (.iconst 0, 1) := by decide +kernel
theorem dX12_ways_158 : decode cX12_ways 158 = .ok (.istore 8, 2) := by decide +kernel
theorem dX12_ways_160 : decode cX12_ways 160 = .ok (.iload 8, 2) := by decide +kernel
theorem dX12_ways_162 : decode cX12_ways 162 = .ok (.bipush 28, 2) := by decide +kernel
theorem dX12_ways_164 : decode cX12_ways 164 = .ok (.if_icmp .ge 61, 3) := by decide +kernel
theorem dX12_ways_167 : decode cX12_ways 167 = .ok (.aload_n 0, 1) := by decide +kernel
theorem dX12_ways_168 : decode cX12_ways 168 = .ok (.iload 7, 2) := by decide +kernel
theorem dX12_ways_170 : decode cX12_ways 170 = .ok (.iload 8, 2) := by decide +kernel
theorem dX12_ways_172 : decode cX12_ways 172 = .ok (.iload_n 2, 1) := by decide +kernel
theorem dX12_ways_173 : decode cX12_ways 173 = .ok (.invokevirtual 230, 3) := by decide +kernel
theorem dX12_ways_176 : decode cX12_ways 176 = .ok (.iload 5, 2) := by decide +kernel
theorem dX12_ways_178 : decode cX12_ways 178 = .ok (.if_icmp .ne 41, 3) := by decide +kernel
theorem dX12_ways_181 : decode cX12_ways 181 = .ok (.aload_n 0, 1) := by decide +kernel
theorem dX12_ways_182 : decode cX12_ways 182 = .ok (.iload 5, 2) := by decide +kernel
theorem dX12_ways_184 : decode cX12_ways 184 = .ok (.iload 7, 2) := by decide +kernel
theorem dX12_ways_186 : decode cX12_ways 186 = .ok (.iload 8, 2) := by decide +kernel
theorem dX12_ways_188 : decode cX12_ways 188 = .ok (.iload_n 2, 1) := by decide +kernel
theorem dX12_ways_189 : decode cX12_ways 189 = .ok (.invokevirtual 270, 3) := by decide +kernel
theorem dX12_ways_192 : decode cX12_ways 192 = .ok (.ifCond .eq 6, 3) := by decide +kernel
theorem dX12_ways_195 : decode cX12_ways 195 = .ok (.goto 24, 3) := by decide +kernel
theorem dX12_ways_198 : decode cX12_ways 198 = .ok (.aload_n 0, 1) := by decide +kernel
theorem dX12_ways_199 : decode cX12_ways 199 = .ok (.iload 7, 2) := by decide +kernel
theorem dX12_ways_201 : decode cX12_ways 201 = .ok (.iload 8, 2) := by decide +kernel
theorem dX12_ways_203 : decode cX12_ways 203 = .ok (.iload_n 2, 1) := by decide +kernel
theorem dX12_ways_204 : decode cX12_ways 204 = .ok (.iload 5, 2) := by decide +kernel
theorem dX12_ways_206 : decode cX12_ways 206 = .ok (.invokevirtual 273, 3) := by decide +kernel
theorem dX12_ways_209 : decode cX12_ways 209 = .ok (.aload_n 0, 1) := by decide +kernel
theorem dX12_ways_210 : decode cX12_ways 210 = .ok (.iload 5, 2) := by decide +kernel
theorem dX12_ways_212 : decode cX12_ways 212 = .ok (.iload 7, 2) := by decide +kernel
theorem dX12_ways_214 : decode cX12_ways 214 = .ok (.iload 8, 2) := by decide +kernel
theorem dX12_ways_216 : decode cX12_ways 216 = .ok (.invokevirtual 277, 3) := by decide +kernel
theorem dX12_ways_219 : decode cX12_ways 219 = .ok (.iinc 8 1, 3) := by decide +kernel
theorem dX12_ways_222 : decode cX12_ways 222 = .ok (.goto (-62), 3) := by decide +kernel
theorem dX12_ways_225 : decode cX12_ways 225 = .ok (.iinc 7 1, 3) := by decide +kernel
theorem dX12_ways_228 : decode cX12_ways 228 = .ok (.goto (-84), 3) := by decide +kernel
theorem dX12_ways_231 : decode cX12_ways 231 = .ok (.goto (-165), 3) := by decide +kernel
theorem dX12_ways_234 : decode cX12_ways 234 = .ok (.aload_n 0, 1) := by decide +kernel
theorem dX12_ways_235 : decode cX12_ways 235 = .ok (.getfield 261, 3) := by decide +kernel
theorem dX12_ways_238 : decode cX12_ways 238 = .ok (.ireturn, 1) := by decide +kernel
theorem dX12_way_0 : decode cX12_way 0 = .ok (.iload_n 1, 1) := by decide +kernel
theorem dX12_way_1 : decode cX12_way 1 = .ok (.iconst 0, 1) := by decide +kernel
theorem dX12_way_2 : decode cX12_way 2 = .ok (.aload_n 0, 1) := by decide +kernel
theorem dX12_way_3 : decode cX12_way 3 = .ok (.getfield 261, 3) := by decide +kernel
theorem dX12_way_6 : decode cX12_way 6 = .ok (.iconst 1, 1) := by decide +kernel
theorem dX12_way_7 : decode cX12_way 7 = .ok (.isub, 1) := by decide +kernel
theorem dX12_way_8 : decode cX12_way 8 = .ok (.invokestatic 150, 3) := by decide +kernel
theorem dX12_way_11 : decode cX12_way 11 = .ok (.ifCond .ne 6, 3) := by decide +kernel
theorem dX12_way_14 : decode cX12_way 14 = .ok (.bipush (-2), 2) := by decide +kernel
theorem dX12_way_16 : decode cX12_way 16 = .ok (.ireturn, 1) := by decide +kernel
theorem dX12_way_17 : decode cX12_way 17 = .ok (.iload_n 2, 1) := by decide +kernel
theorem dX12_way_18 : decode cX12_way 18 = .ok (.tableswitch 92 0 4 #[34, 64, 71, 78, 85], 34) := by decide +kernel
theorem dX12_way_52 : decode cX12_way 52 = .ok (.aload_n 0, 1) := by decide +kernel
theorem dX12_way_53 : decode cX12_way 53 = .ok (.getfield 116, 3) := by decide +kernel
theorem dX12_way_56 : decode cX12_way 56 = .ok (.iload_n 1, 1) := by decide +kernel
theorem dX12_way_57 : decode cX12_way 57 = .ok (.iaload, 1) := by decide +kernel
theorem dX12_way_58 : decode cX12_way 58 = .ok (.ifCond .ne 12, 3) := by decide +kernel
theorem dX12_way_61 : decode cX12_way 61 = .ok (.aload_n 0, 1) := by decide +kernel
theorem dX12_way_62 : decode cX12_way 62 = .ok (.getfield 119, 3) := by decide +kernel
theorem dX12_way_65 : decode cX12_way 65 = .ok (.iload_n 1, 1) := by decide +kernel
theorem dX12_way_66 : decode cX12_way 66 = .ok (.iaload, 1) := by decide +kernel
theorem dX12_way_67 : decode cX12_way 67 = .ok (.goto 14, 3) := by decide +kernel
theorem dX12_way_70 : decode cX12_way 70 = .ok (.aload_n 0, 1) := by decide +kernel
theorem dX12_way_71 : decode cX12_way 71 = .ok (.getfield 122, 3) := by decide +kernel
theorem dX12_way_74 : decode cX12_way 74 = .ok (.bipush 63, 2) := by decide +kernel
theorem dX12_way_76 : decode cX12_way 76 = .ok (.iload_n 1, 1) := by decide +kernel
theorem dX12_way_77 : decode cX12_way 77 = .ok (.imul, 1) := by decide +kernel
theorem dX12_way_78 : decode cX12_way 78 = .ok (.iconst 4, 1) := by decide +kernel
theorem dX12_way_79 : decode cX12_way 79 = .ok (.iadd, 1) := by decide +kernel
theorem dX12_way_80 : decode cX12_way 80 = .ok (.iaload, 1) := by decide +kernel
theorem dX12_way_81 : decode cX12_way 81 = .ok (.ireturn, 1) := by decide +kernel
theorem dX12_way_82 : decode cX12_way 82 = .ok (.aload_n 0, 1) := by decide +kernel
theorem dX12_way_83 : decode cX12_way 83 = .ok (.getfield 107, 3) := by decide +kernel
theorem dX12_way_86 : decode cX12_way 86 = .ok (.iload_n 1, 1) := by decide +kernel
theorem dX12_way_87 : decode cX12_way 87 = .ok (.iaload, 1) := by decide +kernel
theorem dX12_way_88 : decode cX12_way 88 = .ok (.ireturn, 1) := by decide +kernel
theorem dX12_way_89 : decode cX12_way 89 = .ok (.aload_n 0, 1) := by decide +kernel
theorem dX12_way_90 : decode cX12_way 90 = .ok (.getfield 110, 3) := by decide +kernel
theorem dX12_way_93 : decode cX12_way 93 = .ok (.iload_n 1, 1) := by decide +kernel
theorem dX12_way_94 : decode cX12_way 94 = .ok (.iaload, 1) := by decide +kernel
theorem dX12_way_95 : decode cX12_way 95 = .ok (.ireturn, 1) := by decide +kernel
theorem dX12_way_96 : decode cX12_way 96 = .ok (.aload_n 0, 1) := by decide +kernel
theorem dX12_way_97 : decode cX12_way 97 = .ok (.getfield 113, 3) := by decide +kernel
theorem dX12_way_100 : decode cX12_way 100 = .ok (.iload_n 1, 1) := by decide +kernel
theorem dX12_way_101 : decode cX12_way 101 = .ok (.iaload, 1) := by decide +kernel
theorem dX12_way_102 : decode cX12_way 102 = .ok (.ireturn, 1) := by decide +kernel
theorem dX12_way_103 : decode cX12_way 103 = .ok (.aload_n 0, 1) := by decide +kernel
theorem dX12_way_104 : decode cX12_way 104 = .ok (.getfield 116, 3) := by decide +kernel
theorem dX12_way_107 : decode cX12_way 107 = .ok (.iload_n 1, 1) := by decide +kernel
theorem dX12_way_108 : decode cX12_way 108 = .ok (.iaload, 1) := by decide +kernel
theorem dX12_way_109 : decode cX12_way 109 = .ok (.ireturn, 1) := by decide +kernel
theorem dX12_way_110 : decode cX12_way 110 = .ok (.bipush (-2), 2) := by decide +kernel
theorem dX12_way_112 : decode cX12_way 112 = .ok (.ireturn, 1) := by decide +kernel
theorem dX12_leg_0 : decode cX12_leg 0 = .ok (.iload_n 1, 1) := by decide +kernel
theorem dX12_leg_1 : decode cX12_leg 1 = .ok (.iconst 0, 1) := by decide +kernel
theorem dX12_leg_2 : decode cX12_leg 2 = .ok (.aload_n 0, 1) := by decide +kernel
theorem dX12_leg_3 : decode cX12_leg 3 = .ok (.getfield 261, 3) := by decide +kernel
theorem dX12_leg_6 : decode cX12_leg 6 = .ok (.iconst 1, 1) := by decide +kernel
theorem dX12_leg_7 : decode cX12_leg 7 = .ok (.isub, 1) := by decide +kernel
theorem dX12_leg_8 : decode cX12_leg 8 = .ok (.invokestatic 150, 3) := by decide +kernel
theorem dX12_leg_11 : decode cX12_leg 11 = .ok (.ifCond .eq 48, 3) := by decide +kernel
theorem dX12_leg_14 : decode cX12_leg 14 = .ok (.iload_n 2, 1) := by decide +kernel
theorem dX12_leg_15 : decode cX12_leg 15 = .ok (.iconst 0, 1) := by decide +kernel
theorem dX12_leg_16 : decode cX12_leg 16 = .ok (.aload_n 0, 1) := by decide +kernel
theorem dX12_leg_17 : decode cX12_leg 17 = .ok (.getfield 116, 3) := by decide +kernel
theorem dX12_leg_20 : decode cX12_leg 20 = .ok (.iload_n 1, 1) := by decide +kernel
theorem dX12_leg_21 : decode cX12_leg 21 = .ok (.iaload, 1) := by decide +kernel
theorem dX12_leg_22 : decode cX12_leg 22 = .ok (.iconst 1, 1) := by decide +kernel
theorem dX12_leg_23 : decode cX12_leg 23 = .ok (.isub, 1) := by decide +kernel
theorem dX12_leg_24 : decode cX12_leg 24 = .ok (.invokestatic 150, 3) := by decide +kernel
theorem dX12_leg_27 : decode cX12_leg 27 = .ok (.ifCond .eq 32, 3) := by decide +kernel
theorem dX12_leg_30 : decode cX12_leg 30 = .ok (.iload_n 3, 1) := by decide +kernel
theorem dX12_leg_31 : decode cX12_leg 31 = .ok (.iconst 0, 1) := by decide +kernel
theorem dX12_leg_32 : decode cX12_leg 32 = .ok (.bipush 8, 2) := by decide +kernel
theorem dX12_leg_34 : decode cX12_leg 34 = .ok (.invokestatic 150, 3) := by decide +kernel
theorem dX12_leg_37 : decode cX12_leg 37 = .ok (.ifCond .eq 22, 3) := by decide +kernel
theorem dX12_leg_40 : decode cX12_leg 40 = .ok (.aload_n 0, 1) := by decide +kernel
theorem dX12_leg_41 : decode cX12_leg 41 = .ok (.getfield 122, 3) := by decide +kernel
theorem dX12_leg_44 : decode cX12_leg 44 = .ok (.bipush 63, 2) := by decide +kernel
theorem dX12_leg_46 : decode cX12_leg 46 = .ok (.iload_n 1, 1) := by decide +kernel
theorem dX12_leg_47 : decode cX12_leg 47 = .ok (.imul, 1) := by decide +kernel
theorem dX12_leg_48 : decode cX12_leg 48 = .ok (.bipush 9, 2) := by decide +kernel
theorem dX12_leg_50 : decode cX12_leg 50 = .ok (.iload_n 2, 1) := by decide +kernel
theorem dX12_leg_51 : decode cX12_leg 51 = .ok (.imul, 1) := by decide +kernel
theorem dX12_leg_52 : decode cX12_leg 52 = .ok (.iadd, 1) := by decide +kernel
theorem dX12_leg_53 : decode cX12_leg 53 = .ok (.iload_n 3, 1) := by decide +kernel
theorem dX12_leg_54 : decode cX12_leg 54 = .ok (.iadd, 1) := by decide +kernel
theorem dX12_leg_55 : decode cX12_leg 55 = .ok (.iaload, 1) := by decide +kernel
theorem dX12_leg_56 : decode cX12_leg 56 = .ok (.goto 5, 3) := by decide +kernel
theorem dX12_leg_59 : decode cX12_leg 59 = .ok (.bipush (-2), 2) := by decide +kernel
theorem dX12_leg_61 : decode cX12_leg 61 = .ok (.ireturn, 1) := by decide +kernel
theorem dX12_places_0 : decode cX12_places 0 = .ok (.iconst 0, 1) := by decide +kernel
theorem dX12_places_1 : decode cX12_places 1 = .ok (.istore 5, 2) := by decide +kernel
theorem dX12_places_3 : decode cX12_places 3 = .ok (.iconst 0, 1) := by decide +kernel
theorem dX12_places_4 : decode cX12_places 4 = .ok (.istore 6, 2) := by decide +kernel
theorem dX12_places_6 : decode cX12_places 6 = .ok (.iload 6, 2) := by decide +kernel
theorem dX12_places_8 : decode cX12_places 8 = .ok (.iload_n 3, 1) := by decide +kernel
theorem dX12_places_9 : decode cX12_places 9 = .ok (.if_icmp .ge 134, 3) := by decide +kernel
theorem dX12_places_12 : decode cX12_places 12 = .ok (.iload_n 2, 1) := by decide +kernel
theorem dX12_places_13 : decode cX12_places 13 = .ok (.bipush 9, 2) := by decide +kernel
theorem dX12_places_15 : decode cX12_places 15 = .ok (.iload 6, 2) := by decide +kernel
theorem dX12_places_17 : decode cX12_places 17 = .ok (.imul, 1) := by decide +kernel
theorem dX12_places_18 : decode cX12_places 18 = .ok (.iadd, 1) := by decide +kernel
theorem dX12_places_19 : decode cX12_places 19 = .ok (.istore 7, 2) := by decide +kernel
theorem dX12_places_21 : decode cX12_places 21 = .ok (.aload_n 1, 1) := by decide +kernel
theorem dX12_places_22 : decode cX12_places 22 = .ok (.iload 7, 2) := by decide +kernel
theorem dX12_places_24 : decode cX12_places 24 = .ok (.iaload, 1) := by decide +kernel
theorem dX12_places_25 : decode cX12_places 25 = .ok (.iconst 1, 1) := by decide +kernel
theorem dX12_places_26 : decode cX12_places 26 = .ok (.if_icmp .eq 14, 3) := by decide +kernel
theorem dX12_places_29 : decode cX12_places 29 = .ok (.aload_n 1, 1) := by decide +kernel
theorem dX12_places_30 : decode cX12_places 30 = .ok (.iload 7, 2) := by decide +kernel
theorem dX12_places_32 : decode cX12_places 32 = .ok (.iaload, 1) := by decide +kernel
theorem dX12_places_33 : decode cX12_places 33 = .ok (.iconst 2, 1) := by decide +kernel
theorem dX12_places_34 : decode cX12_places 34 = .ok (.if_icmp .eq 6, 3) := by decide +kernel
theorem dX12_places_37 : decode cX12_places 37 = .ok (.goto 100, 3) := by decide +kernel
theorem dX12_places_40 : decode cX12_places 40 = .ok (.aload_n 1, 1) := by decide +kernel
theorem dX12_places_41 : decode cX12_places 41 = .ok (.iload 7, 2) := by decide +kernel
theorem dX12_places_43 : decode cX12_places 43 = .ok (.iconst 1, 1) := by decide +kernel
theorem dX12_places_44 : decode cX12_places 44 = .ok (.iadd, 1) := by decide +kernel
theorem dX12_places_45 : decode cX12_places 45 = .ok (.iaload, 1) := by decide +kernel
theorem dX12_places_46 : decode cX12_places 46 = .ok (.istore 8, 2) := by decide +kernel
theorem dX12_places_48 : decode cX12_places 48 = .ok (.aload_n 1, 1) := by decide +kernel
theorem dX12_places_49 : decode cX12_places 49 = .ok (.iload 7, 2) := by decide +kernel
theorem dX12_places_51 : decode cX12_places 51 = .ok (.bipush 7, 2) := by decide +kernel
theorem dX12_places_53 : decode cX12_places 53 = .ok (.iadd, 1) := by decide +kernel
theorem dX12_places_54 : decode cX12_places 54 = .ok (.iaload, 1) := by decide +kernel
theorem dX12_places_55 : decode cX12_places 55 = .ok (.istore 9, 2) := by decide +kernel
theorem dX12_places_57 : decode cX12_places 57 = .ok (.iload 9, 2) := by decide +kernel
theorem dX12_places_59 : decode cX12_places 59 = .ok (.aload_n 1, 1) := by decide +kernel
theorem dX12_places_60 : decode cX12_places 60 = .ok (.iload 7, 2) := by decide +kernel
theorem dX12_places_62 : decode cX12_places 62 = .ok (.bipush 8, 2) := by decide +kernel
theorem dX12_places_64 : decode cX12_places 64 = .ok (.iadd, 1) := by decide +kernel
theorem dX12_places_65 : decode cX12_places 65 = .ok (.iaload, 1) := by decide +kernel
theorem dX12_places_66 : decode cX12_places 66 = .ok (.if_icmp .ge 71, 3) := by decide +kernel
theorem dX12_places_69 : decode cX12_places 69 = .ok (.bipush 100, 2) := by decide +kernel
theorem dX12_places_71 : decode cX12_places 71 = .ok (.iload 8, 2) := by decide +kernel
theorem dX12_places_73 : decode cX12_places 73 = .ok (.imul, 1) := by decide +kernel
theorem dX12_places_74 : decode cX12_places 74 = .ok (.aload_n 1, 1) := by decide +kernel
theorem dX12_places_75 : decode cX12_places 75 = .ok (.iload 7, 2) := by decide +kernel
theorem dX12_places_77 : decode cX12_places 77 = .ok (.bipush 6, 2) := by decide +kernel
theorem dX12_places_79 : decode cX12_places 79 = .ok (.iadd, 1) := by decide +kernel
theorem dX12_places_80 : decode cX12_places 80 = .ok (.iaload, 1) := by decide +kernel
theorem dX12_places_81 : decode cX12_places 81 = .ok (.iadd, 1) := by decide +kernel
theorem dX12_places_82 : decode cX12_places 82 = .ok (.bipush 8, 2) := by decide +kernel
theorem dX12_places_84 : decode cX12_places 84 = .ok (.imul, 1) := by decide +kernel
theorem dX12_places_85 : decode cX12_places 85 = .ok (.iload 9, 2) := by decide +kernel
theorem dX12_places_87 : decode cX12_places 87 = .ok (.iadd, 1) := by decide +kernel
theorem dX12_places_88 : decode cX12_places 88 = .ok (.istore 10, 2) := by decide +kernel
theorem dX12_places_90 : decode cX12_places 90 = .ok (.aload_n 0, 1) := by decide +kernel
theorem dX12_places_91 : decode cX12_places 91 = .ok (.getfield 86, 3) := by decide +kernel
theorem dX12_places_94 : decode cX12_places 94 = .ok (.iload 10, 2) := by decide +kernel
theorem dX12_places_96 : decode cX12_places 96 = .ok (.dup2, 1) := by decide +kernel
theorem dX12_places_97 : decode cX12_places 97 = .ok (.iaload, 1) := by decide +kernel
theorem dX12_places_98 : decode cX12_places 98 = .ok (.iload 4, 2) := by decide +kernel
theorem dX12_places_100 : decode cX12_places 100 = .ok (.iadd, 1) := by decide +kernel
theorem dX12_places_101 : decode cX12_places 101 = .ok (.iastore, 1) := by decide +kernel
theorem dX12_places_102 : decode cX12_places 102 = .ok (.iload 5, 2) := by decide +kernel
theorem dX12_places_104 : decode cX12_places 104 = .ok (.ifCond .ne 20, 3) := by decide +kernel
theorem dX12_places_107 : decode cX12_places 107 = .ok (.aload_n 0, 1) := by decide +kernel
theorem dX12_places_108 : decode cX12_places 108 = .ok (.getfield 86, 3) := by decide +kernel
theorem dX12_places_111 : decode cX12_places 111 = .ok (.iload 10, 2) := by decide +kernel
theorem dX12_places_113 : decode cX12_places 113 = .ok (.iaload, 1) := by decide +kernel
theorem dX12_places_114 : decode cX12_places 114 = .ok (.aload_n 0, 1) := by decide +kernel
theorem dX12_places_115 : decode cX12_places 115 = .ok (.getfield 28, 3) := by decide +kernel
theorem dX12_places_118 : decode cX12_places 118 = .ok (.iload 8, 2) := by decide +kernel
theorem dX12_places_120 : decode cX12_places 120 = .ok (.iaload, 1) := by decide +kernel
theorem dX12_places_121 : decode cX12_places 121 = .ok (.if_icmp .le 7, 3) := by decide +kernel
theorem dX12_places_124 : decode cX12_places 124 = .ok (.iconst 1, 1) := by decide +kernel
theorem dX12_places_125 : decode cX12_places 125 = .ok (.goto 4, 3) := by decide +kernel
theorem dX12_places_128 : decode cX12_places 128 = .ok (.iconst 0, 1) := by decide +kernel
theorem dX12_places_129 : decode cX12_places 129 = .ok (.istore 5, 2) := by decide +kernel
theorem dX12_places_131 : decode cX12_places 131 = .ok (.iinc 9 1, 3) := by decide +kernel
theorem dX12_places_134 : decode cX12_places 134 = .ok (.goto (-77), 3) := by decide +kernel
theorem dX12_places_137 : decode cX12_places 137 = .ok (.iinc 6 1, 3) := by decide +kernel
theorem dX12_places_140 : decode cX12_places 140 = .ok (.goto (-134), 3) := by decide +kernel
