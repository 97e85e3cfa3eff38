theorem dX12_places_143 : decode cX12_places 143 = .ok (.iload 5, 2) := by decide +kernel
theorem dX12_places_145 : decode cX12_places 145 = .ok (.ireturn, 1) := by decide +kernel
theorem dX12_take_0 : decode cX12_take 0 = .ok (.iload_n 1, 1) := by decide +kernel
theorem dX12_take_1 : decode cX12_take 1 = .ok (.iconst 0, 1) := by decide +kernel
theorem dX12_take_2 : decode cX12_take 2 = .ok (.aload_n 0, 1) := by decide +kernel
theorem dX12_take_3 : decode cX12_take 3 = .ok (.getfield 261, 3) := by decide +kernel
theorem dX12_take_6 : decode cX12_take 6 = .ok (.iconst 1, 1) := by decide +kernel
theorem dX12_take_7 : decode cX12_take 7 = .ok (.isub, 1) := by decide +kernel
theorem dX12_take_8 : decode cX12_take 8 = .ok (.invokestatic 150, 3) := by decide +kernel
theorem dX12_take_11 : decode cX12_take 11 = .ok (.ifCond .eq 12, 3) := by decide +kernel
theorem dX12_take_14 : decode cX12_take 14 = .ok (.aload_n 0, 1) := by decide +kernel
theorem dX12_take_15 : decode cX12_take 15 = .ok (.getfield 280, 3) := by decide +kernel
theorem dX12_take_18 : decode cX12_take 18 = .ok (.bipush 30, 2) := by decide +kernel
theorem dX12_take_20 : decode cX12_take 20 = .ok (.if_icmp .ne 6, 3) := by decide +kernel
theorem dX12_take_23 : decode cX12_take 23 = .ok (.bipush (-2), 2) := by decide +kernel
theorem dX12_take_25 : decode cX12_take 25 = .ok (.ireturn, 1) := by decide +kernel
theorem dX12_take_26 : decode cX12_take 26 = .ok (.aload_n 0, 1) := by decide +kernel
theorem dX12_take_27 : decode cX12_take 27 = .ok (.aload_n 0, 1) := by decide +kernel
theorem dX12_take_28 : decode cX12_take 28 = .ok (.getfield 122, 3) := by decide +kernel
theorem dX12_take_31 : decode cX12_take 31 = .ok (.bipush 63, 2) := by decide +kernel
theorem dX12_take_33 : decode cX12_take 33 = .ok (.iload_n 1, 1) := by decide +kernel
theorem dX12_take_34 : decode cX12_take 34 = .ok (.imul, 1) := by decide +kernel
theorem dX12_take_35 : decode cX12_take 35 = .ok (.aload_n 0, 1) := by decide +kernel
theorem dX12_take_36 : decode cX12_take 36 = .ok (.getfield 116, 3) := by decide +kernel
theorem dX12_take_39 : decode cX12_take 39 = .ok (.iload_n 1, 1) := by decide +kernel
theorem dX12_take_40 : decode cX12_take 40 = .ok (.iaload, 1) := by decide +kernel
theorem dX12_take_41 : decode cX12_take 41 = .ok (.iconst 1, 1) := by decide +kernel
theorem dX12_take_42 : decode cX12_take 42 = .ok (.invokevirtual 283, 3) := by decide +kernel
theorem dX12_take_45 : decode cX12_take 45 = .ok (.ifCond .eq 26, 3) := by decide +kernel
theorem dX12_take_48 : decode cX12_take 48 = .ok (.aload_n 0, 1) := by decide +kernel
theorem dX12_take_49 : decode cX12_take 49 = .ok (.aload_n 0, 1) := by decide +kernel
theorem dX12_take_50 : decode cX12_take 50 = .ok (.getfield 122, 3) := by decide +kernel
theorem dX12_take_53 : decode cX12_take 53 = .ok (.bipush 63, 2) := by decide +kernel
theorem dX12_take_55 : decode cX12_take 55 = .ok (.iload_n 1, 1) := by decide +kernel
theorem dX12_take_56 : decode cX12_take 56 = .ok (.imul, 1) := by decide +kernel
theorem dX12_take_57 : decode cX12_take 57 = .ok (.aload_n 0, 1) := by decide +kernel
theorem dX12_take_58 : decode cX12_take 58 = .ok (.getfield 116, 3) := by decide +kernel
theorem dX12_take_61 : decode cX12_take 61 = .ok (.iload_n 1, 1) := by decide +kernel
theorem dX12_take_62 : decode cX12_take 62 = .ok (.iaload, 1) := by decide +kernel
theorem dX12_take_63 : decode cX12_take 63 = .ok (.iconst (-1), 1) := by decide +kernel
theorem dX12_take_64 : decode cX12_take 64 = .ok (.invokevirtual 283, 3) := by decide +kernel
theorem dX12_take_67 : decode cX12_take 67 = .ok (.istore_n 2, 1) := by decide +kernel
theorem dX12_take_68 : decode cX12_take 68 = .ok (.bipush (-2), 2) := by decide +kernel
theorem dX12_take_70 : decode cX12_take 70 = .ok (.ireturn, 1) := by decide +kernel
theorem dX12_take_71 : decode cX12_take 71 = .ok (.aload_n 0, 1) := by decide +kernel
theorem dX12_take_72 : decode cX12_take 72 = .ok (.getfield 128, 3) := by decide +kernel
theorem dX12_take_75 : decode cX12_take 75 = .ok (.aload_n 0, 1) := by decide +kernel
theorem dX12_take_76 : decode cX12_take 76 = .ok (.getfield 280, 3) := by decide +kernel
theorem dX12_take_79 : decode cX12_take 79 = .ok (.aload_n 0, 1) := by decide +kernel
theorem dX12_take_80 : decode cX12_take 80 = .ok (.getfield 116, 3) := by decide +kernel
theorem dX12_take_83 : decode cX12_take 83 = .ok (.iload_n 1, 1) := by decide +kernel
theorem dX12_take_84 : decode cX12_take 84 = .ok (.iaload, 1) := by decide +kernel
theorem dX12_take_85 : decode cX12_take 85 = .ok (.iastore, 1) := by decide +kernel
theorem dX12_take_86 : decode cX12_take 86 = .ok (.aload_n 0, 1) := by decide +kernel
theorem dX12_take_87 : decode cX12_take 87 = .ok (.getfield 131, 3) := by decide +kernel
theorem dX12_take_90 : decode cX12_take 90 = .ok (.aload_n 0, 1) := by decide +kernel
theorem dX12_take_91 : decode cX12_take 91 = .ok (.getfield 280, 3) := by decide +kernel
theorem dX12_take_94 : decode cX12_take 94 = .ok (.aload_n 0, 1) := by decide +kernel
theorem dX12_take_95 : decode cX12_take 95 = .ok (.getfield 119, 3) := by decide +kernel
theorem dX12_take_98 : decode cX12_take 98 = .ok (.iload_n 1, 1) := by decide +kernel
theorem dX12_take_99 : decode cX12_take 99 = .ok (.iaload, 1) := by decide +kernel
theorem dX12_take_100 : decode cX12_take 100 = .ok (.iastore, 1) := by decide +kernel
theorem dX12_take_101 : decode cX12_take 101 = .ok (.iconst 0, 1) := by decide +kernel
theorem dX12_take_102 : decode cX12_take 102 = .ok (.istore_n 2, 1) := by decide +kernel
theorem dX12_take_103 : decode cX12_take 103 = .ok (.iload_n 2, 1) := by decide +kernel
theorem dX12_take_104 : decode cX12_take 104 = .ok (.bipush 63, 2) := by decide +kernel
theorem dX12_take_106 : decode cX12_take 106 = .ok (.if_icmp .ge 34, 3) := by decide +kernel
theorem dX12_take_109 : decode cX12_take 109 = .ok (.aload_n 0, 1) := by decide +kernel
theorem dX12_take_110 : decode cX12_take 110 = .ok (.getfield 134, 3) := by decide +kernel
theorem dX12_take_113 : decode cX12_take 113 = .ok (.bipush 63, 2) := by decide +kernel
theorem dX12_take_115 : decode cX12_take 115 = .ok (.aload_n 0, 1) := by decide +kernel
theorem dX12_take_116 : decode cX12_take 116 = .ok (.getfield 280, 3) := by decide +kernel
theorem dX12_take_119 : decode cX12_take 119 = .ok (.imul, 1) := by decide +kernel
theorem dX12_take_120 : decode cX12_take 120 = .ok (.iload_n 2, 1) := by decide +kernel
theorem dX12_take_121 : decode cX12_take 121 = .ok (.iadd, 1) := by decide +kernel
theorem dX12_take_122 : decode cX12_take 122 = .ok (.aload_n 0, 1) := by decide +kernel
theorem dX12_take_123 : decode cX12_take 123 = .ok (.getfield 122, 3) := by decide +kernel
theorem dX12_take_126 : decode cX12_take 126 = .ok (.bipush 63, 2) := by decide +kernel
theorem dX12_take_128 : decode cX12_take 128 = .ok (.iload_n 1, 1) := by decide +kernel
theorem dX12_take_129 : decode cX12_take 129 = .ok (.imul, 1) := by decide +kernel
theorem dX12_take_130 : decode cX12_take 130 = .ok (.iload_n 2, 1) := by decide +kernel
theorem dX12_take_131 : decode cX12_take 131 = .ok (.iadd, 1) := by decide +kernel
theorem dX12_take_132 : decode cX12_take 132 = .ok (.iaload, 1) := by decide +kernel
theorem dX12_take_133 : decode cX12_take 133 = .ok (.iastore, 1) := by decide +kernel
theorem dX12_take_134 : decode cX12_take 134 = .ok (.iinc 2 1, 3) := by decide +kernel
theorem dX12_take_137 : decode cX12_take 137 = .ok (.goto (-34), 3) := by decide +kernel
theorem dX12_take_140 : decode cX12_take 140 = .ok (.aload_n 0, 1) := by decide +kernel
theorem dX12_take_141 : decode cX12_take 141 = .ok (.getfield 137, 3) := by decide +kernel
theorem dX12_take_144 : decode cX12_take 144 = .ok (.aload_n 0, 1) := by decide +kernel
theorem dX12_take_145 : decode cX12_take 145 = .ok (.getfield 280, 3) := by decide +kernel
theorem dX12_take_148 : decode cX12_take 148 = .ok (.iconst 0, 1) := by decide +kernel
theorem dX12_take_149 : decode cX12_take 149 = .ok (.bastore, 1) := by decide +kernel
theorem dX12_take_150 : decode cX12_take 150 = .ok (.aload_n 0, 1) := by decide +kernel
theorem dX12_take_151 : decode cX12_take 151 = .ok (.dup, 1) := by decide +kernel
theorem dX12_take_152 : decode cX12_take 152 = .ok (.getfield 280, 3) := by decide +kernel
theorem dX12_take_155 : decode cX12_take 155 = .ok (.iconst 1, 1) := by decide +kernel
theorem dX12_take_156 : decode cX12_take 156 = .ok (.iadd, 1) := by decide +kernel
theorem dX12_take_157 : decode cX12_take 157 = .ok (.putfield 280, 3) := by decide +kernel
theorem dX12_take_160 : decode cX12_take 160 = .ok (.aload_n 0, 1) := by decide +kernel
theorem dX12_take_161 : decode cX12_take 161 = .ok (.getfield 280, 3) := by decide +kernel
theorem dX12_take_164 : decode cX12_take 164 = .ok (.iconst 1, 1) := by decide +kernel
theorem dX12_take_165 : decode cX12_take 165 = .ok (.isub, 1) := by decide +kernel
theorem dX12_take_166 : decode cX12_take 166 = .ok (.ireturn, 1) := by decide +kernel
theorem dX12_isTicket_0 : decode cX12_isTicket 0 = .ok (.iload_n 1, 1) := by decide +kernel
theorem dX12_isTicket_1 : decode cX12_isTicket 1 = .ok (.iconst 0, 1) := by decide +kernel
theorem dX12_isTicket_2 : decode cX12_isTicket 2 = .ok (.aload_n 0, 1) := by decide +kernel
theorem dX12_isTicket_3 : decode cX12_isTicket 3 = .ok (.getfield 280, 3) := by decide +kernel
theorem dX12_isTicket_6 : decode cX12_isTicket 6 = .ok (.iconst 1, 1) := by decide +kernel
theorem dX12_isTicket_7 : decode cX12_isTicket 7 = .ok (.isub, 1) := by decide +kernel
theorem dX12_isTicket_8 : decode cX12_isTicket 8 = .ok (.invokestatic 150, 3) := by decide +kernel
theorem dX12_isTicket_11 : decode cX12_isTicket 11 = .ok (.ifCond .eq 16, 3) := by decide +kernel
theorem dX12_isTicket_14 : decode cX12_isTicket 14 = .ok (.aload_n 0, 1) := by decide +kernel
theorem dX12_isTicket_15 : decode cX12_isTicket 15 = .ok (.getfield 137, 3) := by decide +kernel
theorem dX12_isTicket_18 : decode cX12_isTicket 18 = .ok (.iload_n 1, 1) := by decide +kernel
theorem dX12_isTicket_19 : decode cX12_isTicket 19 = .ok (.baload, 1) := by decide +kernel
theorem dX12_isTicket_20 : decode cX12_isTicket 20 = .ok (.ifCond .ne 7, 3) := by decide +kernel
theorem dX12_isTicket_23 : decode cX12_isTicket 23 = .ok (.iconst 1, 1) := by decide +kernel
theorem dX12_isTicket_24 : decode cX12_isTicket 24 = .ok (.goto 4, 3) := by decide +kernel
theorem dX12_isTicket_27 : decode cX12_isTicket 27 = .ok (.iconst 0, 1) := by decide +kernel
theorem dX12_isTicket_28 : decode cX12_isTicket 28 = .ok (.ireturn, 1) := by decide +kernel
theorem dX12_give_0 : decode cX12_give 0 = .ok (.aload_n 0, 1) := by decide +kernel
theorem dX12_give_1 : decode cX12_give 1 = .ok (.iload_n 1, 1) := by decide +kernel
theorem dX12_give_2 : decode cX12_give 2 = .ok (.invokevirtual 286, 3) := by decide +kernel
theorem dX12_give_5 : decode cX12_give 5 = .ok (.ifCond .ne 6, 3) := by decide +kernel
theorem dX12_give_8 : decode cX12_give 8 = .ok (.bipush (-2), 2) := by decide +kernel
theorem dX12_give_10 : decode cX12_give 10 = .ok (.ireturn, 1) := by decide +kernel
theorem dX12_give_11 : decode cX12_give 11 = .ok (.aload_n 0, 1) := by decide +kernel
theorem dX12_give_12 : decode cX12_give 12 = .ok (.aload_n 0, 1) := by decide +kernel
theorem dX12_give_13 : decode cX12_give 13 = .ok (.getfield 134, 3) := by decide +kernel
theorem dX12_give_16 : decode cX12_give 16 = .ok (.bipush 63, 2) := by decide +kernel
theorem dX12_give_18 : decode cX12_give 18 = .ok (.iload_n 1, 1) := by decide +kernel
theorem dX12_give_19 : decode cX12_give 19 = .ok (.imul, 1) := by decide +kernel
theorem dX12_give_20 : decode cX12_give 20 = .ok (.aload_n 0, 1) := by decide +kernel
theorem dX12_give_21 : decode cX12_give 21 = .ok (.getfield 128, 3) := by decide +kernel
theorem dX12_give_24 : decode cX12_give 24 = .ok (.iload_n 1, 1) := by decide +kernel
theorem dX12_give_25 : decode cX12_give 25 = .ok (.iaload, 1) := by decide +kernel
theorem dX12_give_26 : decode cX12_give 26 = .ok (.iconst (-1), 1) := by decide +kernel
theorem dX12_give_27 : decode cX12_give 27 = .ok (.invokevirtual 283, 3) := by decide +kernel
theorem dX12_give_30 : decode cX12_give 30 = .ok (.istore_n 2, 1) := by decide +kernel
theorem dX12_give_31 : decode cX12_give 31 = .ok (.aload_n 0, 1) := by decide +kernel
theorem dX12_give_32 : decode cX12_give 32 = .ok (.getfield 137, 3) := by decide +kernel
theorem dX12_give_35 : decode cX12_give 35 = .ok (.iload_n 1, 1) := by decide +kernel
theorem dX12_give_36 : decode cX12_give 36 = .ok (.iconst 1, 1) := by decide +kernel
theorem dX12_give_37 : decode cX12_give 37 = .ok (.bastore, 1) := by decide +kernel
theorem dX12_give_38 : decode cX12_give 38 = .ok (.iconst 1, 1) := by decide +kernel
theorem dX12_give_39 : decode cX12_give 39 = .ok (.ireturn, 1) := by decide +kernel
theorem dX12_still_0 : decode cX12_still 0 = .ok (.aload_n 0, 1) := by decide +kernel
theorem dX12_still_1 : decode cX12_still 1 = .ok (.iload_n 1, 1) := by decide +kernel
theorem dX12_still_2 : decode cX12_still 2 = .ok (.invokevirtual 286, 3) := by decide +kernel
theorem dX12_still_5 : decode cX12_still 5 = .ok (.ifCond .ne 6, 3) := by decide +kernel
theorem dX12_still_8 : decode cX12_still 8 = .ok (.bipush (-2), 2) := by decide +kernel
theorem dX12_still_10 : decode cX12_still 10 = .ok (.ireturn, 1) := by decide +kernel
theorem dX12_still_11 : decode cX12_still 11 = .ok (.aload_n 0, 1) := by decide +kernel
theorem dX12_still_12 : decode cX12_still 12 = .ok (.getfield 131, 3) := by decide +kernel
theorem dX12_still_15 : decode cX12_still 15 = .ok (.iload_n 1, 1) := by decide +kernel
theorem dX12_still_16 : decode cX12_still 16 = .ok (.iaload, 1) := by decide +kernel
theorem dX12_still_17 : decode cX12_still 17 = .ok (.istore_n 2, 1) := by decide +kernel
theorem dX12_still_18 : decode cX12_still 18 = .ok (.iload_n 2, 1) := by decide +kernel
theorem dX12_still_19 : decode cX12_still 19 = .ok (.istore_n 3, 1) := by decide +kernel
theorem dX12_still_20 : decode cX12_still 20 = .ok (.iconst 0, 1) := by decide +kernel
theorem dX12_still_21 : decode cX12_still 21 = .ok (.istore 4, 2) := by decide +kernel
theorem dX12_still_23 : decode cX12_still 23 = .ok (.iconst 0, 1) := by decide +kernel
theorem dX12_still_24 : decode cX12_still 24 = .ok (.istore 5, 2) := by decide +kernel
theorem dX12_still_26 : decode cX12_still 26 = .ok (.iload 5, 2) := by decide +kernel
theorem dX12_still_28 : decode cX12_still 28 = .ok (.aload_n 0, 1) := by decide +kernel
theorem dX12_still_29 : decode cX12_still 29 = .ok (.getfield 128, 3) := by decide +kernel
theorem dX12_still_32 : decode cX12_still 32 = .ok (.iload_n 1, 1) := by decide +kernel
theorem dX12_still_33 : decode cX12_still 33 = .ok (.iaload, 1) := by decide +kernel
theorem dX12_still_34 : decode cX12_still 34 = .ok (.if_icmp .ge 202, 3) := by decide +kernel
theorem dX12_still_37 : decode cX12_still 37 = .ok (.bipush 63, 2) := by decide +kernel
theorem dX12_still_39 : decode cX12_still 39 = .ok (.iload_n 1, 1) := by decide +kernel
theorem dX12_still_40 : decode cX12_still 40 = .ok (.imul, 1) := by decide +kernel
theorem dX12_still_41 : decode cX12_still 41 = .ok (.bipush 9, 2) := by decide +kernel
theorem dX12_still_43 : decode cX12_still 43 = .ok (.iload 5, 2) := by decide +kernel
theorem dX12_still_45 : decode cX12_still 45 = .ok (.imul, 1) := by decide +kernel
theorem dX12_still_46 : decode cX12_still 46 = .ok (.iadd, 1) := by decide +kernel
theorem dX12_still_47 : decode cX12_still 47 = .ok (.istore 6, 2) := by decide +kernel
theorem dX12_still_49 : decode cX12_still 49 = .ok (.aload_n 0, 1) := by decide +kernel
theorem dX12_still_50 : decode cX12_still 50 = .ok (.getfield 134, 3) := by decide +kernel
theorem dX12_still_53 : decode cX12_still 53 = .ok (.iload 6, 2) := by decide +kernel
theorem dX12_still_55 : decode cX12_still 55 = .ok (.iconst 1, 1) := by decide +kernel
theorem dX12_still_56 : decode cX12_still 56 = .ok (.iadd, 1) := by decide +kernel
theorem dX12_still_57 : decode cX12_still 57 = .ok (.iaload, 1) := by decide +kernel
theorem dX12_still_58 : decode cX12_still 58 = .ok (.istore 7, 2) := by decide +kernel
theorem dX12_still_60 : decode cX12_still 60 = .ok (.aload_n 0, 1) := by decide +kernel
theorem dX12_still_61 : decode cX12_still 61 = .ok (.getfield 134, 3) := by decide +kernel
theorem dX12_still_64 : decode cX12_still 64 = .ok (.iload 6, 2) := by decide +kernel
theorem dX12_still_66 : decode cX12_still 66 = .ok (.iaload, 1) := by decide +kernel
theorem dX12_still_67 : decode cX12_still 67 = .ok (.iconst 2, 1) := by decide +kernel
theorem dX12_still_68 : decode cX12_still 68 = .ok (.if_icmp .le 18, 3) := by decide +kernel
theorem dX12_still_71 : decode cX12_still 71 = .ok (.aload_n 0, 1) := by decide +kernel
theorem dX12_still_72 : decode cX12_still 72 = .ok (.iload 7, 2) := by decide +kernel
theorem dX12_still_74 : decode cX12_still 74 = .ok (.iload_n 3, 1) := by decide +kernel
theorem dX12_still_75 : decode cX12_still 75 = .ok (.iload_n 2, 1) := by decide +kernel
theorem dX12_still_76 : decode cX12_still 76 = .ok (.invokevirtual 212, 3) := by decide +kernel
theorem dX12_still_79 : decode cX12_still 79 = .ok (.istore_n 3, 1) := by decide +kernel
theorem dX12_still_80 : decode cX12_still 80 = .ok (.iconst 0, 1) := by decide +kernel
theorem dX12_still_81 : decode cX12_still 81 = .ok (.istore 4, 2) := by decide +kernel
theorem dX12_still_83 : decode cX12_still 83 = .ok (.goto 147, 3) := by decide +kernel
theorem dX12_still_86 : decode cX12_still 86 = .ok (.aload_n 0, 1) := by decide +kernel
theorem dX12_still_87 : decode cX12_still 87 = .ok (.getfield 134, 3) := by decide +kernel
theorem dX12_still_90 : decode cX12_still 90 = .ok (.iload 6, 2) := by decide +kernel
theorem dX12_still_92 : decode cX12_still 92 = .ok (.bipush 6, 2) := by decide +kernel
theorem dX12_still_94 : decode cX12_still 94 = .ok (.iadd, 1) := by decide +kernel
theorem dX12_still_95 : decode cX12_still 95 = .ok (.iaload, 1) := by decide +kernel
theorem dX12_still_96 : decode cX12_still 96 = .ok (.istore 8, 2) := by decide +kernel
theorem dX12_still_98 : decode cX12_still 98 = .ok (.aload_n 0, 1) := by decide +kernel
theorem dX12_still_99 : decode cX12_still 99 = .ok (.getfield 134, 3) := by decide +kernel
theorem dX12_still_102 : decode cX12_still 102 = .ok (.iload 6, 2) := by decide +kernel
theorem dX12_still_104 : decode cX12_still 104 = .ok (.bipush 7, 2) := by decide +kernel
theorem dX12_still_106 : decode cX12_still 106 = .ok (.iadd, 1) := by decide +kernel
theorem dX12_still_107 : decode cX12_still 107 = .ok (.iaload, 1) := by decide +kernel
theorem dX12_still_108 : decode cX12_still 108 = .ok (.istore 9, 2) := by decide +kernel
theorem dX12_still_110 : decode cX12_still 110 = .ok (.aload_n 0, 1) := by decide +kernel
theorem dX12_still_111 : decode cX12_still 111 = .ok (.getfield 134, 3) := by decide +kernel
theorem dX12_still_114 : decode cX12_still 114 = .ok (.iload 6, 2) := by decide +kernel
theorem dX12_still_116 : decode cX12_still 116 = .ok (.bipush 8, 2) := by decide +kernel
theorem dX12_still_118 : decode cX12_still 118 = .ok (.iadd, 1) := by decide +kernel
theorem dX12_still_119 : decode cX12_still 119 = .ok (.iaload, 1) := by decide +kernel
theorem dX12_still_120 : decode cX12_still 120 = .ok (.istore 10, 2) := by decide +kernel
theorem dX12_still_122 : decode cX12_still 122 = .ok (.iload 4, 2) := by decide +kernel
theorem dX12_still_124 : decode cX12_still 124 = .ok (.ifCond .eq 26, 3) := by decide +kernel
theorem dX12_still_127 : decode cX12_still 127 = .ok (.iload_n 3, 1) := by decide +kernel
theorem dX12_still_128 : decode cX12_still 128 = .ok (.aload_n 0, 1) := by decide +kernel
theorem dX12_still_129 : decode cX12_still 129 = .ok (.getfield 7, 3) := by decide +kernel
theorem dX12_still_132 : decode cX12_still 132 = .ok (.aload_n 0, 1) := by decide +kernel
theorem dX12_still_133 : decode cX12_still 133 = .ok (.getfield 34, 3) := by decide +kernel
theorem dX12_still_136 : decode cX12_still 136 = .ok (.bipush 8, 2) := by decide +kernel
theorem dX12_still_138 : decode cX12_still 138 = .ok (.iload 7, 2) := by decide +kernel
theorem dX12_still_140 : decode cX12_still 140 = .ok (.imul, 1) := by decide +kernel
theorem dX12_still_141 : decode cX12_still 141 = .ok (.iload 9, 2) := by decide +kernel
theorem dX12_still_143 : decode cX12_still 143 = .ok (.iadd, 1) := by decide +kernel
theorem dX12_still_144 : decode cX12_still 144 = .ok (.iaload, 1) := by decide +kernel
theorem dX12_still_145 : decode cX12_still 145 = .ok (.iaload, 1) := by decide +kernel
theorem dX12_still_146 : decode cX12_still 146 = .ok (.iadd, 1) := by decide +kernel
theorem dX12_still_147 : decode cX12_still 147 = .ok (.goto 4, 3) := by decide +kernel
theorem dX12_still_150 : decode cX12_still 150 = .ok (.iload_n 3, 1) := by decide +kernel
theorem dX12_still_151 : decode cX12_still 151 = .ok (.istore 11, 2) := by decide +kernel
theorem dX12_still_153 : decode cX12_still 153 = .ok (.aload_n 0, 1) := by decide +kernel
theorem dX12_still_154 : decode cX12_still 154 = .ok (.iload 7, 2) := by decide +kernel
theorem dX12_still_156 : decode cX12_still 156 = .ok (.iload 8, 2) := by decide +kernel
theorem dX12_still_158 : decode cX12_still 158 = .ok (.invokevirtual 196, 3) := by decide +kernel
theorem dX12_still_161 : decode cX12_still 161 = .ok (.ifCond .eq 50, 3) := by decide +kernel
theorem dX12_still_164 : decode cX12_still 164 = .ok (.aload_n 0, 1) := by decide +kernel
theorem dX12_still_165 : decode cX12_still 165 = .ok (.getfield 43, 3) := by decide +kernel
theorem dX12_still_168 : decode cX12_still 168 = .ok (.bipush 8, 2) := by decide +kernel
theorem dX12_still_170 : decode cX12_still 170 = .ok (.iload 7, 2) := by decide +kernel
theorem dX12_still_172 : decode cX12_still 172 = .ok (.imul, 1) := by decide +kernel
theorem dX12_still_173 : decode cX12_still 173 = .ok (.iload 9, 2) := by decide +kernel
theorem dX12_still_175 : decode cX12_still 175 = .ok (.iadd, 1) := by decide +kernel
theorem dX12_still_176 : decode cX12_still 176 = .ok (.baload, 1) := by decide +kernel
theorem dX12_still_177 : decode cX12_still 177 = .ok (.ifCond .ne 34, 3) := by decide +kernel
theorem dX12_still_180 : decode cX12_still 180 = .ok (.aload_n 0, 1) := by decide +kernel
theorem dX12_still_181 : decode cX12_still 181 = .ok (.getfield 43, 3) := by decide +kernel
theorem dX12_still_184 : decode cX12_still 184 = .ok (.bipush 8, 2) := by decide +kernel
theorem dX12_still_186 : decode cX12_still 186 = .ok (.iload 7, 2) := by decide +kernel
theorem dX12_still_188 : decode cX12_still 188 = .ok (.imul, 1) := by decide +kernel
theorem dX12_still_189 : decode cX12_still 189 = .ok (.iload 10, 2) := by decide +kernel
theorem dX12_still_191 : decode cX12_still 191 = .ok (.iadd, 1) := by decide +kernel
theorem dX12_still_192 : decode cX12_still 192 = .ok (.baload, 1) := by decide +kernel
theorem dX12_still_193 : decode cX12_still 193 = .ok (.ifCond .ne 18, 3) := by decide +kernel
theorem dX12_still_196 : decode cX12_still 196 = .ok (.aload_n 0, 1) := by decide +kernel
theorem dX12_still_197 : decode cX12_still 197 = .ok (.iload 7, 2) := by decide +kernel
theorem dX12_still_199 : decode cX12_still 199 = .ok (.iload 8, 2) := by decide +kernel
theorem dX12_still_201 : decode cX12_still 201 = .ok (.iload 9, 2) := by decide +kernel
theorem dX12_still_203 : decode cX12_still 203 = .ok (.invokevirtual 202, 3) := by decide +kernel
theorem dX12_still_206 : decode cX12_still 206 = .ok (.iload 11, 2) := by decide +kernel
theorem dX12_still_208 : decode cX12_still 208 = .ok (.if_icmp .ge 8, 3) := by decide +kernel
theorem dX12_still_211 : decode cX12_still 211 = .ok (.iconst 1, 1) := by decide +kernel
theorem dX12_still_212 : decode cX12_still 212 = .ok (.iload 5, 2) := by decide +kernel
theorem dX12_still_214 : decode cX12_still 214 = .ok (.iadd, 1) := by decide +kernel
theorem dX12_still_215 : decode cX12_still 215 = .ok (.ireturn, 1) := by decide +kernel
theorem dX12_still_216 : decode cX12_still 216 = .ok (.aload_n 0, 1) := by decide +kernel
theorem dX12_still_217 : decode cX12_still 217 = .ok (.iload 7, 2) := by decide +kernel
theorem dX12_still_219 : decode cX12_still 219 = .ok (.iload 8, 2) := by decide +kernel
theorem dX12_still_221 : decode cX12_still 221 = .ok (.iload 10, 2) := by decide +kernel
theorem dX12_still_223 : decode cX12_still 223 = .ok (.invokevirtual 199, 3) := by decide +kernel
theorem dX12_still_226 : decode cX12_still 226 = .ok (.istore_n 3, 1) := by decide +kernel
theorem dX12_still_227 : decode cX12_still 227 = .ok (.iconst 1, 1) := by decide +kernel
theorem dX12_still_228 : decode cX12_still 228 = .ok (.istore 4, 2) := by decide +kernel
theorem dX12_still_230 : decode cX12_still 230 = .ok (.iinc 5 1, 3) := by decide +kernel
theorem dX12_still_233 : decode cX12_still 233 = .ok (.goto (-207), 3) := by decide +kernel
theorem dX12_still_236 : decode cX12_still 236 = .ok (.aload_n 0, 1) := by decide +kernel
theorem dX12_still_237 : decode cX12_still 237 = .ok (.iload_n 3, 1) := by decide +kernel
theorem dX12_still_238 : decode cX12_still 238 = .ok (.putfield 289, 3) := by decide +kernel
theorem dX12_still_241 : decode cX12_still 241 = .ok (.iconst 0, 1) := by decide +kernel
theorem dX12_still_242 : decode cX12_still 242 = .ok (.ireturn, 1) := by decide +kernel
theorem dX12_comes_0 : decode cX12_comes 0 = .ok (.aload_n 0, 1) := by decide +kernel
theorem dX12_comes_1 : decode cX12_comes 1 = .ok (.iload_n 1, 1) := by decide +kernel
theorem dX12_comes_2 : decode cX12_comes 2 = .ok (.invokevirtual 292, 3) := by decide +kernel
theorem dX12_comes_5 : decode cX12_comes 5 = .ok (.istore_n 2, 1) := by decide +kernel
theorem dX12_comes_6 : decode cX12_comes 6 = .ok (.iload_n 2, 1) := by decide +kernel
theorem dX12_comes_7 : decode cX12_comes 7 = .ok (.bipush (-2), 2) := by decide +kernel
theorem dX12_comes_9 : decode cX12_comes 9 = .ok (.if_icmp .ne 8, 3) := by decide +kernel
theorem dX12_comes_12 : decode cX12_comes 12 = .ok (.bipush (-2), 2) := by decide +kernel
theorem dX12_comes_14 : decode cX12_comes 14 = .ok (.goto 15, 3) := by decide +kernel
theorem dX12_comes_17 : decode cX12_comes 17 = .ok (.iload_n 2, 1) := by decide +kernel
theorem dX12_comes_18 : decode cX12_comes 18 = .ok (.ifCond .le 7, 3) := by decide +kernel
theorem dX12_comes_21 : decode cX12_comes 21 = .ok (.iconst (-1), 1) := by decide +kernel
theorem dX12_comes_22 : decode cX12_comes 22 = .ok (.goto 7, 3) := by decide +kernel
theorem dX12_comes_25 : decode cX12_comes 25 = .ok (.aload_n 0, 1) := by decide +kernel
theorem dX12_comes_26 : decode cX12_comes 26 = .ok (.getfield 289, 3) := by decide +kernel
theorem dX12_comes_29 : decode cX12_comes 29 = .ok (.ireturn, 1) := by decide +kernel
theorem dX12_taken_0 : decode cX12_taken 0 = .ok (.aload_n 0, 1) := by decide +kernel
theorem dX12_taken_1 : decode cX12_taken 1 = .ok (.iload_n 1, 1) := by decide +kernel
theorem dX12_taken_2 : decode cX12_taken 2 = .ok (.iload_n 3, 1) := by decide +kernel
theorem dX12_taken_3 : decode cX12_taken 3 = .ok (.invokevirtual 170, 3) := by decide +kernel
theorem dX12_taken_6 : decode cX12_taken 6 = .ok (.ifCond .eq 29, 3) := by decide +kernel
theorem dX12_taken_9 : decode cX12_taken 9 = .ok (.iload_n 2, 1) := by decide +kernel
theorem dX12_taken_10 : decode cX12_taken 10 = .ok (.invokestatic 164, 3) := by decide +kernel
theorem dX12_taken_13 : decode cX12_taken 13 = .ok (.ifCond .eq 22, 3) := by decide +kernel
theorem dX12_taken_16 : decode cX12_taken 16 = .ok (.aload_n 0, 1) := by decide +kernel
theorem dX12_taken_17 : decode cX12_taken 17 = .ok (.getfield 86, 3) := by decide +kernel
theorem dX12_taken_20 : decode cX12_taken 20 = .ok (.bipush 100, 2) := by decide +kernel
theorem dX12_taken_22 : decode cX12_taken 22 = .ok (.iload_n 1, 1) := by decide +kernel
theorem dX12_taken_23 : decode cX12_taken 23 = .ok (.imul, 1) := by decide +kernel
theorem dX12_taken_24 : decode cX12_taken 24 = .ok (.iload_n 2, 1) := by decide +kernel
theorem dX12_taken_25 : decode cX12_taken 25 = .ok (.iadd, 1) := by decide +kernel
theorem dX12_taken_26 : decode cX12_taken 26 = .ok (.bipush 8, 2) := by decide +kernel
theorem dX12_taken_28 : decode cX12_taken 28 = .ok (.imul, 1) := by decide +kernel
theorem dX12_taken_29 : decode cX12_taken 29 = .ok (.iload_n 3, 1) := by decide +kernel
theorem dX12_taken_30 : decode cX12_taken 30 = .ok (.iadd, 1) := by decide +kernel
theorem dX12_taken_31 : decode cX12_taken 31 = .ok (.iaload, 1) := by decide +kernel
theorem dX12_taken_32 : decode cX12_taken 32 = .ok (.goto 5, 3) := by decide +kernel
theorem dX12_taken_35 : decode cX12_taken 35 = .ok (.bipush (-2), 2) := by decide +kernel
theorem dX12_taken_37 : decode cX12_taken 37 = .ok (.ireturn, 1) := by decide +kernel
theorem dX12_latest_0 : decode cX12_latest 0 = .ok (.aload_n 0, 1) := by decide +kernel
theorem dX12_latest_1 : decode cX12_latest 1 = .ok (.iload_n 1, 1) := by decide +kernel
theorem dX12_latest_2 : decode cX12_latest 2 = .ok (.invokevirtual 167, 3) := by decide +kernel
theorem dX12_latest_5 : decode cX12_latest 5 = .ok (.ifCond .eq 18, 3) := by decide +kernel
theorem dX12_latest_8 : decode cX12_latest 8 = .ok (.aload_n 0, 1) := by decide +kernel
theorem dX12_latest_9 : decode cX12_latest 9 = .ok (.iload_n 2, 1) := by decide +kernel
theorem dX12_latest_10 : decode cX12_latest 10 = .ok (.invokevirtual 167, 3) := by decide +kernel
theorem dX12_latest_13 : decode cX12_latest 13 = .ok (.ifCond .eq 10, 3) := by decide +kernel
theorem dX12_latest_16 : decode cX12_latest 16 = .ok (.iload_n 3, 1) := by decide +kernel
theorem dX12_latest_17 : decode cX12_latest 17 = .ok (.invokestatic 164, 3) := by decide +kernel
theorem dX12_latest_20 : decode cX12_latest 20 = .ok (.ifCond .ne 6, 3) := by decide +kernel
theorem dX12_latest_23 : decode cX12_latest 23 = .ok (.bipush (-2), 2) := by decide +kernel
theorem dX12_latest_25 : decode cX12_latest 25 = .ok (.ireturn, 1) := by decide +kernel
theorem dX12_latest_26 : decode cX12_latest 26 = .ok (.aload_n 0, 1) := by decide +kernel
theorem dX12_latest_27 : decode cX12_latest 27 = .ok (.iload_n 3, 1) := by decide +kernel
theorem dX12_latest_28 : decode cX12_latest 28 = .ok (.iconst 0, 1) := by decide +kernel
theorem dX12_latest_29 : decode cX12_latest 29 = .ok (.invokevirtual 264, 3) := by decide +kernel
theorem dX12_latest_32 : decode cX12_latest 32 = .ok (.aload_n 0, 1) := by decide +kernel
theorem dX12_latest_33 : decode cX12_latest 33 = .ok (.iload_n 1, 1) := by decide +kernel
theorem dX12_latest_34 : decode cX12_latest 34 = .ok (.iload_n 2, 1) := by decide +kernel
theorem dX12_latest_35 : decode cX12_latest 35 = .ok (.sipush 1440, 3) := by decide +kernel
theorem dX12_latest_38 : decode cX12_latest 38 = .ok (.iload_n 3, 1) := by decide +kernel
theorem dX12_latest_39 : decode cX12_latest 39 = .ok (.imul, 1) := by decide +kernel
theorem dX12_latest_40 : decode cX12_latest 40 = .ok (.iload 4, 2) := by decide +kernel
theorem dX12_latest_42 : decode cX12_latest 42 = .ok (.invokevirtual 296, 3) := by decide +kernel
theorem dX12_latest_45 : decode cX12_latest 45 = .ok (.ifCond .ne 5, 3) := by decide +kernel
theorem dX12_latest_48 : decode cX12_latest 48 = .ok (.iconst (-1), 1) := by decide +kernel
theorem dX12_latest_49 : decode cX12_latest 49 = .ok (.ireturn, 1) := by decide +kernel
theorem dX12_latest_50 : decode cX12_latest 50 = .ok (.iconst 0, 1) := by decide +kernel
theorem dX12_latest_51 : decode cX12_latest 51 = .ok (.istore 5, 2) := by decide +kernel
theorem dX12_latest_53 : decode cX12_latest 53 = .ok (.sipush 1440, 3) := by decide +kernel
theorem dX12_latest_56 : decode cX12_latest 56 = .ok (.istore 6, 2) := by decide +kernel
theorem dX12_latest_58 : decode cX12_latest 58 = .ok (.iload 6, 2) := by decide +kernel
theorem dX12_latest_60 : decode cX12_latest 60 = .ok (.iload 5, 2) := by decide +kernel
theorem dX12_latest_62 : decode cX12_latest 62 = .ok (.isub, 1) := by decide +kernel
theorem dX12_latest_63 : decode cX12_latest 63 = .ok (.iconst 1, 1) := by decide +kernel
theorem dX12_latest_64 : decode cX12_latest 64 = .ok (.if_icmp .le 45, 3) := by decide +kernel
theorem dX12_latest_67 : decode cX12_latest 67 = .ok (.iload 5, 2) := by decide +kernel
theorem dX12_latest_69 : decode cX12_latest 69 = .ok (.iload 6, 2) := by decide +kernel
theorem dX12_latest_71 : decode cX12_latest 71 = .ok (.iadd, 1) := by decide +kernel
theorem dX12_latest_72 : decode cX12_latest 72 = .ok (.iconst 2, 1) := by decide +kernel
theorem dX12_latest_73 : decode cX12_latest 73 = .ok (.idiv, 1) := by decide +kernel
theorem dX12_latest_74 : decode cX12_latest 74 = .ok (.istore 7, 2) := by decide +kernel
theorem dX12_latest_76 : decode cX12_latest 76 = .ok (.aload_n 0, 1) := by decide +kernel
theorem dX12_latest_77 : decode cX12_latest 77 = .ok (.iload_n 1, 1) := by decide +kernel
theorem dX12_latest_78 : decode cX12_latest 78 = .ok (.iload_n 2, 1) := by decide +kernel
theorem dX12_latest_79 : decode cX12_latest 79 = .ok (.sipush 1440, 3) := by decide +kernel
theorem dX12_latest_82 : decode cX12_latest 82 = .ok (.iload_n 3, 1) := by decide +kernel
theorem dX12_latest_83 : decode cX12_latest 83 = .ok (.imul, 1) := by decide +kernel
theorem dX12_latest_84 : decode cX12_latest 84 = .ok (.iload 7, 2) := by decide +kernel
theorem dX12_latest_86 : decode cX12_latest 86 = .ok (.iadd, 1) := by decide +kernel
theorem dX12_latest_87 : decode cX12_latest 87 = .ok (.iload 4, 2) := by decide +kernel
theorem dX12_latest_89 : decode cX12_latest 89 = .ok (.invokevirtual 296, 3) := by decide +kernel
theorem dX12_latest_92 : decode cX12_latest 92 = .ok (.ifCond .eq 10, 3) := by decide +kernel
theorem dX12_latest_95 : decode cX12_latest 95 = .ok (.iload 7, 2) := by decide +kernel
theorem dX12_latest_97 : decode cX12_latest 97 = .ok (.istore 5, 2) := by decide +kernel
theorem dX12_latest_99 : decode cX12_latest 99 = .ok (.goto 7, 3) := by decide +kernel
theorem dX12_latest_102 : decode cX12_latest 102 = .ok (.iload 7, 2) := by decide +kernel
theorem dX12_latest_104 : decode cX12_latest 104 = .ok (.istore 6, 2) := by decide +kernel
theorem dX12_latest_106 : decode cX12_latest 106 = .ok (.goto (-48), 3) := by decide +kernel
theorem dX12_latest_109 : decode cX12_latest 109 = .ok (.iload 5, 2) := by decide +kernel
theorem dX12_latest_111 : decode cX12_latest 111 = .ok (.ireturn, 1) := by decide +kernel
theorem dX12_isInTime_0 : decode cX12_isInTime 0 = .ok (.aload_n 0, 1) := by decide +kernel
theorem dX12_isInTime_1 : decode cX12_isInTime 1 = .ok (.iload_n 1, 1) := by decide +kernel
theorem dX12_isInTime_2 : decode cX12_isInTime 2 = .ok (.iload_n 3, 1) := by decide +kernel
theorem dX12_isInTime_3 : decode cX12_isInTime 3 = .ok (.invokevirtual 267, 3) := by decide +kernel
theorem dX12_isInTime_6 : decode cX12_isInTime 6 = .ok (.aload_n 0, 1) := by decide +kernel
theorem dX12_isInTime_7 : decode cX12_isInTime 7 = .ok (.iload_n 2, 1) := by decide +kernel
theorem dX12_isInTime_8 : decode cX12_isInTime 8 = .ok (.invokevirtual 299, 3) := by decide +kernel
theorem dX12_isInTime_11 : decode cX12_isInTime 11 = .ok (.istore 5, 2) := by decide +kernel
theorem dX12_isInTime_13 : decode cX12_isInTime 13 = .ok (.iload 5, 2) := by decide +kernel
theorem dX12_isInTime_15 : decode cX12_isInTime 15 = .ok (.ldc 208, 2) := by decide +kernel
theorem dX12_isInTime_17 : decode cX12_isInTime 17 = .ok (.if_icmp .ge 14, 3) := by decide +kernel
theorem dX12_isInTime_20 : decode cX12_isInTime 20 = .ok (.iload 5, 2) := by decide +kernel
theorem dX12_isInTime_22 : decode cX12_isInTime 22 = .ok (.iload 4, 2) := by decide +kernel
theorem dX12_isInTime_24 : decode cX12_isInTime 24 = .ok (.if_icmp .gt 7, 3) := by decide +kernel
theorem dX12_isInTime_27 : decode cX12_isInTime 27 = .ok (.iconst 1, 1) := by decide +kernel
theorem dX12_isInTime_28 : decode cX12_isInTime 28 = .ok (.goto 4, 3) := by decide +kernel
theorem dX12_isInTime_31 : decode cX12_isInTime 31 = .ok (.iconst 0, 1) := by decide +kernel
theorem dX12_isInTime_32 : decode cX12_isInTime 32 = .ok (.ireturn, 1) := by decide +kernel
theorem dX12_reach_0 : decode cX12_reach 0 = .ok (.aload_n 0, 1) := by decide +kernel
theorem dX12_reach_1 : decode cX12_reach 1 = .ok (.iload_n 1, 1) := by decide +kernel
theorem dX12_reach_2 : decode cX12_reach 2 = .ok (.invokevirtual 167, 3) := by decide +kernel
theorem dX12_reach_5 : decode cX12_reach 5 = .ok (.ifCond .eq 26, 3) := by decide +kernel
theorem dX12_reach_8 : decode cX12_reach 8 = .ok (.iload_n 2, 1) := by decide +kernel
theorem dX12_reach_9 : decode cX12_reach 9 = .ok (.invokestatic 164, 3) := by decide +kernel
theorem dX12_reach_12 : decode cX12_reach 12 = .ok (.ifCond .eq 19, 3) := by decide +kernel
theorem dX12_reach_15 : decode cX12_reach 15 = .ok (.iload_n 3, 1) := by decide +kernel
theorem dX12_reach_16 : decode cX12_reach 16 = .ok (.iconst 0, 1) := by decide +kernel
theorem dX12_reach_17 : decode cX12_reach 17 = .ok (.sipush 1439, 3) := by decide +kernel
theorem dX12_reach_20 : decode cX12_reach 20 = .ok (.invokestatic 150, 3) := by decide +kernel
theorem dX12_reach_23 : decode cX12_reach 23 = .ok (.ifCond .eq 8, 3) := by decide +kernel
theorem dX12_reach_26 : decode cX12_reach 26 = .ok (.iload 4, 2) := by decide +kernel
theorem dX12_reach_28 : decode cX12_reach 28 = .ok (.ifCond .ge 6, 3) := by decide +kernel
theorem dX12_reach_31 : decode cX12_reach 31 = .ok (.bipush (-2), 2) := by decide +kernel
theorem dX12_reach_33 : decode cX12_reach 33 = .ok (.ireturn, 1) := by decide +kernel
theorem dX12_reach_34 : decode cX12_reach 34 = .ok (.aload_n 0, 1) := by decide +kernel
theorem dX12_reach_35 : decode cX12_reach 35 = .ok (.iload_n 2, 1) := by decide +kernel
theorem dX12_reach_36 : decode cX12_reach 36 = .ok (.iload_n 3, 1) := by decide +kernel
theorem dX12_reach_37 : decode cX12_reach 37 = .ok (.invokevirtual 264, 3) := by decide +kernel
theorem dX12_reach_40 : decode cX12_reach 40 = .ok (.aload_n 0, 1) := by decide +kernel
theorem dX12_reach_41 : decode cX12_reach 41 = .ok (.iload_n 1, 1) := by decide +kernel
theorem dX12_reach_42 : decode cX12_reach 42 = .ok (.sipush 1440, 3) := by decide +kernel
theorem dX12_reach_45 : decode cX12_reach 45 = .ok (.iload_n 2, 1) := by decide +kernel
theorem dX12_reach_46 : decode cX12_reach 46 = .ok (.imul, 1) := by decide +kernel
theorem dX12_reach_47 : decode cX12_reach 47 = .ok (.iload_n 3, 1) := by decide +kernel
theorem dX12_reach_48 : decode cX12_reach 48 = .ok (.iadd, 1) := by decide +kernel
theorem dX12_reach_49 : decode cX12_reach 49 = .ok (.invokevirtual 267, 3) := by decide +kernel
theorem dX12_reach_52 : decode cX12_reach 52 = .ok (.iconst 0, 1) := by decide +kernel
theorem dX12_reach_53 : decode cX12_reach 53 = .ok (.istore 5, 2) := by decide +kernel
theorem dX12_reach_55 : decode cX12_reach 55 = .ok (.iconst 0, 1) := by decide +kernel
theorem dX12_reach_56 : decode cX12_reach 56 = .ok (.istore 6, 2) := by decide +kernel
theorem dX12_reach_58 : decode cX12_reach 58 = .ok (.iload 6, 2) := by decide +kernel
theorem dX12_reach_60 : decode cX12_reach 60 = .ok (.aload_n 0, 1) := by decide +kernel
theorem dX12_reach_61 : decode cX12_reach 61 = .ok (.getfield 147, 3) := by decide +kernel
theorem dX12_reach_64 : decode cX12_reach 64 = .ok (.if_icmp .ge 49, 3) := by decide +kernel
theorem dX12_reach_67 : decode cX12_reach 67 = .ok (.aload_n 0, 1) := by decide +kernel
theorem dX12_reach_68 : decode cX12_reach 68 = .ok (.iload 6, 2) := by decide +kernel
theorem dX12_reach_70 : decode cX12_reach 70 = .ok (.invokevirtual 299, 3) := by decide +kernel
theorem dX12_reach_73 : decode cX12_reach 73 = .ok (.istore 7, 2) := by decide +kernel
theorem dX12_reach_75 : decode cX12_reach 75 = .ok (.iload 7, 2) := by decide +kernel
theorem dX12_reach_77 : decode cX12_reach 77 = .ok (.ldc 208, 2) := by decide +kernel
theorem dX12_reach_79 : decode cX12_reach 79 = .ok (.if_icmp .ge 28, 3) := by decide +kernel
theorem dX12_reach_82 : decode cX12_reach 82 = .ok (.iload 7, 2) := by decide +kernel
theorem dX12_reach_84 : decode cX12_reach 84 = .ok (.i2l, 1) := by decide +kernel
theorem dX12_reach_85 : decode cX12_reach 85 = .ok (.aload_n 0, 1) := by decide +kernel
theorem dX12_reach_86 : decode cX12_reach 86 = .ok (.getfield 187, 3) := by decide +kernel
theorem dX12_reach_89 : decode cX12_reach 89 = .ok (.i2l, 1) := by decide +kernel
theorem dX12_reach_90 : decode cX12_reach 90 = .ok (.iload 4, 2) := by decide +kernel
theorem dX12_reach_92 : decode cX12_reach 92 = .ok (.i2l, 1) := by decide +kernel
theorem dX12_reach_93 : decode cX12_reach 93 = .ok (.ladd, 1) := by decide +kernel
theorem dX12_reach_94 : decode cX12_reach 94 = .ok (.lcmp, 1) := by decide +kernel
theorem dX12_reach_95 : decode cX12_reach 95 = .ok (.ifCond .gt 12, 3) := by decide +kernel
theorem dX12_reach_98 : decode cX12_reach 98 = .ok (.iload 5, 2) := by decide +kernel
theorem dX12_reach_100 : decode cX12_reach 100 = .ok (.iconst 1, 1) := by decide +kernel
theorem dX12_reach_101 : decode cX12_reach 101 = .ok (.iload 6, 2) := by decide +kernel
theorem dX12_reach_103 : decode cX12_reach 103 = .ok (.ishl, 1) := by decide +kernel
theorem dX12_reach_104 : decode cX12_reach 104 = .ok (.ior, 1) := by decide +kernel
theorem dX12_reach_105 : decode cX12_reach 105 = .ok (.istore 5, 2) := by decide +kernel
theorem dX12_reach_107 : decode cX12_reach 107 = .ok (.iinc 6 1, 3) := by decide +kernel
theorem dX12_reach_110 : decode cX12_reach 110 = .ok (.goto (-52), 3) := by decide +kernel
theorem dX12_reach_113 : decode cX12_reach 113 = .ok (.iload 5, 2) := by decide +kernel
theorem dX12_reach_115 : decode cX12_reach 115 = .ok (.ireturn, 1) := by decide +kernel
theorem dX12_meet_0 : decode cX12_meet 0 = .ok (.iload_n 1, 1) := by decide +kernel
theorem dX12_meet_1 : decode cX12_meet 1 = .ok (.ifCond .eq 36, 3) := by decide +kernel
theorem dX12_meet_4 : decode cX12_meet 4 = .ok (.iload_n 1, 1) := by decide +kernel
theorem dX12_meet_5 : decode cX12_meet 5 = .ok (.iconst 1, 1) := by decide +kernel
theorem dX12_meet_6 : decode cX12_meet 6 = .ok (.aload_n 0, 1) := by decide +kernel
theorem dX12_meet_7 : decode cX12_meet 7 = .ok (.getfield 147, 3) := by decide +kernel
theorem dX12_meet_10 : decode cX12_meet 10 = .ok (.ishl, 1) := by decide +kernel
theorem dX12_meet_11 : decode cX12_meet 11 = .ok (.iconst 1, 1) := by decide +kernel
theorem dX12_meet_12 : decode cX12_meet 12 = .ok (.isub, 1) := by decide +kernel
theorem dX12_meet_13 : decode cX12_meet 13 = .ok (.iconst (-1), 1) := by decide +kernel
theorem dX12_meet_14 : decode cX12_meet 14 = .ok (.ixor, 1) := by decide +kernel
theorem dX12_meet_15 : decode cX12_meet 15 = .ok (.iand, 1) := by decide +kernel
theorem dX12_meet_16 : decode cX12_meet 16 = .ok (.ifCond .ne 21, 3) := by decide +kernel
theorem dX12_meet_19 : decode cX12_meet 19 = .ok (.iload_n 2, 1) := by decide +kernel
theorem dX12_meet_20 : decode cX12_meet 20 = .ok (.invokestatic 164, 3) := by decide +kernel
theorem dX12_meet_23 : decode cX12_meet 23 = .ok (.ifCond .eq 14, 3) := by decide +kernel
theorem dX12_meet_26 : decode cX12_meet 26 = .ok (.iload_n 3, 1) := by decide +kernel
theorem dX12_meet_27 : decode cX12_meet 27 = .ok (.iconst 0, 1) := by decide +kernel
theorem dX12_meet_28 : decode cX12_meet 28 = .ok (.sipush 1439, 3) := by decide +kernel
theorem dX12_meet_31 : decode cX12_meet 31 = .ok (.invokestatic 150, 3) := by decide +kernel
theorem dX12_meet_34 : decode cX12_meet 34 = .ok (.ifCond .ne 6, 3) := by decide +kernel
theorem dX12_meet_37 : decode cX12_meet 37 = .ok (.bipush (-2), 2) := by decide +kernel
theorem dX12_meet_39 : decode cX12_meet 39 = .ok (.ireturn, 1) := by decide +kernel
theorem dX12_meet_40 : decode cX12_meet 40 = .ok (.aload_n 0, 1) := by decide +kernel
theorem dX12_meet_41 : decode cX12_meet 41 = .ok (.iload_n 2, 1) := by decide +kernel
theorem dX12_meet_42 : decode cX12_meet 42 = .ok (.iload_n 3, 1) := by decide +kernel
theorem dX12_meet_43 : decode cX12_meet 43 = .ok (.invokevirtual 264, 3) := by decide +kernel
theorem dX12_meet_46 : decode cX12_meet 46 = .ok (.iconst 0, 1) := by decide +kernel
theorem dX12_meet_47 : decode cX12_meet 47 = .ok (.istore 4, 2) := by decide +kernel
theorem dX12_meet_49 : decode cX12_meet 49 = .ok (.iload 4, 2) := by decide +kernel
theorem dX12_meet_51 : decode cX12_meet 51 = .ok (.aload_n 0, 1) := by decide +kernel
theorem dX12_meet_52 : decode cX12_meet 52 = .ok (.getfield 147, 3) := by decide +kernel
theorem dX12_meet_55 : decode cX12_meet 55 = .ok (.if_icmp .ge 17, 3) := by decide +kernel
theorem dX12_meet_58 : decode cX12_meet 58 = .ok (.aload_n 0, 1) := by decide +kernel
theorem dX12_meet_59 : decode cX12_meet 59 = .ok (.getfield 144, 3) := by decide +kernel
theorem dX12_meet_62 : decode cX12_meet 62 = .ok (.iload 4, 2) := by decide +kernel
theorem dX12_meet_64 : decode cX12_meet 64 = .ok (.iconst 0, 1) := by decide +kernel
theorem dX12_meet_65 : decode cX12_meet 65 = .ok (.iastore, 1) := by decide +kernel
theorem dX12_meet_66 : decode cX12_meet 66 = .ok (.iinc 4 1, 3) := by decide +kernel
theorem dX12_meet_69 : decode cX12_meet 69 = .ok (.goto (-20), 3) := by decide +kernel
theorem dX12_meet_72 : decode cX12_meet 72 = .ok (.iconst 0, 1) := by decide +kernel
theorem dX12_meet_73 : decode cX12_meet 73 = .ok (.istore 4, 2) := by decide +kernel
theorem dX12_meet_75 : decode cX12_meet 75 = .ok (.iload 4, 2) := by decide +kernel
theorem dX12_meet_77 : decode cX12_meet 77 = .ok (.aload_n 0, 1) := by decide +kernel
theorem dX12_meet_78 : decode cX12_meet 78 = .ok (.getfield 147, 3) := by decide +kernel
theorem dX12_meet_81 : decode cX12_meet 81 = .ok (.if_icmp .ge 91, 3) := by decide +kernel
theorem dX12_meet_84 : decode cX12_meet 84 = .ok (.iload_n 1, 1) := by decide +kernel
theorem dX12_meet_85 : decode cX12_meet 85 = .ok (.iload 4, 2) := by decide +kernel
theorem dX12_meet_87 : decode cX12_meet 87 = .ok (.ishr, 1) := by decide +kernel
theorem dX12_meet_88 : decode cX12_meet 88 = .ok (.iconst 1, 1) := by decide +kernel
theorem dX12_meet_89 : decode cX12_meet 89 = .ok (.iand, 1) := by decide +kernel
theorem dX12_meet_90 : decode cX12_meet 90 = .ok (.ifCond .ne 6, 3) := by decide +kernel
theorem dX12_meet_93 : decode cX12_meet 93 = .ok (.goto 73, 3) := by decide +kernel
theorem dX12_meet_96 : decode cX12_meet 96 = .ok (.aload_n 0, 1) := by decide +kernel
theorem dX12_meet_97 : decode cX12_meet 97 = .ok (.iload 4, 2) := by decide +kernel
theorem dX12_meet_99 : decode cX12_meet 99 = .ok (.sipush 1440, 3) := by decide +kernel
theorem dX12_meet_102 : decode cX12_meet 102 = .ok (.iload_n 2, 1) := by decide +kernel
theorem dX12_meet_103 : decode cX12_meet 103 = .ok (.imul, 1) := by decide +kernel
theorem dX12_meet_104 : decode cX12_meet 104 = .ok (.iload_n 3, 1) := by decide +kernel
theorem dX12_meet_105 : decode cX12_meet 105 = .ok (.iadd, 1) := by decide +kernel
theorem dX12_meet_106 : decode cX12_meet 106 = .ok (.invokevirtual 267, 3) := by decide +kernel
theorem dX12_meet_109 : decode cX12_meet 109 = .ok (.iconst 0, 1) := by decide +kernel
theorem dX12_meet_110 : decode cX12_meet 110 = .ok (.istore 5, 2) := by decide +kernel
theorem dX12_meet_112 : decode cX12_meet 112 = .ok (.iload 5, 2) := by decide +kernel
theorem dX12_meet_114 : decode cX12_meet 114 = .ok (.aload_n 0, 1) := by decide +kernel
theorem dX12_meet_115 : decode cX12_meet 115 = .ok (.getfield 147, 3) := by decide +kernel
theorem dX12_meet_118 : decode cX12_meet 118 = .ok (.if_icmp .ge 48, 3) := by decide +kernel
theorem dX12_meet_121 : decode cX12_meet 121 = .ok (.aload_n 0, 1) := by decide +kernel
theorem dX12_meet_122 : decode cX12_meet 122 = .ok (.iload 5, 2) := by decide +kernel
theorem dX12_meet_124 : decode cX12_meet 124 = .ok (.invokevirtual 299, 3) := by decide +kernel
theorem dX12_meet_127 : decode cX12_meet 127 = .ok (.istore 6, 2) := by decide +kernel
theorem dX12_meet_129 : decode cX12_meet 129 = .ok (.aload_n 0, 1) := by decide +kernel
theorem dX12_meet_130 : decode cX12_meet 130 = .ok (.getfield 144, 3) := by decide +kernel
theorem dX12_meet_133 : decode cX12_meet 133 = .ok (.iload 5, 2) := by decide +kernel
theorem dX12_meet_135 : decode cX12_meet 135 = .ok (.iload 6, 2) := by decide +kernel
theorem dX12_meet_137 : decode cX12_meet 137 = .ok (.aload_n 0, 1) := by decide +kernel
theorem dX12_meet_138 : decode cX12_meet 138 = .ok (.getfield 144, 3) := by decide +kernel
theorem dX12_meet_141 : decode cX12_meet 141 = .ok (.iload 5, 2) := by decide +kernel
theorem dX12_meet_143 : decode cX12_meet 143 = .ok (.iaload, 1) := by decide +kernel
theorem dX12_meet_144 : decode cX12_meet 144 = .ok (.if_icmp .le 8, 3) := by decide +kernel
theorem dX12_meet_147 : decode cX12_meet 147 = .ok (.iload 6, 2) := by decide +kernel
theorem dX12_meet_149 : decode cX12_meet 149 = .ok (.goto 10, 3) := by decide +kernel
theorem dX12_meet_152 : decode cX12_meet 152 = .ok (.aload_n 0, 1) := by decide +kernel
theorem dX12_meet_153 : decode cX12_meet 153 = .ok (.getfield 144, 3) := by decide +kernel
theorem dX12_meet_156 : decode cX12_meet 156 = .ok (.iload 5, 2) := by decide +kernel
theorem dX12_meet_158 : decode cX12_meet 158 = .ok (.iaload, 1) := by decide +kernel
theorem dX12_meet_159 : decode cX12_meet 159 = .ok (.iastore, 1) := by decide +kernel
theorem dX12_meet_160 : decode cX12_meet 160 = .ok (.iinc 5 1, 3) := by decide +kernel
theorem dX12_meet_163 : decode cX12_meet 163 = .ok (.goto (-51), 3) := by decide +kernel
theorem dX12_meet_166 : decode cX12_meet 166 = .ok (.iinc 4 1, 3) := by decide +kernel
theorem dX12_meet_169 : decode cX12_meet 169 = .ok (.goto (-94), 3) := by decide +kernel
theorem dX12_meet_172 : decode cX12_meet 172 = .ok (.iconst (-1), 1) := by decide +kernel
theorem dX12_meet_173 : decode cX12_meet 173 = .ok (.istore 4, 2) := by decide +kernel
theorem dX12_meet_175 : decode cX12_meet 175 = .ok (.iconst 0, 1) := by decide +kernel
theorem dX12_meet_176 : decode cX12_meet 176 = .ok (.istore 5, 2) := by decide +kernel
theorem dX12_meet_178 : decode cX12_meet 178 = .ok (.iload 5, 2) := by decide +kernel
theorem dX12_meet_180 : decode cX12_meet 180 = .ok (.aload_n 0, 1) := by decide +kernel
theorem dX12_meet_181 : decode cX12_meet 181 = .ok (.getfield 147, 3) := by decide +kernel
theorem dX12_meet_184 : decode cX12_meet 184 = .ok (.if_icmp .ge 47, 3) := by decide +kernel
theorem dX12_meet_187 : decode cX12_meet 187 = .ok (.aload_n 0, 1) := by decide +kernel
theorem dX12_meet_188 : decode cX12_meet 188 = .ok (.getfield 144, 3) := by decide +kernel
theorem dX12_meet_191 : decode cX12_meet 191 = .ok (.iload 5, 2) := by decide +kernel
theorem dX12_meet_193 : decode cX12_meet 193 = .ok (.iaload, 1) := by decide +kernel
theorem dX12_meet_194 : decode cX12_meet 194 = .ok (.ldc 208, 2) := by decide +kernel
theorem dX12_meet_196 : decode cX12_meet 196 = .ok (.if_icmp .ge 29, 3) := by decide +kernel
theorem dX12_meet_199 : decode cX12_meet 199 = .ok (.iload 4, 2) := by decide +kernel
theorem dX12_meet_201 : decode cX12_meet 201 = .ok (.ifCond .lt 20, 3) := by decide +kernel
theorem dX12_meet_204 : decode cX12_meet 204 = .ok (.aload_n 0, 1) := by decide +kernel
theorem dX12_meet_205 : decode cX12_meet 205 = .ok (.getfield 144, 3) := by decide +kernel
theorem dX12_meet_208 : decode cX12_meet 208 = .ok (.iload 5, 2) := by decide +kernel
theorem dX12_meet_210 : decode cX12_meet 210 = .ok (.iaload, 1) := by decide +kernel
theorem dX12_meet_211 : decode cX12_meet 211 = .ok (.aload_n 0, 1) := by decide +kernel
theorem dX12_meet_212 : decode cX12_meet 212 = .ok (.getfield 144, 3) := by decide +kernel
theorem dX12_meet_215 : decode cX12_meet 215 = .ok (.iload 4, 2) := by decide +kernel
theorem dX12_meet_217 : decode cX12_meet 217 = .ok (.iaload, 1) := by decide +kernel
theorem dX12_meet_218 : decode cX12_meet 218 = .ok (.if_icmp .ge 7, 3) := by decide +kernel
theorem dX12_meet_221 : decode cX12_meet 221 = .ok (.iload 5, 2) := by decide +kernel
theorem dX12_meet_223 : decode cX12_meet 223 = .ok (.istore 4, 2) := by decide +kernel
theorem dX12_meet_225 : decode cX12_meet 225 = .ok (.iinc 5 1, 3) := by decide +kernel
theorem dX12_meet_228 : decode cX12_meet 228 = .ok (.goto (-50), 3) := by decide +kernel
theorem dX12_meet_231 : decode cX12_meet 231 = .ok (.iload 4, 2) := by decide +kernel
theorem dX12_meet_233 : decode cX12_meet 233 = .ok (.ifCond .lt 14, 3) := by decide +kernel
theorem dX12_meet_236 : decode cX12_meet 236 = .ok (.aload_n 0, 1) := by decide +kernel
theorem dX12_meet_237 : decode cX12_meet 237 = .ok (.aload_n 0, 1) := by decide +kernel
theorem dX12_meet_238 : decode cX12_meet 238 = .ok (.getfield 144, 3) := by decide +kernel
theorem dX12_meet_241 : decode cX12_meet 241 = .ok (.iload 4, 2) := by decide +kernel
theorem dX12_meet_243 : decode cX12_meet 243 = .ok (.iaload, 1) := by decide +kernel
theorem dX12_meet_244 : decode cX12_meet 244 = .ok (.putfield 140, 3) := by decide +kernel
theorem dX12_meet_247 : decode cX12_meet 247 = .ok (.iload 4, 2) := by decide +kernel
theorem dX12_meet_249 : decode cX12_meet 249 = .ok (.ireturn, 1) := by decide +kernel
theorem dX12_met_0 : decode cX12_met 0 = .ok (.aload_n 0, 1) := by decide +kernel
theorem dX12_met_1 : decode cX12_met 1 = .ok (.getfield 140, 3) := by decide +kernel
theorem dX12_met_4 : decode cX12_met 4 = .ok (.ireturn, 1) := by decide +kernel
theorem dX12_isAhead_0 : decode cX12_isAhead 0 = .ok (.aload_n 0, 1) := by decide +kernel
theorem dX12_isAhead_1 : decode cX12_isAhead 1 = .ok (.iload_n 1, 1) := by decide +kernel
theorem dX12_isAhead_2 : decode cX12_isAhead 2 = .ok (.iload 5, 2) := by decide +kernel
theorem dX12_isAhead_4 : decode cX12_isAhead 4 = .ok (.iload_n 2, 1) := by decide +kernel
theorem dX12_isAhead_5 : decode cX12_isAhead 5 = .ok (.invokevirtual 202, 3) := by decide +kernel
theorem dX12_isAhead_8 : decode cX12_isAhead 8 = .ok (.istore 6, 2) := by decide +kernel
theorem dX12_isAhead_10 : decode cX12_isAhead 10 = .ok (.aload_n 0, 1) := by decide +kernel
theorem dX12_isAhead_11 : decode cX12_isAhead 11 = .ok (.iload_n 3, 1) := by decide +kernel
theorem dX12_isAhead_12 : decode cX12_isAhead 12 = .ok (.iload 5, 2) := by decide +kernel
theorem dX12_isAhead_14 : decode cX12_isAhead 14 = .ok (.iload 4, 2) := by decide +kernel
theorem dX12_isAhead_16 : decode cX12_isAhead 16 = .ok (.invokevirtual 202, 3) := by decide +kernel
theorem dX12_isAhead_19 : decode cX12_isAhead 19 = .ok (.istore 7, 2) := by decide +kernel
theorem dX12_isAhead_21 : decode cX12_isAhead 21 = .ok (.iload 6, 2) := by decide +kernel
theorem dX12_isAhead_23 : decode cX12_isAhead 23 = .ok (.iload 7, 2) := by decide +kernel
theorem dX12_isAhead_25 : decode cX12_isAhead 25 = .ok (.if_icmp .eq 18, 3) := by decide +kernel
theorem dX12_isAhead_28 : decode cX12_isAhead 28 = .ok (.iload 6, 2) := by decide +kernel
theorem dX12_isAhead_30 : decode cX12_isAhead 30 = .ok (.iload 7, 2) := by decide +kernel
theorem dX12_isAhead_32 : decode cX12_isAhead 32 = .ok (.if_icmp .ge 7, 3) := by decide +kernel
theorem dX12_isAhead_35 : decode cX12_isAhead 35 = .ok (.iconst 1, 1) := by decide +kernel
theorem dX12_isAhead_36 : decode cX12_isAhead 36 = .ok (.goto 36, 3) := by decide +kernel
theorem dX12_isAhead_39 : decode cX12_isAhead 39 = .ok (.iconst 0, 1) := by decide +kernel
theorem dX12_isAhead_40 : decode cX12_isAhead 40 = .ok (.goto 32, 3) := by decide +kernel
theorem dX12_isAhead_43 : decode cX12_isAhead 43 = .ok (.iload_n 1, 1) := by decide +kernel
theorem dX12_isAhead_44 : decode cX12_isAhead 44 = .ok (.iload_n 3, 1) := by decide +kernel
theorem dX12_isAhead_45 : decode cX12_isAhead 45 = .ok (.if_icmp .eq 16, 3) := by decide +kernel
theorem dX12_isAhead_48 : decode cX12_isAhead 48 = .ok (.iload_n 1, 1) := by decide +kernel
theorem dX12_isAhead_49 : decode cX12_isAhead 49 = .ok (.iload_n 3, 1) := by decide +kernel
theorem dX12_isAhead_50 : decode cX12_isAhead 50 = .ok (.if_icmp .ge 7, 3) := by decide +kernel
theorem dX12_isAhead_53 : decode cX12_isAhead 53 = .ok (.iconst 1, 1) := by decide +kernel
theorem dX12_isAhead_54 : decode cX12_isAhead 54 = .ok (.goto 18, 3) := by decide +kernel
theorem dX12_isAhead_57 : decode cX12_isAhead 57 = .ok (.iconst 0, 1) := by decide +kernel
theorem dX12_isAhead_58 : decode cX12_isAhead 58 = .ok (.goto 14, 3) := by decide +kernel
theorem dX12_isAhead_61 : decode cX12_isAhead 61 = .ok (.iload_n 2, 1) := by decide +kernel
theorem dX12_isAhead_62 : decode cX12_isAhead 62 = .ok (.iload 4, 2) := by decide +kernel
theorem dX12_isAhead_64 : decode cX12_isAhead 64 = .ok (.if_icmp .ge 7, 3) := by decide +kernel
theorem dX12_isAhead_67 : decode cX12_isAhead 67 = .ok (.iconst 1, 1) := by decide +kernel
theorem dX12_isAhead_68 : decode cX12_isAhead 68 = .ok (.goto 4, 3) := by decide +kernel
theorem dX12_isAhead_71 : decode cX12_isAhead 71 = .ok (.iconst 0, 1) := by decide +kernel
theorem dX12_isAhead_72 : decode cX12_isAhead 72 = .ok (.ireturn, 1) := by decide +kernel
theorem dX12_isInTable_0 : decode cX12_isInTable 0 = .ok (.aload_n 0, 1) := by decide +kernel
theorem dX12_isInTable_1 : decode cX12_isInTable 1 = .ok (.iload_n 1, 1) := by decide +kernel
theorem dX12_isInTable_2 : decode cX12_isInTable 2 = .ok (.iload 4, 2) := by decide +kernel
theorem dX12_isInTable_4 : decode cX12_isInTable 4 = .ok (.invokevirtual 196, 3) := by decide +kernel
theorem dX12_isInTable_7 : decode cX12_isInTable 7 = .ok (.ifCond .eq 36, 3) := by decide +kernel
theorem dX12_isInTable_10 : decode cX12_isInTable 10 = .ok (.aload_n 0, 1) := by decide +kernel
theorem dX12_isInTable_11 : decode cX12_isInTable 11 = .ok (.getfield 34, 3) := by decide +kernel
theorem dX12_isInTable_14 : decode cX12_isInTable 14 = .ok (.bipush 8, 2) := by decide +kernel
theorem dX12_isInTable_16 : decode cX12_isInTable 16 = .ok (.iload_n 1, 1) := by decide +kernel
theorem dX12_isInTable_17 : decode cX12_isInTable 17 = .ok (.imul, 1) := by decide +kernel
theorem dX12_isInTable_18 : decode cX12_isInTable 18 = .ok (.iload_n 2, 1) := by decide +kernel
theorem dX12_isInTable_19 : decode cX12_isInTable 19 = .ok (.iadd, 1) := by decide +kernel
theorem dX12_isInTable_20 : decode cX12_isInTable 20 = .ok (.iaload, 1) := by decide +kernel
theorem dX12_isInTable_21 : decode cX12_isInTable 21 = .ok (.iload_n 3, 1) := by decide +kernel
theorem dX12_isInTable_22 : decode cX12_isInTable 22 = .ok (.if_icmp .ne 21, 3) := by decide +kernel
theorem dX12_isInTable_25 : decode cX12_isInTable 25 = .ok (.aload_n 0, 1) := by decide +kernel
theorem dX12_isInTable_26 : decode cX12_isInTable 26 = .ok (.getfield 43, 3) := by decide +kernel
theorem dX12_isInTable_29 : decode cX12_isInTable 29 = .ok (.bipush 8, 2) := by decide +kernel
theorem dX12_isInTable_31 : decode cX12_isInTable 31 = .ok (.iload_n 1, 1) := by decide +kernel
theorem dX12_isInTable_32 : decode cX12_isInTable 32 = .ok (.imul, 1) := by decide +kernel
theorem dX12_isInTable_33 : decode cX12_isInTable 33 = .ok (.iload_n 2, 1) := by decide +kernel
theorem dX12_isInTable_34 : decode cX12_isInTable 34 = .ok (.iadd, 1) := by decide +kernel
theorem dX12_isInTable_35 : decode cX12_isInTable 35 = .ok (.baload, 1) := by decide +kernel
theorem dX12_isInTable_36 : decode cX12_isInTable 36 = .ok (.ifCond .ne 7, 3) := by decide +kernel
theorem dX12_isInTable_39 : decode cX12_isInTable 39 = .ok (.iconst 1, 1) := by decide +kernel
theorem dX12_isInTable_40 : decode cX12_isInTable 40 = .ok (.goto 4, 3) := by decide +kernel
theorem dX12_isInTable_43 : decode cX12_isInTable 43 = .ok (.iconst 0, 1) := by decide +kernel
theorem dX12_isInTable_44 : decode cX12_isInTable 44 = .ok (.ireturn, 1) := by decide +kernel
theorem dX12_table_0 : decode cX12_table 0 = .ok (.aload_n 0, 1) := by decide +kernel
theorem dX12_table_1 : decode cX12_table 1 = .ok (.iload_n 1, 1) := by decide +kernel
theorem dX12_table_2 : decode cX12_table 2 = .ok (.invokevirtual 167, 3) := by decide +kernel
theorem dX12_table_5 : decode cX12_table 5 = .ok (.ifCond .eq 20, 3) := by decide +kernel
theorem dX12_table_8 : decode cX12_table 8 = .ok (.iload_n 2, 1) := by decide +kernel
theorem dX12_table_9 : decode cX12_table 9 = .ok (.invokestatic 164, 3) := by decide +kernel
theorem dX12_table_12 : decode cX12_table 12 = .ok (.ifCond .eq 13, 3) := by decide +kernel
theorem dX12_table_15 : decode cX12_table 15 = .ok (.iload 4, 2) := by decide +kernel
theorem dX12_table_17 : decode cX12_table 17 = .ok (.iconst 0, 1) := by decide +kernel
theorem dX12_table_18 : decode cX12_table 18 = .ok (.iconst 3, 1) := by decide +kernel
theorem dX12_table_19 : decode cX12_table 19 = .ok (.invokestatic 150, 3) := by decide +kernel
theorem dX12_table_22 : decode cX12_table 22 = .ok (.ifCond .ne 6, 3) := by decide +kernel
theorem dX12_table_25 : decode cX12_table 25 = .ok (.bipush (-2), 2) := by decide +kernel
theorem dX12_table_27 : decode cX12_table 27 = .ok (.ireturn, 1) := by decide +kernel
theorem dX12_table_28 : decode cX12_table 28 = .ok (.iconst 0, 1) := by decide +kernel
theorem dX12_table_29 : decode cX12_table 29 = .ok (.istore 5, 2) := by decide +kernel
theorem dX12_table_31 : decode cX12_table 31 = .ok (.iload 5, 2) := by decide +kernel
theorem dX12_table_33 : decode cX12_table 33 = .ok (.aload_n 0, 1) := by decide +kernel
theorem dX12_table_34 : decode cX12_table 34 = .ok (.getfield 154, 3) := by decide +kernel
theorem dX12_table_37 : decode cX12_table 37 = .ok (.if_icmp .ge 184, 3) := by decide +kernel
theorem dX12_table_40 : decode cX12_table 40 = .ok (.iconst 0, 1) := by decide +kernel
theorem dX12_table_41 : decode cX12_table 41 = .ok (.istore 6, 2) := by decide +kernel
theorem dX12_table_43 : decode cX12_table 43 = .ok (.iload 6, 2) := by decide +kernel
theorem dX12_table_45 : decode cX12_table 45 = .ok (.aload_n 0, 1) := by decide +kernel
theorem dX12_table_46 : decode cX12_table 46 = .ok (.getfield 31, 3) := by decide +kernel
theorem dX12_table_49 : decode cX12_table 49 = .ok (.iload 5, 2) := by decide +kernel
theorem dX12_table_51 : decode cX12_table 51 = .ok (.iaload, 1) := by decide +kernel
theorem dX12_table_52 : decode cX12_table 52 = .ok (.if_icmp .ge 163, 3) := by decide +kernel
theorem dX12_table_55 : decode cX12_table 55 = .ok (.aload_n 0, 1) := by decide +kernel
theorem dX12_table_56 : decode cX12_table 56 = .ok (.iload 5, 2) := by decide +kernel
theorem dX12_table_58 : decode cX12_table 58 = .ok (.iload 6, 2) := by decide +kernel
theorem dX12_table_60 : decode cX12_table 60 = .ok (.iload_n 1, 1) := by decide +kernel
theorem dX12_table_61 : decode cX12_table 61 = .ok (.iload_n 2, 1) := by decide +kernel
theorem dX12_table_62 : decode cX12_table 62 = .ok (.invokevirtual 302, 3) := by decide +kernel
theorem dX12_table_65 : decode cX12_table 65 = .ok (.ifCond .ne 6, 3) := by decide +kernel
theorem dX12_table_68 : decode cX12_table 68 = .ok (.goto 141, 3) := by decide +kernel
theorem dX12_table_71 : decode cX12_table 71 = .ok (.iconst 0, 1) := by decide +kernel
theorem dX12_table_72 : decode cX12_table 72 = .ok (.istore 7, 2) := by decide +kernel
theorem dX12_table_74 : decode cX12_table 74 = .ok (.iconst 0, 1) := by decide +kernel
theorem dX12_table_75 : decode cX12_table 75 = .ok (.istore 8, 2) := by decide +kernel
theorem dX12_table_77 : decode cX12_table 77 = .ok (.iload 8, 2) := by decide +kernel
theorem dX12_table_79 : decode cX12_table 79 = .ok (.aload_n 0, 1) := by decide +kernel
theorem dX12_table_80 : decode cX12_table 80 = .ok (.getfield 154, 3) := by decide +kernel
theorem dX12_table_83 : decode cX12_table 83 = .ok (.if_icmp .ge 62, 3) := by decide +kernel
theorem dX12_table_86 : decode cX12_table 86 = .ok (.iconst 0, 1) := by decide +kernel
theorem dX12_table_87 : decode cX12_table 87 = .ok (.istore 9, 2) := by decide +kernel
theorem dX12_table_89 : decode cX12_table 89 = .ok (.iload 9, 2) := by decide +kernel
theorem dX12_table_91 : decode cX12_table 91 = .ok (.aload_n 0, 1) := by decide +kernel
theorem dX12_table_92 : decode cX12_table 92 = .ok (.getfield 31, 3) := by decide +kernel
theorem dX12_table_95 : decode cX12_table 95 = .ok (.iload 8, 2) := by decide +kernel
theorem dX12_table_97 : decode cX12_table 97 = .ok (.iaload, 1) := by decide +kernel
theorem dX12_table_98 : decode cX12_table 98 = .ok (.if_icmp .ge 41, 3) := by decide +kernel
theorem dX12_table_101 : decode cX12_table 101 = .ok (.aload_n 0, 1) := by decide +kernel
theorem dX12_table_102 : decode cX12_table 102 = .ok (.iload 8, 2) := by decide +kernel
theorem dX12_table_104 : decode cX12_table 104 = .ok (.iload 9, 2) := by decide +kernel
theorem dX12_table_106 : decode cX12_table 106 = .ok (.iload_n 1, 1) := by decide +kernel
theorem dX12_table_107 : decode cX12_table 107 = .ok (.iload_n 2, 1) := by decide +kernel
theorem dX12_table_108 : decode cX12_table 108 = .ok (.invokevirtual 302, 3) := by decide +kernel
theorem dX12_table_111 : decode cX12_table 111 = .ok (.ifCond .eq 22, 3) := by decide +kernel
theorem dX12_table_114 : decode cX12_table 114 = .ok (.aload_n 0, 1) := by decide +kernel
theorem dX12_table_115 : decode cX12_table 115 = .ok (.iload 8, 2) := by decide +kernel
theorem dX12_table_117 : decode cX12_table 117 = .ok (.iload 9, 2) := by decide +kernel
theorem dX12_table_119 : decode cX12_table 119 = .ok (.iload 5, 2) := by decide +kernel
theorem dX12_table_121 : decode cX12_table 121 = .ok (.iload 6, 2) := by decide +kernel
theorem dX12_table_123 : decode cX12_table 123 = .ok (.iload_n 2, 1) := by decide +kernel
theorem dX12_table_124 : decode cX12_table 124 = .ok (.invokevirtual 305, 3) := by decide +kernel
theorem dX12_table_127 : decode cX12_table 127 = .ok (.ifCond .eq 6, 3) := by decide +kernel
theorem dX12_table_130 : decode cX12_table 130 = .ok (.iinc 7 1, 3) := by decide +kernel
theorem dX12_table_133 : decode cX12_table 133 = .ok (.iinc 9 1, 3) := by decide +kernel
theorem dX12_table_136 : decode cX12_table 136 = .ok (.goto (-47), 3) := by decide +kernel
theorem dX12_table_139 : decode cX12_table 139 = .ok (.iinc 8 1, 3) := by decide +kernel
theorem dX12_table_142 : decode cX12_table 142 = .ok (.goto (-65), 3) := by decide +kernel
theorem dX12_table_145 : decode cX12_table 145 = .ok (.iload 7, 2) := by decide +kernel
theorem dX12_table_147 : decode cX12_table 147 = .ok (.iload_n 3, 1) := by decide +kernel
theorem dX12_table_148 : decode cX12_table 148 = .ok (.if_icmp .eq 6, 3) := by decide +kernel
theorem dX12_table_151 : decode cX12_table 151 = .ok (.goto 58, 3) := by decide +kernel
theorem dX12_table_154 : decode cX12_table 154 = .ok (.iload 4, 2) := by decide +kernel
theorem dX12_table_156 : decode cX12_table 156 = .ok (.ifCond .ne 8, 3) := by decide +kernel
theorem dX12_table_159 : decode cX12_table 159 = .ok (.iload 5, 2) := by decide +kernel
theorem dX12_table_161 : decode cX12_table 161 = .ok (.goto 47, 3) := by decide +kernel
theorem dX12_table_164 : decode cX12_table 164 = .ok (.iload 4, 2) := by decide +kernel
theorem dX12_table_166 : decode cX12_table 166 = .ok (.iconst 1, 1) := by decide +kernel
theorem dX12_table_167 : decode cX12_table 167 = .ok (.if_icmp .ne 8, 3) := by decide +kernel
theorem dX12_table_170 : decode cX12_table 170 = .ok (.iload 6, 2) := by decide +kernel
theorem dX12_table_172 : decode cX12_table 172 = .ok (.goto 36, 3) := by decide +kernel
theorem dX12_table_175 : decode cX12_table 175 = .ok (.iload 4, 2) := by decide +kernel
theorem dX12_table_177 : decode cX12_table 177 = .ok (.iconst 2, 1) := by decide +kernel
theorem dX12_table_178 : decode cX12_table 178 = .ok (.if_icmp .ne 15, 3) := by decide +kernel
theorem dX12_table_181 : decode cX12_table 181 = .ok (.aload_n 0, 1) := by decide +kernel
theorem dX12_table_182 : decode cX12_table 182 = .ok (.iload 5, 2) := by decide +kernel
theorem dX12_table_184 : decode cX12_table 184 = .ok (.iload_n 2, 1) := by decide +kernel
theorem dX12_table_185 : decode cX12_table 185 = .ok (.iload 6, 2) := by decide +kernel
theorem dX12_table_187 : decode cX12_table 187 = .ok (.invokevirtual 199, 3) := by decide +kernel
theorem dX12_table_190 : decode cX12_table 190 = .ok (.goto 12, 3) := by decide +kernel
theorem dX12_table_193 : decode cX12_table 193 = .ok (.aload_n 0, 1) := by decide +kernel
theorem dX12_table_194 : decode cX12_table 194 = .ok (.iload 5, 2) := by decide +kernel
theorem dX12_table_196 : decode cX12_table 196 = .ok (.iload_n 2, 1) := by decide +kernel
theorem dX12_table_197 : decode cX12_table 197 = .ok (.iload 6, 2) := by decide +kernel
theorem dX12_table_199 : decode cX12_table 199 = .ok (.invokevirtual 202, 3) := by decide +kernel
theorem dX12_table_202 : decode cX12_table 202 = .ok (.sipush 1440, 3) := by decide +kernel
theorem dX12_table_205 : decode cX12_table 205 = .ok (.iload_n 2, 1) := by decide +kernel
theorem dX12_table_206 : decode cX12_table 206 = .ok (.imul, 1) := by decide +kernel
theorem dX12_table_207 : decode cX12_table 207 = .ok (.isub, 1) := by decide +kernel
theorem dX12_table_208 : decode cX12_table 208 = .ok (.ireturn, 1) := by decide +kernel
theorem dX12_table_209 : decode cX12_table 209 = .ok (.iinc 6 1, 3) := by decide +kernel
theorem dX12_table_212 : decode cX12_table 212 = .ok (.goto (-169), 3) := by decide +kernel
theorem dX12_table_215 : decode cX12_table 215 = .ok (.iinc 5 1, 3) := by decide +kernel
theorem dX12_table_218 : decode cX12_table 218 = .ok (.goto (-187), 3) := by decide +kernel
theorem dX12_table_221 : decode cX12_table 221 = .ok (.iconst (-1), 1) := by decide +kernel
theorem dX12_table_222 : decode cX12_table 222 = .ok (.ireturn, 1) := by decide +kernel
theorem dX12_count_0 : decode cX12_count 0 = .ok (.iload_n 1, 1) := by decide +kernel
theorem dX12_count_1 : decode cX12_count 1 = .ok (.tableswitch 110 0 6 #[43, 48, 53, 58, 63, 68, 105], 43) := by decide +kernel
theorem dX12_count_44 : decode cX12_count 44 = .ok (.aload_n 0, 1) := by decide +kernel
theorem dX12_count_45 : decode cX12_count 45 = .ok (.getfield 147, 3) := by decide +kernel
theorem dX12_count_48 : decode cX12_count 48 = .ok (.ireturn, 1) := by decide +kernel
theorem dX12_count_49 : decode cX12_count 49 = .ok (.aload_n 0, 1) := by decide +kernel
theorem dX12_count_50 : decode cX12_count 50 = .ok (.getfield 154, 3) := by decide +kernel
theorem dX12_count_53 : decode cX12_count 53 = .ok (.ireturn, 1) := by decide +kernel
theorem dX12_count_54 : decode cX12_count 54 = .ok (.aload_n 0, 1) := by decide +kernel
theorem dX12_count_55 : decode cX12_count 55 = .ok (.getfield 161, 3) := by decide +kernel
theorem dX12_count_58 : decode cX12_count 58 = .ok (.ireturn, 1) := by decide +kernel
theorem dX12_count_59 : decode cX12_count 59 = .ok (.aload_n 0, 1) := by decide +kernel
theorem dX12_count_60 : decode cX12_count 60 = .ok (.getfield 261, 3) := by decide +kernel
theorem dX12_count_63 : decode cX12_count 63 = .ok (.ireturn, 1) := by decide +kernel
theorem dX12_count_64 : decode cX12_count 64 = .ok (.aload_n 0, 1) := by decide +kernel
theorem dX12_count_65 : decode cX12_count 65 = .ok (.getfield 280, 3) := by decide +kernel
theorem dX12_count_68 : decode cX12_count 68 = .ok (.ireturn, 1) := by decide +kernel
theorem dX12_count_69 : decode cX12_count 69 = .ok (.iconst 0, 1) := by decide +kernel
theorem dX12_count_70 : decode cX12_count 70 = .ok (.istore_n 2, 1) := by decide +kernel
theorem dX12_count_71 : decode cX12_count 71 = .ok (.iconst 0, 1) := by decide +kernel
theorem dX12_count_72 : decode cX12_count 72 = .ok (.istore_n 3, 1) := by decide +kernel
theorem dX12_count_73 : decode cX12_count 73 = .ok (.iload_n 3, 1) := by decide +kernel
theorem dX12_count_74 : decode cX12_count 74 = .ok (.aload_n 0, 1) := by decide +kernel
theorem dX12_count_75 : decode cX12_count 75 = .ok (.getfield 280, 3) := by decide +kernel
theorem dX12_count_78 : decode cX12_count 78 = .ok (.if_icmp .ge 26, 3) := by decide +kernel
theorem dX12_count_81 : decode cX12_count 81 = .ok (.iload_n 2, 1) := by decide +kernel
theorem dX12_count_82 : decode cX12_count 82 = .ok (.aload_n 0, 1) := by decide +kernel
theorem dX12_count_83 : decode cX12_count 83 = .ok (.getfield 137, 3) := by decide +kernel
theorem dX12_count_86 : decode cX12_count 86 = .ok (.iload_n 3, 1) := by decide +kernel
theorem dX12_count_87 : decode cX12_count 87 = .ok (.baload, 1) := by decide +kernel
theorem dX12_count_88 : decode cX12_count 88 = .ok (.ifCond .eq 7, 3) := by decide +kernel
theorem dX12_count_91 : decode cX12_count 91 = .ok (.iconst 0, 1) := by decide +kernel
theorem dX12_count_92 : decode cX12_count 92 = .ok (.goto 4, 3) := by decide +kernel
theorem dX12_count_95 : decode cX12_count 95 = .ok (.iconst 1, 1) := by decide +kernel
theorem dX12_count_96 : decode cX12_count 96 = .ok (.iadd, 1) := by decide +kernel
theorem dX12_count_97 : decode cX12_count 97 = .ok (.istore_n 2, 1) := by decide +kernel
theorem dX12_count_98 : decode cX12_count 98 = .ok (.iinc 3 1, 3) := by decide +kernel
theorem dX12_count_101 : decode cX12_count 101 = .ok (.goto (-28), 3) := by decide +kernel
theorem dX12_count_104 : decode cX12_count 104 = .ok (.iload_n 2, 1) := by decide +kernel
theorem dX12_count_105 : decode cX12_count 105 = .ok (.ireturn, 1) := by decide +kernel
theorem dX12_count_106 : decode cX12_count 106 = .ok (.aload_n 0, 1) := by decide +kernel
theorem dX12_count_107 : decode cX12_count 107 = .ok (.getfield 177, 3) := by decide +kernel
theorem dX12_count_110 : decode cX12_count 110 = .ok (.ireturn, 1) := by decide +kernel
theorem dX12_count_111 : decode cX12_count 111 = .ok (.bipush (-2), 2) := by decide +kernel
theorem dX12_count_113 : decode cX12_count 113 = .ok (.ireturn, 1) := by decide +kernel
theorem dJ9_floorDiv_7cf53_0 : decode cJ9_floorDiv_7cf53 0 = .ok (.iload_n 0, 1) := by decide +kernel
theorem dJ9_floorDiv_7cf53_1 : decode cJ9_floorDiv_7cf53 1 = .ok (.iload_n 1, 1) := by decide +kernel
theorem dJ9_floorDiv_7cf53_2 : decode cJ9_floorDiv_7cf53 2 = .ok (.idiv, 1) := by decide +kernel
theorem dJ9_floorDiv_7cf53_3 : decode cJ9_floorDiv_7cf53 3 = .ok (.istore_n 2, 1) := by decide +kernel
theorem dJ9_floorDiv_7cf53_4 : decode cJ9_floorDiv_7cf53 4 = .ok (.iload_n 0, 1) := by decide +kernel
theorem dJ9_floorDiv_7cf53_5 : decode cJ9_floorDiv_7cf53 5 = .ok (.iload_n 1, 1) := by decide +kernel
theorem dJ9_floorDiv_7cf53_6 : decode cJ9_floorDiv_7cf53 6 = .ok (.ixor, 1) := by decide +kernel
theorem dJ9_floorDiv_7cf53_7 : decode cJ9_floorDiv_7cf53 7 = .ok (.ifCond .ge 14, 3) := by decide +kernel
theorem dJ9_floorDiv_7cf53_10 : decode cJ9_floorDiv_7cf53 10 = .ok (.iload_n 2, 1) := by decide +kernel
theorem dJ9_floorDiv_7cf53_11 : decode cJ9_floorDiv_7cf53 11 = .ok (.iload_n 1, 1) := by decide +kernel
theorem dJ9_floorDiv_7cf53_12 : decode cJ9_floorDiv_7cf53 12 = .ok (.imul, 1) := by decide +kernel
theorem dJ9_floorDiv_7cf53_13 : decode cJ9_floorDiv_7cf53 13 = .ok (.iload_n 0, 1) := by decide +kernel
theorem dJ9_floorDiv_7cf53_14 : decode cJ9_floorDiv_7cf53 14 = .ok (.if_icmp .eq 7, 3) := by decide +kernel
theorem dJ9_floorDiv_7cf53_17 : decode cJ9_floorDiv_7cf53 17 = .ok (.iload_n 2, 1) := by decide +kernel
theorem dJ9_floorDiv_7cf53_18 : decode cJ9_floorDiv_7cf53 18 = .ok (.iconst 1, 1) := by decide +kernel
theorem dJ9_floorDiv_7cf53_19 : decode cJ9_floorDiv_7cf53 19 = .ok (.isub, 1) := by decide +kernel
theorem dJ9_floorDiv_7cf53_20 : decode cJ9_floorDiv_7cf53 20 = .ok (.ireturn, 1) := by decide +kernel
theorem dJ9_floorDiv_7cf53_21 : decode cJ9_floorDiv_7cf53 21 = .ok (.iload_n 2, 1) := by decide +kernel
theorem dJ9_floorDiv_7cf53_22 : decode cJ9_floorDiv_7cf53 22 = .ok (.ireturn, 1) := by decide +kernel
theorem dJ9_max_7cf53_0 : decode cJ9_max_7cf53 0 = .ok (.iload_n 0, 1) := by decide +kernel
theorem dJ9_max_7cf53_1 : decode cJ9_max_7cf53 1 = .ok (.iload_n 1, 1) := by decide +kernel
theorem dJ9_max_7cf53_2 : decode cJ9_max_7cf53 2 = .ok (.if_icmp .lt 7, 3) := by decide +kernel
theorem dJ9_max_7cf53_5 : decode cJ9_max_7cf53 5 = .ok (.iload_n 0, 1) := by decide +kernel
theorem dJ9_max_7cf53_6 : decode cJ9_max_7cf53 6 = .ok (.goto 4, 3) := by decide +kernel
theorem dJ9_max_7cf53_9 : decode cJ9_max_7cf53 9 = .ok (.iload_n 1, 1) := by decide +kernel
theorem dJ9_max_7cf53_10 : decode cJ9_max_7cf53 10 = .ok (.ireturn, 1) := by decide +kernel
theorem dJ9_min_7cf53_0 : decode cJ9_min_7cf53 0 = .ok (.iload_n 0, 1) := by decide +kernel
theorem dJ9_min_7cf53_1 : decode cJ9_min_7cf53 1 = .ok (.iload_n 1, 1) := by decide +kernel
theorem dJ9_min_7cf53_2 : decode cJ9_min_7cf53 2 = .ok (.if_icmp .gt 7, 3) := by decide +kernel
theorem dJ9_min_7cf53_5 : decode cJ9_min_7cf53 5 = .ok (.iload_n 0, 1) := by decide +kernel
theorem dJ9_min_7cf53_6 : decode cJ9_min_7cf53 6 = .ok (.goto 4, 3) := by decide +kernel
theorem dJ9_min_7cf53_9 : decode cJ9_min_7cf53 9 = .ok (.iload_n 1, 1) := by decide +kernel
theorem dJ9_min_7cf53_10 : decode cJ9_min_7cf53 10 = .ok (.ireturn, 1) := by decide +kernel
theorem dJ7_fill_53178_0 : decode cJ7_fill_53178 0 = .ok (.iconst 0, 1) := by decide +kernel
theorem dJ7_fill_53178_1 : decode cJ7_fill_53178 1 = .ok (.istore_n 2, 1) := by decide +kernel
theorem dJ7_fill_53178_2 : decode cJ7_fill_53178 2 = .ok (.aload_n 0, 1) := by decide +kernel
theorem dJ7_fill_53178_3 : decode cJ7_fill_53178 3 = .ok (.arraylength, 1) := by decide +kernel
theorem dJ7_fill_53178_4 : decode cJ7_fill_53178 4 = .ok (.istore_n 3, 1) := by decide +kernel
theorem dJ7_fill_53178_5 : decode cJ7_fill_53178 5 = .ok (.iload_n 2, 1) := by decide +kernel
theorem dJ7_fill_53178_6 : decode cJ7_fill_53178 6 = .ok (.iload_n 3, 1) := by decide +kernel
theorem dJ7_fill_53178_7 : decode cJ7_fill_53178 7 = .ok (.if_icmp .ge 13, 3) := by decide +kernel
theorem dJ7_fill_53178_10 : decode cJ7_fill_53178 10 = .ok (.aload_n 0, 1) := by decide +kernel
theorem dJ7_fill_53178_11 : decode cJ7_fill_53178 11 = .ok (.iload_n 2, 1) := by decide +kernel
theorem dJ7_fill_53178_12 : decode cJ7_fill_53178 12 = .ok (.iload_n 1, 1) := by decide +kernel
theorem dJ7_fill_53178_13 : decode cJ7_fill_53178 13 = .ok (.iastore, 1) := by decide +kernel
theorem dJ7_fill_53178_14 : decode cJ7_fill_53178 14 = .ok (.iinc 2 1, 3) := by decide +kernel
theorem dJ7_fill_53178_17 : decode cJ7_fill_53178 17 = .ok (.goto (-12), 3) := by decide +kernel
theorem dJ7_fill_53178_20 : decode cJ7_fill_53178 20 = .ok (.return_, 1) := by decide +kernel
theorem dL_law_0 : decode cL_law 0 = .ok (.new 7, 3) := by decide +kernel
theorem dL_law_3 : decode cL_law 3 = .ok (.dup, 1) := by decide +kernel
theorem dL_law_4 : decode cL_law 4 = .ok (.invokespecial 9, 3) := by decide +kernel
theorem dL_law_7 : decode cL_law 7 = .ok (.astore_n 1, 1) := by decide +kernel
theorem dL_law_8 : decode cL_law 8 = .ok (.new 10, 3) := by decide +kernel
theorem dL_law_11 : decode cL_law 11 = .ok (.dup, 1) := by decide +kernel
theorem dL_law_12 : decode cL_law 12 = .ok (.invokespecial 12, 3) := by decide +kernel
theorem dL_law_15 : decode cL_law 15 = .ok (.astore_n 2, 1) := by decide +kernel
theorem dL_law_16 : decode cL_law 16 = .ok (.iconst 0, 1) := by decide +kernel
theorem dL_law_17 : decode cL_law 17 = .ok (.istore_n 3, 1) := by decide +kernel
theorem dL_law_18 : decode cL_law 18 = .ok (.iload_n 3, 1) := by decide +kernel
theorem dL_law_19 : decode cL_law 19 = .ok (.aload_n 0, 1) := by decide +kernel
theorem dL_law_20 : decode cL_law 20 = .ok (.arraylength, 1) := by decide +kernel
theorem dL_law_21 : decode cL_law 21 = .ok (.iconst 5, 1) := by decide +kernel
theorem dL_law_22 : decode cL_law 22 = .ok (.isub, 1) := by decide +kernel
theorem dL_law_23 : decode cL_law 23 = .ok (.if_icmp .gt 1138, 3) := by decide +kernel
theorem dL_law_26 : decode cL_law 26 = .ok (.aload_n 0, 1) := by decide +kernel
theorem dL_law_27 : decode cL_law 27 = .ok (.iload_n 3, 1) := by decide +kernel
theorem dL_law_28 : decode cL_law 28 = .ok (.iaload, 1) := by decide +kernel
theorem dL_law_29 : decode cL_law 29 = .ok (.bipush 31, 2) := by decide +kernel
theorem dL_law_31 : decode cL_law 31 = .ok (.iand, 1) := by decide +kernel
theorem dL_law_32 : decode cL_law 32 = .ok (.tableswitch 1123 0 24 #[116, 149, 192, 225, 268, 321, 380, 423, 476, 509, 562, 621, 674, 707, 750, 773, 796, 819, 842, 885, 938, 991, 1034, 1047, 1100], 116) := by decide +kernel
theorem dL_law_148 : decode cL_law 148 = .ok (.aload_n 1, 1) := by decide +kernel
theorem dL_law_149 : decode cL_law 149 = .ok (.aload_n 0, 1) := by decide +kernel
theorem dL_law_150 : decode cL_law 150 = .ok (.iload_n 3, 1) := by decide +kernel
theorem dL_law_151 : decode cL_law 151 = .ok (.iconst 1, 1) := by decide +kernel
theorem dL_law_152 : decode cL_law 152 = .ok (.iadd, 1) := by decide +kernel
theorem dL_law_153 : decode cL_law 153 = .ok (.iaload, 1) := by decide +kernel
theorem dL_law_154 : decode cL_law 154 = .ok (.aload_n 0, 1) := by decide +kernel
theorem dL_law_155 : decode cL_law 155 = .ok (.iload_n 3, 1) := by decide +kernel
theorem dL_law_156 : decode cL_law 156 = .ok (.iconst 2, 1) := by decide +kernel
theorem dL_law_157 : decode cL_law 157 = .ok (.iadd, 1) := by decide +kernel
theorem dL_law_158 : decode cL_law 158 = .ok (.iaload, 1) := by decide +kernel
theorem dL_law_159 : decode cL_law 159 = .ok (.invokevirtual 13, 3) := by decide +kernel
theorem dL_law_162 : decode cL_law 162 = .ok (.aload_n 2, 1) := by decide +kernel
theorem dL_law_163 : decode cL_law 163 = .ok (.aload_n 0, 1) := by decide +kernel
theorem dL_law_164 : decode cL_law 164 = .ok (.iload_n 3, 1) := by decide +kernel
theorem dL_law_165 : decode cL_law 165 = .ok (.iconst 1, 1) := by decide +kernel
theorem dL_law_166 : decode cL_law 166 = .ok (.iadd, 1) := by decide +kernel
theorem dL_law_167 : decode cL_law 167 = .ok (.iaload, 1) := by decide +kernel
theorem dL_law_168 : decode cL_law 168 = .ok (.aload_n 0, 1) := by decide +kernel
theorem dL_law_169 : decode cL_law 169 = .ok (.iload_n 3, 1) := by decide +kernel
theorem dL_law_170 : decode cL_law 170 = .ok (.iconst 2, 1) := by decide +kernel
theorem dL_law_171 : decode cL_law 171 = .ok (.iadd, 1) := by decide +kernel
theorem dL_law_172 : decode cL_law 172 = .ok (.iaload, 1) := by decide +kernel
theorem dL_law_173 : decode cL_law 173 = .ok (.invokevirtual 17, 3) := by decide +kernel
theorem dL_law_176 : decode cL_law 176 = .ok (.if_icmp .eq 979, 3) := by decide +kernel
theorem dL_law_179 : decode cL_law 179 = .ok (.iconst 0, 1) := by decide +kernel
theorem dL_law_180 : decode cL_law 180 = .ok (.ireturn, 1) := by decide +kernel
theorem dL_law_181 : decode cL_law 181 = .ok (.aload_n 1, 1) := by decide +kernel
theorem dL_law_182 : decode cL_law 182 = .ok (.aload_n 0, 1) := by decide +kernel
theorem dL_law_183 : decode cL_law 183 = .ok (.iload_n 3, 1) := by decide +kernel
theorem dL_law_184 : decode cL_law 184 = .ok (.iconst 1, 1) := by decide +kernel
theorem dL_law_185 : decode cL_law 185 = .ok (.iadd, 1) := by decide +kernel
theorem dL_law_186 : decode cL_law 186 = .ok (.iaload, 1) := by decide +kernel
theorem dL_law_187 : decode cL_law 187 = .ok (.aload_n 0, 1) := by decide +kernel
theorem dL_law_188 : decode cL_law 188 = .ok (.iload_n 3, 1) := by decide +kernel
theorem dL_law_189 : decode cL_law 189 = .ok (.iconst 2, 1) := by decide +kernel
theorem dL_law_190 : decode cL_law 190 = .ok (.iadd, 1) := by decide +kernel
theorem dL_law_191 : decode cL_law 191 = .ok (.iaload, 1) := by decide +kernel
theorem dL_law_192 : decode cL_law 192 = .ok (.aload_n 0, 1) := by decide +kernel
theorem dL_law_193 : decode cL_law 193 = .ok (.iload_n 3, 1) := by decide +kernel
theorem dL_law_194 : decode cL_law 194 = .ok (.iconst 3, 1) := by decide +kernel
theorem dL_law_195 : decode cL_law 195 = .ok (.iadd, 1) := by decide +kernel
theorem dL_law_196 : decode cL_law 196 = .ok (.iaload, 1) := by decide +kernel
theorem dL_law_197 : decode cL_law 197 = .ok (.invokevirtual 18, 3) := by decide +kernel
theorem dL_law_200 : decode cL_law 200 = .ok (.aload_n 2, 1) := by decide +kernel
theorem dL_law_201 : decode cL_law 201 = .ok (.aload_n 0, 1) := by decide +kernel
theorem dL_law_202 : decode cL_law 202 = .ok (.iload_n 3, 1) := by decide +kernel
theorem dL_law_203 : decode cL_law 203 = .ok (.iconst 1, 1) := by decide +kernel
theorem dL_law_204 : decode cL_law 204 = .ok (.iadd, 1) := by decide +kernel
theorem dL_law_205 : decode cL_law 205 = .ok (.iaload, 1) := by decide +kernel
theorem dL_law_206 : decode cL_law 206 = .ok (.aload_n 0, 1) := by decide +kernel
theorem dL_law_207 : decode cL_law 207 = .ok (.iload_n 3, 1) := by decide +kernel
theorem dL_law_208 : decode cL_law 208 = .ok (.iconst 2, 1) := by decide +kernel
theorem dL_law_209 : decode cL_law 209 = .ok (.iadd, 1) := by decide +kernel
theorem dL_law_210 : decode cL_law 210 = .ok (.iaload, 1) := by decide +kernel
theorem dL_law_211 : decode cL_law 211 = .ok (.aload_n 0, 1) := by decide +kernel
theorem dL_law_212 : decode cL_law 212 = .ok (.iload_n 3, 1) := by decide +kernel
theorem dL_law_213 : decode cL_law 213 = .ok (.iconst 3, 1) := by decide +kernel
theorem dL_law_214 : decode cL_law 214 = .ok (.iadd, 1) := by decide +kernel
theorem dL_law_215 : decode cL_law 215 = .ok (.iaload, 1) := by decide +kernel
theorem dL_law_216 : decode cL_law 216 = .ok (.invokevirtual 22, 3) := by decide +kernel
theorem dL_law_219 : decode cL_law 219 = .ok (.if_icmp .eq 936, 3) := by decide +kernel
theorem dL_law_222 : decode cL_law 222 = .ok (.iconst 0, 1) := by decide +kernel
theorem dL_law_223 : decode cL_law 223 = .ok (.ireturn, 1) := by decide +kernel
theorem dL_law_224 : decode cL_law 224 = .ok (.aload_n 1, 1) := by decide +kernel
theorem dL_law_225 : decode cL_law 225 = .ok (.aload_n 0, 1) := by decide +kernel
theorem dL_law_226 : decode cL_law 226 = .ok (.iload_n 3, 1) := by decide +kernel
theorem dL_law_227 : decode cL_law 227 = .ok (.iconst 1, 1) := by decide +kernel
theorem dL_law_228 : decode cL_law 228 = .ok (.iadd, 1) := by decide +kernel
theorem dL_law_229 : decode cL_law 229 = .ok (.iaload, 1) := by decide +kernel
theorem dL_law_230 : decode cL_law 230 = .ok (.aload_n 0, 1) := by decide +kernel
theorem dL_law_231 : decode cL_law 231 = .ok (.iload_n 3, 1) := by decide +kernel
theorem dL_law_232 : decode cL_law 232 = .ok (.iconst 2, 1) := by decide +kernel
theorem dL_law_233 : decode cL_law 233 = .ok (.iadd, 1) := by decide +kernel
theorem dL_law_234 : decode cL_law 234 = .ok (.iaload, 1) := by decide +kernel
theorem dL_law_235 : decode cL_law 235 = .ok (.invokevirtual 23, 3) := by decide +kernel
theorem dL_law_238 : decode cL_law 238 = .ok (.aload_n 2, 1) := by decide +kernel
theorem dL_law_239 : decode cL_law 239 = .ok (.aload_n 0, 1) := by decide +kernel
theorem dL_law_240 : decode cL_law 240 = .ok (.iload_n 3, 1) := by decide +kernel
theorem dL_law_241 : decode cL_law 241 = .ok (.iconst 1, 1) := by decide +kernel
theorem dL_law_242 : decode cL_law 242 = .ok (.iadd, 1) := by decide +kernel
theorem dL_law_243 : decode cL_law 243 = .ok (.iaload, 1) := by decide +kernel
theorem dL_law_244 : decode cL_law 244 = .ok (.aload_n 0, 1) := by decide +kernel
theorem dL_law_245 : decode cL_law 245 = .ok (.iload_n 3, 1) := by decide +kernel
theorem dL_law_246 : decode cL_law 246 = .ok (.iconst 2, 1) := by decide +kernel
theorem dL_law_247 : decode cL_law 247 = .ok (.iadd, 1) := by decide +kernel
theorem dL_law_248 : decode cL_law 248 = .ok (.iaload, 1) := by decide +kernel
theorem dL_law_249 : decode cL_law 249 = .ok (.invokevirtual 26, 3) := by decide +kernel
theorem dL_law_252 : decode cL_law 252 = .ok (.if_icmp .eq 903, 3) := by decide +kernel
theorem dL_law_255 : decode cL_law 255 = .ok (.iconst 0, 1) := by decide +kernel
theorem dL_law_256 : decode cL_law 256 = .ok (.ireturn, 1) := by decide +kernel
theorem dL_law_257 : decode cL_law 257 = .ok (.aload_n 1, 1) := by decide +kernel
theorem dL_law_258 : decode cL_law 258 = .ok (.aload_n 0, 1) := by decide +kernel
theorem dL_law_259 : decode cL_law 259 = .ok (.iload_n 3, 1) := by decide +kernel
theorem dL_law_260 : decode cL_law 260 = .ok (.iconst 1, 1) := by decide +kernel
theorem dL_law_261 : decode cL_law 261 = .ok (.iadd, 1) := by decide +kernel
theorem dL_law_262 : decode cL_law 262 = .ok (.iaload, 1) := by decide +kernel
theorem dL_law_263 : decode cL_law 263 = .ok (.aload_n 0, 1) := by decide +kernel
theorem dL_law_264 : decode cL_law 264 = .ok (.iload_n 3, 1) := by decide +kernel
theorem dL_law_265 : decode cL_law 265 = .ok (.iconst 2, 1) := by decide +kernel
theorem dL_law_266 : decode cL_law 266 = .ok (.iadd, 1) := by decide +kernel
theorem dL_law_267 : decode cL_law 267 = .ok (.iaload, 1) := by decide +kernel
theorem dL_law_268 : decode cL_law 268 = .ok (.aload_n 0, 1) := by decide +kernel
theorem dL_law_269 : decode cL_law 269 = .ok (.iload_n 3, 1) := by decide +kernel
theorem dL_law_270 : decode cL_law 270 = .ok (.iconst 3, 1) := by decide +kernel
theorem dL_law_271 : decode cL_law 271 = .ok (.iadd, 1) := by decide +kernel
theorem dL_law_272 : decode cL_law 272 = .ok (.iaload, 1) := by decide +kernel
theorem dL_law_273 : decode cL_law 273 = .ok (.invokevirtual 27, 3) := by decide +kernel
theorem dL_law_276 : decode cL_law 276 = .ok (.aload_n 2, 1) := by decide +kernel
theorem dL_law_277 : decode cL_law 277 = .ok (.aload_n 0, 1) := by decide +kernel
theorem dL_law_278 : decode cL_law 278 = .ok (.iload_n 3, 1) := by decide +kernel
theorem dL_law_279 : decode cL_law 279 = .ok (.iconst 1, 1) := by decide +kernel
theorem dL_law_280 : decode cL_law 280 = .ok (.iadd, 1) := by decide +kernel
theorem dL_law_281 : decode cL_law 281 = .ok (.iaload, 1) := by decide +kernel
theorem dL_law_282 : decode cL_law 282 = .ok (.aload_n 0, 1) := by decide +kernel
theorem dL_law_283 : decode cL_law 283 = .ok (.iload_n 3, 1) := by decide +kernel
theorem dL_law_284 : decode cL_law 284 = .ok (.iconst 2, 1) := by decide +kernel
theorem dL_law_285 : decode cL_law 285 = .ok (.iadd, 1) := by decide +kernel
theorem dL_law_286 : decode cL_law 286 = .ok (.iaload, 1) := by decide +kernel
theorem dL_law_287 : decode cL_law 287 = .ok (.aload_n 0, 1) := by decide +kernel
theorem dL_law_288 : decode cL_law 288 = .ok (.iload_n 3, 1) := by decide +kernel
theorem dL_law_289 : decode cL_law 289 = .ok (.iconst 3, 1) := by decide +kernel
theorem dL_law_290 : decode cL_law 290 = .ok (.iadd, 1) := by decide +kernel
theorem dL_law_291 : decode cL_law 291 = .ok (.iaload, 1) := by decide +kernel
theorem dL_law_292 : decode cL_law 292 = .ok (.invokevirtual 30, 3) := by decide +kernel
theorem dL_law_295 : decode cL_law 295 = .ok (.if_icmp .eq 860, 3) := by decide +kernel
theorem dL_law_298 : decode cL_law 298 = .ok (.iconst 0, 1) := by decide +kernel
theorem dL_law_299 : decode cL_law 299 = .ok (.ireturn, 1) := by decide +kernel
theorem dL_law_300 : decode cL_law 300 = .ok (.aload_n 1, 1) := by decide +kernel
theorem dL_law_301 : decode cL_law 301 = .ok (.aload_n 0, 1) := by decide +kernel
theorem dL_law_302 : decode cL_law 302 = .ok (.iload_n 3, 1) := by decide +kernel
theorem dL_law_303 : decode cL_law 303 = .ok (.iconst 1, 1) := by decide +kernel
theorem dL_law_304 : decode cL_law 304 = .ok (.iadd, 1) := by decide +kernel
theorem dL_law_305 : decode cL_law 305 = .ok (.iaload, 1) := by decide +kernel
theorem dL_law_306 : decode cL_law 306 = .ok (.aload_n 0, 1) := by decide +kernel
theorem dL_law_307 : decode cL_law 307 = .ok (.iload_n 3, 1) := by decide +kernel
theorem dL_law_308 : decode cL_law 308 = .ok (.iconst 2, 1) := by decide +kernel
theorem dL_law_309 : decode cL_law 309 = .ok (.iadd, 1) := by decide +kernel
theorem dL_law_310 : decode cL_law 310 = .ok (.iaload, 1) := by decide +kernel
theorem dL_law_311 : decode cL_law 311 = .ok (.aload_n 0, 1) := by decide +kernel
theorem dL_law_312 : decode cL_law 312 = .ok (.iload_n 3, 1) := by decide +kernel
theorem dL_law_313 : decode cL_law 313 = .ok (.iconst 3, 1) := by decide +kernel
theorem dL_law_314 : decode cL_law 314 = .ok (.iadd, 1) := by decide +kernel
theorem dL_law_315 : decode cL_law 315 = .ok (.iaload, 1) := by decide +kernel
theorem dL_law_316 : decode cL_law 316 = .ok (.aload_n 0, 1) := by decide +kernel
theorem dL_law_317 : decode cL_law 317 = .ok (.iload_n 3, 1) := by decide +kernel
theorem dL_law_318 : decode cL_law 318 = .ok (.iconst 4, 1) := by decide +kernel
theorem dL_law_319 : decode cL_law 319 = .ok (.iadd, 1) := by decide +kernel
theorem dL_law_320 : decode cL_law 320 = .ok (.iaload, 1) := by decide +kernel
theorem dL_law_321 : decode cL_law 321 = .ok (.invokevirtual 31, 3) := by decide +kernel
theorem dL_law_324 : decode cL_law 324 = .ok (.aload_n 2, 1) := by decide +kernel
theorem dL_law_325 : decode cL_law 325 = .ok (.aload_n 0, 1) := by decide +kernel
theorem dL_law_326 : decode cL_law 326 = .ok (.iload_n 3, 1) := by decide +kernel
theorem dL_law_327 : decode cL_law 327 = .ok (.iconst 1, 1) := by decide +kernel
theorem dL_law_328 : decode cL_law 328 = .ok (.iadd, 1) := by decide +kernel
theorem dL_law_329 : decode cL_law 329 = .ok (.iaload, 1) := by decide +kernel
theorem dL_law_330 : decode cL_law 330 = .ok (.aload_n 0, 1) := by decide +kernel
theorem dL_law_331 : decode cL_law 331 = .ok (.iload_n 3, 1) := by decide +kernel
theorem dL_law_332 : decode cL_law 332 = .ok (.iconst 2, 1) := by decide +kernel
theorem dL_law_333 : decode cL_law 333 = .ok (.iadd, 1) := by decide +kernel
theorem dL_law_334 : decode cL_law 334 = .ok (.iaload, 1) := by decide +kernel
theorem dL_law_335 : decode cL_law 335 = .ok (.aload_n 0, 1) := by decide +kernel
theorem dL_law_336 : decode cL_law 336 = .ok (.iload_n 3, 1) := by decide +kernel
theorem dL_law_337 : decode cL_law 337 = .ok (.iconst 3, 1) := by decide +kernel
theorem dL_law_338 : decode cL_law 338 = .ok (.iadd, 1) := by decide +kernel
theorem dL_law_339 : decode cL_law 339 = .ok (.iaload, 1) := by decide +kernel
theorem dL_law_340 : decode cL_law 340 = .ok (.aload_n 0, 1) := by decide +kernel
theorem dL_law_341 : decode cL_law 341 = .ok (.iload_n 3, 1) := by decide +kernel
theorem dL_law_342 : decode cL_law 342 = .ok (.iconst 4, 1) := by decide +kernel
theorem dL_law_343 : decode cL_law 343 = .ok (.iadd, 1) := by decide +kernel
theorem dL_law_344 : decode cL_law 344 = .ok (.iaload, 1) := by decide +kernel
theorem dL_law_345 : decode cL_law 345 = .ok (.invokevirtual 35, 3) := by decide +kernel
theorem dL_law_348 : decode cL_law 348 = .ok (.if_icmp .eq 807, 3) := by decide +kernel
theorem dL_law_351 : decode cL_law 351 = .ok (.iconst 0, 1) := by decide +kernel
theorem dL_law_352 : decode cL_law 352 = .ok (.ireturn, 1) := by decide +kernel
theorem dL_law_353 : decode cL_law 353 = .ok (.aload_n 1, 1) := by decide +kernel
theorem dL_law_354 : decode cL_law 354 = .ok (.aload_n 0, 1) := by decide +kernel
theorem dL_law_355 : decode cL_law 355 = .ok (.iload_n 3, 1) := by decide +kernel
theorem dL_law_356 : decode cL_law 356 = .ok (.iconst 1, 1) := by decide +kernel
theorem dL_law_357 : decode cL_law 357 = .ok (.iadd, 1) := by decide +kernel
theorem dL_law_358 : decode cL_law 358 = .ok (.iaload, 1) := by decide +kernel
theorem dL_law_359 : decode cL_law 359 = .ok (.aload_n 0, 1) := by decide +kernel
theorem dL_law_360 : decode cL_law 360 = .ok (.iload_n 3, 1) := by decide +kernel
theorem dL_law_361 : decode cL_law 361 = .ok (.iconst 2, 1) := by decide +kernel
theorem dL_law_362 : decode cL_law 362 = .ok (.iadd, 1) := by decide +kernel
theorem dL_law_363 : decode cL_law 363 = .ok (.iaload, 1) := by decide +kernel
theorem dL_law_364 : decode cL_law 364 = .ok (.aload_n 0, 1) := by decide +kernel
theorem dL_law_365 : decode cL_law 365 = .ok (.iload_n 3, 1) := by decide +kernel
theorem dL_law_366 : decode cL_law 366 = .ok (.iconst 3, 1) := by decide +kernel
theorem dL_law_367 : decode cL_law 367 = .ok (.iadd, 1) := by decide +kernel
theorem dL_law_368 : decode cL_law 368 = .ok (.iaload, 1) := by decide +kernel
theorem dL_law_369 : decode cL_law 369 = .ok (.ifCond .eq 7, 3) := by decide +kernel
theorem dL_law_372 : decode cL_law 372 = .ok (.iconst 1, 1) := by decide +kernel
theorem dL_law_373 : decode cL_law 373 = .ok (.goto 4, 3) := by decide +kernel
theorem dL_law_376 : decode cL_law 376 = .ok (.iconst 0, 1) := by decide +kernel
theorem dL_law_377 : decode cL_law 377 = .ok (.invokevirtual 36, 3) := by decide +kernel
theorem dL_law_380 : decode cL_law 380 = .ok (.aload_n 2, 1) := by decide +kernel
theorem dL_law_381 : decode cL_law 381 = .ok (.aload_n 0, 1) := by decide +kernel
theorem dL_law_382 : decode cL_law 382 = .ok (.iload_n 3, 1) := by decide +kernel
theorem dL_law_383 : decode cL_law 383 = .ok (.iconst 1, 1) := by decide +kernel
theorem dL_law_384 : decode cL_law 384 = .ok (.iadd, 1) := by decide +kernel
theorem dL_law_385 : decode cL_law 385 = .ok (.iaload, 1) := by decide +kernel
theorem dL_law_386 : decode cL_law 386 = .ok (.aload_n 0, 1) := by decide +kernel
theorem dL_law_387 : decode cL_law 387 = .ok (.iload_n 3, 1) := by decide +kernel
theorem dL_law_388 : decode cL_law 388 = .ok (.iconst 2, 1) := by decide +kernel
theorem dL_law_389 : decode cL_law 389 = .ok (.iadd, 1) := by decide +kernel
theorem dL_law_390 : decode cL_law 390 = .ok (.iaload, 1) := by decide +kernel
theorem dL_law_391 : decode cL_law 391 = .ok (.aload_n 0, 1) := by decide +kernel
theorem dL_law_392 : decode cL_law 392 = .ok (.iload_n 3, 1) := by decide +kernel
theorem dL_law_393 : decode cL_law 393 = .ok (.iconst 3, 1) := by decide +kernel
theorem dL_law_394 : decode cL_law 394 = .ok (.iadd, 1) := by decide +kernel
theorem dL_law_395 : decode cL_law 395 = .ok (.iaload, 1) := by decide +kernel
theorem dL_law_396 : decode cL_law 396 = .ok (.ifCond .eq 7, 3) := by decide +kernel
theorem dL_law_399 : decode cL_law 399 = .ok (.iconst 1, 1) := by decide +kernel
theorem dL_law_400 : decode cL_law 400 = .ok (.goto 4, 3) := by decide +kernel
theorem dL_law_403 : decode cL_law 403 = .ok (.iconst 0, 1) := by decide +kernel
theorem dL_law_404 : decode cL_law 404 = .ok (.invokevirtual 40, 3) := by decide +kernel
theorem dL_law_407 : decode cL_law 407 = .ok (.if_icmp .eq 748, 3) := by decide +kernel
theorem dL_law_410 : decode cL_law 410 = .ok (.iconst 0, 1) := by decide +kernel
theorem dL_law_411 : decode cL_law 411 = .ok (.ireturn, 1) := by decide +kernel
theorem dL_law_412 : decode cL_law 412 = .ok (.aload_n 1, 1) := by decide +kernel
theorem dL_law_413 : decode cL_law 413 = .ok (.aload_n 0, 1) := by decide +kernel
theorem dL_law_414 : decode cL_law 414 = .ok (.iload_n 3, 1) := by decide +kernel
theorem dL_law_415 : decode cL_law 415 = .ok (.iconst 1, 1) := by decide +kernel
theorem dL_law_416 : decode cL_law 416 = .ok (.iadd, 1) := by decide +kernel
theorem dL_law_417 : decode cL_law 417 = .ok (.iaload, 1) := by decide +kernel
theorem dL_law_418 : decode cL_law 418 = .ok (.aload_n 0, 1) := by decide +kernel
theorem dL_law_419 : decode cL_law 419 = .ok (.iload_n 3, 1) := by decide +kernel
theorem dL_law_420 : decode cL_law 420 = .ok (.iconst 2, 1) := by decide +kernel
theorem dL_law_421 : decode cL_law 421 = .ok (.iadd, 1) := by decide +kernel
theorem dL_law_422 : decode cL_law 422 = .ok (.iaload, 1) := by decide +kernel
theorem dL_law_423 : decode cL_law 423 = .ok (.aload_n 0, 1) := by decide +kernel
theorem dL_law_424 : decode cL_law 424 = .ok (.iload_n 3, 1) := by decide +kernel
theorem dL_law_425 : decode cL_law 425 = .ok (.iconst 3, 1) := by decide +kernel
theorem dL_law_426 : decode cL_law 426 = .ok (.iadd, 1) := by decide +kernel
theorem dL_law_427 : decode cL_law 427 = .ok (.iaload, 1) := by decide +kernel
theorem dL_law_428 : decode cL_law 428 = .ok (.invokevirtual 41, 3) := by decide +kernel
theorem dL_law_431 : decode cL_law 431 = .ok (.aload_n 2, 1) := by decide +kernel
theorem dL_law_432 : decode cL_law 432 = .ok (.aload_n 0, 1) := by decide +kernel
theorem dL_law_433 : decode cL_law 433 = .ok (.iload_n 3, 1) := by decide +kernel
theorem dL_law_434 : decode cL_law 434 = .ok (.iconst 1, 1) := by decide +kernel
theorem dL_law_435 : decode cL_law 435 = .ok (.iadd, 1) := by decide +kernel
theorem dL_law_436 : decode cL_law 436 = .ok (.iaload, 1) := by decide +kernel
theorem dL_law_437 : decode cL_law 437 = .ok (.aload_n 0, 1) := by decide +kernel
theorem dL_law_438 : decode cL_law 438 = .ok (.iload_n 3, 1) := by decide +kernel
theorem dL_law_439 : decode cL_law 439 = .ok (.iconst 2, 1) := by decide +kernel
theorem dL_law_440 : decode cL_law 440 = .ok (.iadd, 1) := by decide +kernel
theorem dL_law_441 : decode cL_law 441 = .ok (.iaload, 1) := by decide +kernel
theorem dL_law_442 : decode cL_law 442 = .ok (.aload_n 0, 1) := by decide +kernel
theorem dL_law_443 : decode cL_law 443 = .ok (.iload_n 3, 1) := by decide +kernel
theorem dL_law_444 : decode cL_law 444 = .ok (.iconst 3, 1) := by decide +kernel
theorem dL_law_445 : decode cL_law 445 = .ok (.iadd, 1) := by decide +kernel
theorem dL_law_446 : decode cL_law 446 = .ok (.iaload, 1) := by decide +kernel
theorem dL_law_447 : decode cL_law 447 = .ok (.invokevirtual 44, 3) := by decide +kernel
theorem dL_law_450 : decode cL_law 450 = .ok (.if_icmp .eq 705, 3) := by decide +kernel
theorem dL_law_453 : decode cL_law 453 = .ok (.iconst 0, 1) := by decide +kernel
theorem dL_law_454 : decode cL_law 454 = .ok (.ireturn, 1) := by decide +kernel
theorem dL_law_455 : decode cL_law 455 = .ok (.aload_n 1, 1) := by decide +kernel
theorem dL_law_456 : decode cL_law 456 = .ok (.aload_n 0, 1) := by decide +kernel
theorem dL_law_457 : decode cL_law 457 = .ok (.iload_n 3, 1) := by decide +kernel
theorem dL_law_458 : decode cL_law 458 = .ok (.iconst 1, 1) := by decide +kernel
theorem dL_law_459 : decode cL_law 459 = .ok (.iadd, 1) := by decide +kernel
theorem dL_law_460 : decode cL_law 460 = .ok (.iaload, 1) := by decide +kernel
theorem dL_law_461 : decode cL_law 461 = .ok (.aload_n 0, 1) := by decide +kernel
theorem dL_law_462 : decode cL_law 462 = .ok (.iload_n 3, 1) := by decide +kernel
theorem dL_law_463 : decode cL_law 463 = .ok (.iconst 2, 1) := by decide +kernel
theorem dL_law_464 : decode cL_law 464 = .ok (.iadd, 1) := by decide +kernel
theorem dL_law_465 : decode cL_law 465 = .ok (.iaload, 1) := by decide +kernel
theorem dL_law_466 : decode cL_law 466 = .ok (.aload_n 0, 1) := by decide +kernel
theorem dL_law_467 : decode cL_law 467 = .ok (.iload_n 3, 1) := by decide +kernel
theorem dL_law_468 : decode cL_law 468 = .ok (.iconst 3, 1) := by decide +kernel
theorem dL_law_469 : decode cL_law 469 = .ok (.iadd, 1) := by decide +kernel
theorem dL_law_470 : decode cL_law 470 = .ok (.iaload, 1) := by decide +kernel
theorem dL_law_471 : decode cL_law 471 = .ok (.aload_n 0, 1) := by decide +kernel
theorem dL_law_472 : decode cL_law 472 = .ok (.iload_n 3, 1) := by decide +kernel
theorem dL_law_473 : decode cL_law 473 = .ok (.iconst 4, 1) := by decide +kernel
theorem dL_law_474 : decode cL_law 474 = .ok (.iadd, 1) := by decide +kernel
theorem dL_law_475 : decode cL_law 475 = .ok (.iaload, 1) := by decide +kernel
theorem dL_law_476 : decode cL_law 476 = .ok (.invokevirtual 45, 3) := by decide +kernel
theorem dL_law_479 : decode cL_law 479 = .ok (.aload_n 2, 1) := by decide +kernel
theorem dL_law_480 : decode cL_law 480 = .ok (.aload_n 0, 1) := by decide +kernel
theorem dL_law_481 : decode cL_law 481 = .ok (.iload_n 3, 1) := by decide +kernel
theorem dL_law_482 : decode cL_law 482 = .ok (.iconst 1, 1) := by decide +kernel
theorem dL_law_483 : decode cL_law 483 = .ok (.iadd, 1) := by decide +kernel
theorem dL_law_484 : decode cL_law 484 = .ok (.iaload, 1) := by decide +kernel
theorem dL_law_485 : decode cL_law 485 = .ok (.aload_n 0, 1) := by decide +kernel
theorem dL_law_486 : decode cL_law 486 = .ok (.iload_n 3, 1) := by decide +kernel
theorem dL_law_487 : decode cL_law 487 = .ok (.iconst 2, 1) := by decide +kernel
theorem dL_law_488 : decode cL_law 488 = .ok (.iadd, 1) := by decide +kernel
theorem dL_law_489 : decode cL_law 489 = .ok (.iaload, 1) := by decide +kernel
theorem dL_law_490 : decode cL_law 490 = .ok (.aload_n 0, 1) := by decide +kernel
theorem dL_law_491 : decode cL_law 491 = .ok (.iload_n 3, 1) := by decide +kernel
theorem dL_law_492 : decode cL_law 492 = .ok (.iconst 3, 1) := by decide +kernel
theorem dL_law_493 : decode cL_law 493 = .ok (.iadd, 1) := by decide +kernel
theorem dL_law_494 : decode cL_law 494 = .ok (.iaload, 1) := by decide +kernel
theorem dL_law_495 : decode cL_law 495 = .ok (.aload_n 0, 1) := by decide +kernel
theorem dL_law_496 : decode cL_law 496 = .ok (.iload_n 3, 1) := by decide +kernel
theorem dL_law_497 : decode cL_law 497 = .ok (.iconst 4, 1) := by decide +kernel
theorem dL_law_498 : decode cL_law 498 = .ok (.iadd, 1) := by decide +kernel
theorem dL_law_499 : decode cL_law 499 = .ok (.iaload, 1) := by decide +kernel
theorem dL_law_500 : decode cL_law 500 = .ok (.invokevirtual 48, 3) := by decide +kernel
theorem dL_law_503 : decode cL_law 503 = .ok (.if_icmp .eq 652, 3) := by decide +kernel
theorem dL_law_506 : decode cL_law 506 = .ok (.iconst 0, 1) := by decide +kernel
theorem dL_law_507 : decode cL_law 507 = .ok (.ireturn, 1) := by decide +kernel
theorem dL_law_508 : decode cL_law 508 = .ok (.aload_n 1, 1) := by decide +kernel
theorem dL_law_509 : decode cL_law 509 = .ok (.aload_n 0, 1) := by decide +kernel
theorem dL_law_510 : decode cL_law 510 = .ok (.iload_n 3, 1) := by decide +kernel
theorem dL_law_511 : decode cL_law 511 = .ok (.iconst 1, 1) := by decide +kernel
theorem dL_law_512 : decode cL_law 512 = .ok (.iadd, 1) := by decide +kernel
theorem dL_law_513 : decode cL_law 513 = .ok (.iaload, 1) := by decide +kernel
theorem dL_law_514 : decode cL_law 514 = .ok (.aload_n 0, 1) := by decide +kernel
theorem dL_law_515 : decode cL_law 515 = .ok (.iload_n 3, 1) := by decide +kernel
theorem dL_law_516 : decode cL_law 516 = .ok (.iconst 2, 1) := by decide +kernel
theorem dL_law_517 : decode cL_law 517 = .ok (.iadd, 1) := by decide +kernel
theorem dL_law_518 : decode cL_law 518 = .ok (.iaload, 1) := by decide +kernel
theorem dL_law_519 : decode cL_law 519 = .ok (.invokevirtual 49, 3) := by decide +kernel
theorem dL_law_522 : decode cL_law 522 = .ok (.aload_n 2, 1) := by decide +kernel
theorem dL_law_523 : decode cL_law 523 = .ok (.aload_n 0, 1) := by decide +kernel
theorem dL_law_524 : decode cL_law 524 = .ok (.iload_n 3, 1) := by decide +kernel
theorem dL_law_525 : decode cL_law 525 = .ok (.iconst 1, 1) := by decide +kernel
theorem dL_law_526 : decode cL_law 526 = .ok (.iadd, 1) := by decide +kernel
theorem dL_law_527 : decode cL_law 527 = .ok (.iaload, 1) := by decide +kernel
theorem dL_law_528 : decode cL_law 528 = .ok (.aload_n 0, 1) := by decide +kernel
theorem dL_law_529 : decode cL_law 529 = .ok (.iload_n 3, 1) := by decide +kernel
theorem dL_law_530 : decode cL_law 530 = .ok (.iconst 2, 1) := by decide +kernel
theorem dL_law_531 : decode cL_law 531 = .ok (.iadd, 1) := by decide +kernel
theorem dL_law_532 : decode cL_law 532 = .ok (.iaload, 1) := by decide +kernel
theorem dL_law_533 : decode cL_law 533 = .ok (.invokevirtual 52, 3) := by decide +kernel
theorem dL_law_536 : decode cL_law 536 = .ok (.if_icmp .eq 619, 3) := by decide +kernel
theorem dL_law_539 : decode cL_law 539 = .ok (.iconst 0, 1) := by decide +kernel
theorem dL_law_540 : decode cL_law 540 = .ok (.ireturn, 1) := by decide +kernel
theorem dL_law_541 : decode cL_law 541 = .ok (.aload_n 1, 1) := by decide +kernel
theorem dL_law_542 : decode cL_law 542 = .ok (.aload_n 0, 1) := by decide +kernel
theorem dL_law_543 : decode cL_law 543 = .ok (.iload_n 3, 1) := by decide +kernel
theorem dL_law_544 : decode cL_law 544 = .ok (.iconst 1, 1) := by decide +kernel
theorem dL_law_545 : decode cL_law 545 = .ok (.iadd, 1) := by decide +kernel
theorem dL_law_546 : decode cL_law 546 = .ok (.iaload, 1) := by decide +kernel
theorem dL_law_547 : decode cL_law 547 = .ok (.aload_n 0, 1) := by decide +kernel
theorem dL_law_548 : decode cL_law 548 = .ok (.iload_n 3, 1) := by decide +kernel
theorem dL_law_549 : decode cL_law 549 = .ok (.iconst 2, 1) := by decide +kernel
theorem dL_law_550 : decode cL_law 550 = .ok (.iadd, 1) := by decide +kernel
theorem dL_law_551 : decode cL_law 551 = .ok (.iaload, 1) := by decide +kernel
theorem dL_law_552 : decode cL_law 552 = .ok (.aload_n 0, 1) := by decide +kernel
theorem dL_law_553 : decode cL_law 553 = .ok (.iload_n 3, 1) := by decide +kernel
theorem dL_law_554 : decode cL_law 554 = .ok (.iconst 3, 1) := by decide +kernel
theorem dL_law_555 : decode cL_law 555 = .ok (.iadd, 1) := by decide +kernel
theorem dL_law_556 : decode cL_law 556 = .ok (.iaload, 1) := by decide +kernel
theorem dL_law_557 : decode cL_law 557 = .ok (.aload_n 0, 1) := by decide +kernel
theorem dL_law_558 : decode cL_law 558 = .ok (.iload_n 3, 1) := by decide +kernel
theorem dL_law_559 : decode cL_law 559 = .ok (.iconst 4, 1) := by decide +kernel
theorem dL_law_560 : decode cL_law 560 = .ok (.iadd, 1) := by decide +kernel
theorem dL_law_561 : decode cL_law 561 = .ok (.iaload, 1) := by decide +kernel
theorem dL_law_562 : decode cL_law 562 = .ok (.invokevirtual 53, 3) := by decide +kernel
theorem dL_law_565 : decode cL_law 565 = .ok (.aload_n 2, 1) := by decide +kernel
theorem dL_law_566 : decode cL_law 566 = .ok (.aload_n 0, 1) := by decide +kernel
theorem dL_law_567 : decode cL_law 567 = .ok (.iload_n 3, 1) := by decide +kernel
theorem dL_law_568 : decode cL_law 568 = .ok (.iconst 1, 1) := by decide +kernel
theorem dL_law_569 : decode cL_law 569 = .ok (.iadd, 1) := by decide +kernel
theorem dL_law_570 : decode cL_law 570 = .ok (.iaload, 1) := by decide +kernel
theorem dL_law_571 : decode cL_law 571 = .ok (.aload_n 0, 1) := by decide +kernel
theorem dL_law_572 : decode cL_law 572 = .ok (.iload_n 3, 1) := by decide +kernel
theorem dL_law_573 : decode cL_law 573 = .ok (.iconst 2, 1) := by decide +kernel
theorem dL_law_574 : decode cL_law 574 = .ok (.iadd, 1) := by decide +kernel
theorem dL_law_575 : decode cL_law 575 = .ok (.iaload, 1) := by decide +kernel
theorem dL_law_576 : decode cL_law 576 = .ok (.aload_n 0, 1) := by decide +kernel
theorem dL_law_577 : decode cL_law 577 = .ok (.iload_n 3, 1) := by decide +kernel
theorem dL_law_578 : decode cL_law 578 = .ok (.iconst 3, 1) := by decide +kernel
theorem dL_law_579 : decode cL_law 579 = .ok (.iadd, 1) := by decide +kernel
theorem dL_law_580 : decode cL_law 580 = .ok (.iaload, 1) := by decide +kernel
theorem dL_law_581 : decode cL_law 581 = .ok (.aload_n 0, 1) := by decide +kernel
theorem dL_law_582 : decode cL_law 582 = .ok (.iload_n 3, 1) := by decide +kernel
theorem dL_law_583 : decode cL_law 583 = .ok (.iconst 4, 1) := by decide +kernel
theorem dL_law_584 : decode cL_law 584 = .ok (.iadd, 1) := by decide +kernel
theorem dL_law_585 : decode cL_law 585 = .ok (.iaload, 1) := by decide +kernel
theorem dL_law_586 : decode cL_law 586 = .ok (.invokevirtual 56, 3) := by decide +kernel
theorem dL_law_589 : decode cL_law 589 = .ok (.if_icmp .eq 566, 3) := by decide +kernel
theorem dL_law_592 : decode cL_law 592 = .ok (.iconst 0, 1) := by decide +kernel
theorem dL_law_593 : decode cL_law 593 = .ok (.ireturn, 1) := by decide +kernel
theorem dL_law_594 : decode cL_law 594 = .ok (.aload_n 1, 1) := by decide +kernel
theorem dL_law_595 : decode cL_law 595 = .ok (.aload_n 0, 1) := by decide +kernel
theorem dL_law_596 : decode cL_law 596 = .ok (.iload_n 3, 1) := by decide +kernel
theorem dL_law_597 : decode cL_law 597 = .ok (.iconst 1, 1) := by decide +kernel
theorem dL_law_598 : decode cL_law 598 = .ok (.iadd, 1) := by decide +kernel
theorem dL_law_599 : decode cL_law 599 = .ok (.iaload, 1) := by decide +kernel
theorem dL_law_600 : decode cL_law 600 = .ok (.aload_n 0, 1) := by decide +kernel
theorem dL_law_601 : decode cL_law 601 = .ok (.iload_n 3, 1) := by decide +kernel
theorem dL_law_602 : decode cL_law 602 = .ok (.iconst 2, 1) := by decide +kernel
theorem dL_law_603 : decode cL_law 603 = .ok (.iadd, 1) := by decide +kernel
theorem dL_law_604 : decode cL_law 604 = .ok (.iaload, 1) := by decide +kernel
theorem dL_law_605 : decode cL_law 605 = .ok (.aload_n 0, 1) := by decide +kernel
theorem dL_law_606 : decode cL_law 606 = .ok (.iload_n 3, 1) := by decide +kernel
theorem dL_law_607 : decode cL_law 607 = .ok (.iconst 3, 1) := by decide +kernel
theorem dL_law_608 : decode cL_law 608 = .ok (.iadd, 1) := by decide +kernel
theorem dL_law_609 : decode cL_law 609 = .ok (.iaload, 1) := by decide +kernel
theorem dL_law_610 : decode cL_law 610 = .ok (.ifCond .eq 7, 3) := by decide +kernel
theorem dL_law_613 : decode cL_law 613 = .ok (.iconst 1, 1) := by decide +kernel
theorem dL_law_614 : decode cL_law 614 = .ok (.goto 4, 3) := by decide +kernel
theorem dL_law_617 : decode cL_law 617 = .ok (.iconst 0, 1) := by decide +kernel
theorem dL_law_618 : decode cL_law 618 = .ok (.invokevirtual 57, 3) := by decide +kernel
theorem dL_law_621 : decode cL_law 621 = .ok (.aload_n 2, 1) := by decide +kernel
theorem dL_law_622 : decode cL_law 622 = .ok (.aload_n 0, 1) := by decide +kernel
theorem dL_law_623 : decode cL_law 623 = .ok (.iload_n 3, 1) := by decide +kernel
theorem dL_law_624 : decode cL_law 624 = .ok (.iconst 1, 1) := by decide +kernel
theorem dL_law_625 : decode cL_law 625 = .ok (.iadd, 1) := by decide +kernel
theorem dL_law_626 : decode cL_law 626 = .ok (.iaload, 1) := by decide +kernel
theorem dL_law_627 : decode cL_law 627 = .ok (.aload_n 0, 1) := by decide +kernel
theorem dL_law_628 : decode cL_law 628 = .ok (.iload_n 3, 1) := by decide +kernel
theorem dL_law_629 : decode cL_law 629 = .ok (.iconst 2, 1) := by decide +kernel
theorem dL_law_630 : decode cL_law 630 = .ok (.iadd, 1) := by decide +kernel
theorem dL_law_631 : decode cL_law 631 = .ok (.iaload, 1) := by decide +kernel
theorem dL_law_632 : decode cL_law 632 = .ok (.aload_n 0, 1) := by decide +kernel
theorem dL_law_633 : decode cL_law 633 = .ok (.iload_n 3, 1) := by decide +kernel
theorem dL_law_634 : decode cL_law 634 = .ok (.iconst 3, 1) := by decide +kernel
theorem dL_law_635 : decode cL_law 635 = .ok (.iadd, 1) := by decide +kernel
theorem dL_law_636 : decode cL_law 636 = .ok (.iaload, 1) := by decide +kernel
theorem dL_law_637 : decode cL_law 637 = .ok (.ifCond .eq 7, 3) := by decide +kernel
theorem dL_law_640 : decode cL_law 640 = .ok (.iconst 1, 1) := by decide +kernel
theorem dL_law_641 : decode cL_law 641 = .ok (.goto 4, 3) := by decide +kernel
theorem dL_law_644 : decode cL_law 644 = .ok (.iconst 0, 1) := by decide +kernel
theorem dL_law_645 : decode cL_law 645 = .ok (.invokevirtual 60, 3) := by decide +kernel
theorem dL_law_648 : decode cL_law 648 = .ok (.if_icmp .eq 507, 3) := by decide +kernel
theorem dL_law_651 : decode cL_law 651 = .ok (.iconst 0, 1) := by decide +kernel
theorem dL_law_652 : decode cL_law 652 = .ok (.ireturn, 1) := by decide +kernel
theorem dL_law_653 : decode cL_law 653 = .ok (.aload_n 1, 1) := by decide +kernel
theorem dL_law_654 : decode cL_law 654 = .ok (.aload_n 0, 1) := by decide +kernel
theorem dL_law_655 : decode cL_law 655 = .ok (.iload_n 3, 1) := by decide +kernel
theorem dL_law_656 : decode cL_law 656 = .ok (.iconst 1, 1) := by decide +kernel
theorem dL_law_657 : decode cL_law 657 = .ok (.iadd, 1) := by decide +kernel
theorem dL_law_658 : decode cL_law 658 = .ok (.iaload, 1) := by decide +kernel
theorem dL_law_659 : decode cL_law 659 = .ok (.aload_n 0, 1) := by decide +kernel
theorem dL_law_660 : decode cL_law 660 = .ok (.iload_n 3, 1) := by decide +kernel
theorem dL_law_661 : decode cL_law 661 = .ok (.iconst 2, 1) := by decide +kernel
theorem dL_law_662 : decode cL_law 662 = .ok (.iadd, 1) := by decide +kernel
theorem dL_law_663 : decode cL_law 663 = .ok (.iaload, 1) := by decide +kernel
theorem dL_law_664 : decode cL_law 664 = .ok (.aload_n 0, 1) := by decide +kernel
theorem dL_law_665 : decode cL_law 665 = .ok (.iload_n 3, 1) := by decide +kernel
theorem dL_law_666 : decode cL_law 666 = .ok (.iconst 3, 1) := by decide +kernel
theorem dL_law_667 : decode cL_law 667 = .ok (.iadd, 1) := by decide +kernel
theorem dL_law_668 : decode cL_law 668 = .ok (.iaload, 1) := by decide +kernel
theorem dL_law_669 : decode cL_law 669 = .ok (.aload_n 0, 1) := by decide +kernel
theorem dL_law_670 : decode cL_law 670 = .ok (.iload_n 3, 1) := by decide +kernel
theorem dL_law_671 : decode cL_law 671 = .ok (.iconst 4, 1) := by decide +kernel
theorem dL_law_672 : decode cL_law 672 = .ok (.iadd, 1) := by decide +kernel
theorem dL_law_673 : decode cL_law 673 = .ok (.iaload, 1) := by decide +kernel
theorem dL_law_674 : decode cL_law 674 = .ok (.invokevirtual 61, 3) := by decide +kernel
theorem dL_law_677 : decode cL_law 677 = .ok (.aload_n 2, 1) := by decide +kernel
theorem dL_law_678 : decode cL_law 678 = .ok (.aload_n 0, 1) := by decide +kernel
theorem dL_law_679 : decode cL_law 679 = .ok (.iload_n 3, 1) := by decide +kernel
theorem dL_law_680 : decode cL_law 680 = .ok (.iconst 1, 1) := by decide +kernel
theorem dL_law_681 : decode cL_law 681 = .ok (.iadd, 1) := by decide +kernel
theorem dL_law_682 : decode cL_law 682 = .ok (.iaload, 1) := by decide +kernel
theorem dL_law_683 : decode cL_law 683 = .ok (.aload_n 0, 1) := by decide +kernel
theorem dL_law_684 : decode cL_law 684 = .ok (.iload_n 3, 1) := by decide +kernel
theorem dL_law_685 : decode cL_law 685 = .ok (.iconst 2, 1) := by decide +kernel
theorem dL_law_686 : decode cL_law 686 = .ok (.iadd, 1) := by decide +kernel
theorem dL_law_687 : decode cL_law 687 = .ok (.iaload, 1) := by decide +kernel
theorem dL_law_688 : decode cL_law 688 = .ok (.aload_n 0, 1) := by decide +kernel
theorem dL_law_689 : decode cL_law 689 = .ok (.iload_n 3, 1) := by decide +kernel
theorem dL_law_690 : decode cL_law 690 = .ok (.iconst 3, 1) := by decide +kernel
theorem dL_law_691 : decode cL_law 691 = .ok (.iadd, 1) := by decide +kernel
theorem dL_law_692 : decode cL_law 692 = .ok (.iaload, 1) := by decide +kernel
theorem dL_law_693 : decode cL_law 693 = .ok (.aload_n 0, 1) := by decide +kernel
theorem dL_law_694 : decode cL_law 694 = .ok (.iload_n 3, 1) := by decide +kernel
theorem dL_law_695 : decode cL_law 695 = .ok (.iconst 4, 1) := by decide +kernel
theorem dL_law_696 : decode cL_law 696 = .ok (.iadd, 1) := by decide +kernel
theorem dL_law_697 : decode cL_law 697 = .ok (.iaload, 1) := by decide +kernel
theorem dL_law_698 : decode cL_law 698 = .ok (.invokevirtual 64, 3) := by decide +kernel
theorem dL_law_701 : decode cL_law 701 = .ok (.if_icmp .eq 454, 3) := by decide +kernel
theorem dL_law_704 : decode cL_law 704 = .ok (.iconst 0, 1) := by decide +kernel
theorem dL_law_705 : decode cL_law 705 = .ok (.ireturn, 1) := by decide +kernel
theorem dL_law_706 : decode cL_law 706 = .ok (.aload_n 1, 1) := by decide +kernel
theorem dL_law_707 : decode cL_law 707 = .ok (.aload_n 0, 1) := by decide +kernel
theorem dL_law_708 : decode cL_law 708 = .ok (.iload_n 3, 1) := by decide +kernel
theorem dL_law_709 : decode cL_law 709 = .ok (.iconst 1, 1) := by decide +kernel
theorem dL_law_710 : decode cL_law 710 = .ok (.iadd, 1) := by decide +kernel
theorem dL_law_711 : decode cL_law 711 = .ok (.iaload, 1) := by decide +kernel
theorem dL_law_712 : decode cL_law 712 = .ok (.aload_n 0, 1) := by decide +kernel
theorem dL_law_713 : decode cL_law 713 = .ok (.iload_n 3, 1) := by decide +kernel
theorem dL_law_714 : decode cL_law 714 = .ok (.iconst 2, 1) := by decide +kernel
theorem dL_law_715 : decode cL_law 715 = .ok (.iadd, 1) := by decide +kernel
theorem dL_law_716 : decode cL_law 716 = .ok (.iaload, 1) := by decide +kernel
theorem dL_law_717 : decode cL_law 717 = .ok (.invokevirtual 65, 3) := by decide +kernel
theorem dL_law_720 : decode cL_law 720 = .ok (.aload_n 2, 1) := by decide +kernel
theorem dL_law_721 : decode cL_law 721 = .ok (.aload_n 0, 1) := by decide +kernel
theorem dL_law_722 : decode cL_law 722 = .ok (.iload_n 3, 1) := by decide +kernel
theorem dL_law_723 : decode cL_law 723 = .ok (.iconst 1, 1) := by decide +kernel
theorem dL_law_724 : decode cL_law 724 = .ok (.iadd, 1) := by decide +kernel
theorem dL_law_725 : decode cL_law 725 = .ok (.iaload, 1) := by decide +kernel
theorem dL_law_726 : decode cL_law 726 = .ok (.aload_n 0, 1) := by decide +kernel
theorem dL_law_727 : decode cL_law 727 = .ok (.iload_n 3, 1) := by decide +kernel
theorem dL_law_728 : decode cL_law 728 = .ok (.iconst 2, 1) := by decide +kernel
theorem dL_law_729 : decode cL_law 729 = .ok (.iadd, 1) := by decide +kernel
theorem dL_law_730 : decode cL_law 730 = .ok (.iaload, 1) := by decide +kernel
theorem dL_law_731 : decode cL_law 731 = .ok (.invokevirtual 68, 3) := by decide +kernel
theorem dL_law_734 : decode cL_law 734 = .ok (.if_icmp .eq 421, 3) := by decide +kernel
theorem dL_law_737 : decode cL_law 737 = .ok (.iconst 0, 1) := by decide +kernel
theorem dL_law_738 : decode cL_law 738 = .ok (.ireturn, 1) := by decide +kernel
theorem dL_law_739 : decode cL_law 739 = .ok (.aload_n 1, 1) := by decide +kernel
theorem dL_law_740 : decode cL_law 740 = .ok (.aload_n 0, 1) := by decide +kernel
theorem dL_law_741 : decode cL_law 741 = .ok (.iload_n 3, 1) := by decide +kernel
theorem dL_law_742 : decode cL_law 742 = .ok (.iconst 1, 1) := by decide +kernel
theorem dL_law_743 : decode cL_law 743 = .ok (.iadd, 1) := by decide +kernel
theorem dL_law_744 : decode cL_law 744 = .ok (.iaload, 1) := by decide +kernel
theorem dL_law_745 : decode cL_law 745 = .ok (.aload_n 0, 1) := by decide +kernel
theorem dL_law_746 : decode cL_law 746 = .ok (.iload_n 3, 1) := by decide +kernel
theorem dL_law_747 : decode cL_law 747 = .ok (.iconst 2, 1) := by decide +kernel
theorem dL_law_748 : decode cL_law 748 = .ok (.iadd, 1) := by decide +kernel
theorem dL_law_749 : decode cL_law 749 = .ok (.iaload, 1) := by decide +kernel
theorem dL_law_750 : decode cL_law 750 = .ok (.aload_n 0, 1) := by decide +kernel
theorem dL_law_751 : decode cL_law 751 = .ok (.iload_n 3, 1) := by decide +kernel
theorem dL_law_752 : decode cL_law 752 = .ok (.iconst 3, 1) := by decide +kernel
theorem dL_law_753 : decode cL_law 753 = .ok (.iadd, 1) := by decide +kernel
theorem dL_law_754 : decode cL_law 754 = .ok (.iaload, 1) := by decide +kernel
theorem dL_law_755 : decode cL_law 755 = .ok (.invokevirtual 69, 3) := by decide +kernel
theorem dL_law_758 : decode cL_law 758 = .ok (.aload_n 2, 1) := by decide +kernel
theorem dL_law_759 : decode cL_law 759 = .ok (.aload_n 0, 1) := by decide +kernel
theorem dL_law_760 : decode cL_law 760 = .ok (.iload_n 3, 1) := by decide +kernel
theorem dL_law_761 : decode cL_law 761 = .ok (.iconst 1, 1) := by decide +kernel
theorem dL_law_762 : decode cL_law 762 = .ok (.iadd, 1) := by decide +kernel
theorem dL_law_763 : decode cL_law 763 = .ok (.iaload, 1) := by decide +kernel
theorem dL_law_764 : decode cL_law 764 = .ok (.aload_n 0, 1) := by decide +kernel
theorem dL_law_765 : decode cL_law 765 = .ok (.iload_n 3, 1) := by decide +kernel
theorem dL_law_766 : decode cL_law 766 = .ok (.iconst 2, 1) := by decide +kernel
theorem dL_law_767 : decode cL_law 767 = .ok (.iadd, 1) := by decide +kernel
theorem dL_law_768 : decode cL_law 768 = .ok (.iaload, 1) := by decide +kernel
theorem dL_law_769 : decode cL_law 769 = .ok (.aload_n 0, 1) := by decide +kernel
theorem dL_law_770 : decode cL_law 770 = .ok (.iload_n 3, 1) := by decide +kernel
theorem dL_law_771 : decode cL_law 771 = .ok (.iconst 3, 1) := by decide +kernel
theorem dL_law_772 : decode cL_law 772 = .ok (.iadd, 1) := by decide +kernel
theorem dL_law_773 : decode cL_law 773 = .ok (.iaload, 1) := by decide +kernel
theorem dL_law_774 : decode cL_law 774 = .ok (.invokevirtual 72, 3) := by decide +kernel
theorem dL_law_777 : decode cL_law 777 = .ok (.if_icmp .eq 378, 3) := by decide +kernel
theorem dL_law_780 : decode cL_law 780 = .ok (.iconst 0, 1) := by decide +kernel
theorem dL_law_781 : decode cL_law 781 = .ok (.ireturn, 1) := by decide +kernel
theorem dL_law_782 : decode cL_law 782 = .ok (.aload_n 1, 1) := by decide +kernel
theorem dL_law_783 : decode cL_law 783 = .ok (.aload_n 0, 1) := by decide +kernel
theorem dL_law_784 : decode cL_law 784 = .ok (.iload_n 3, 1) := by decide +kernel
theorem dL_law_785 : decode cL_law 785 = .ok (.iconst 1, 1) := by decide +kernel
theorem dL_law_786 : decode cL_law 786 = .ok (.iadd, 1) := by decide +kernel
theorem dL_law_787 : decode cL_law 787 = .ok (.iaload, 1) := by decide +kernel
theorem dL_law_788 : decode cL_law 788 = .ok (.invokevirtual 73, 3) := by decide +kernel
theorem dL_law_791 : decode cL_law 791 = .ok (.aload_n 2, 1) := by decide +kernel
theorem dL_law_792 : decode cL_law 792 = .ok (.aload_n 0, 1) := by decide +kernel
theorem dL_law_793 : decode cL_law 793 = .ok (.iload_n 3, 1) := by decide +kernel
theorem dL_law_794 : decode cL_law 794 = .ok (.iconst 1, 1) := by decide +kernel
theorem dL_law_795 : decode cL_law 795 = .ok (.iadd, 1) := by decide +kernel
theorem dL_law_796 : decode cL_law 796 = .ok (.iaload, 1) := by decide +kernel
theorem dL_law_797 : decode cL_law 797 = .ok (.invokevirtual 77, 3) := by decide +kernel
theorem dL_law_800 : decode cL_law 800 = .ok (.if_icmp .eq 355, 3) := by decide +kernel
theorem dL_law_803 : decode cL_law 803 = .ok (.iconst 0, 1) := by decide +kernel
theorem dL_law_804 : decode cL_law 804 = .ok (.ireturn, 1) := by decide +kernel
theorem dL_law_805 : decode cL_law 805 = .ok (.aload_n 1, 1) := by decide +kernel
theorem dL_law_806 : decode cL_law 806 = .ok (.aload_n 0, 1) := by decide +kernel
theorem dL_law_807 : decode cL_law 807 = .ok (.iload_n 3, 1) := by decide +kernel
theorem dL_law_808 : decode cL_law 808 = .ok (.iconst 1, 1) := by decide +kernel
theorem dL_law_809 : decode cL_law 809 = .ok (.iadd, 1) := by decide +kernel
theorem dL_law_810 : decode cL_law 810 = .ok (.iaload, 1) := by decide +kernel
theorem dL_law_811 : decode cL_law 811 = .ok (.invokevirtual 78, 3) := by decide +kernel
theorem dL_law_814 : decode cL_law 814 = .ok (.aload_n 2, 1) := by decide +kernel
theorem dL_law_815 : decode cL_law 815 = .ok (.aload_n 0, 1) := by decide +kernel
theorem dL_law_816 : decode cL_law 816 = .ok (.iload_n 3, 1) := by decide +kernel
theorem dL_law_817 : decode cL_law 817 = .ok (.iconst 1, 1) := by decide +kernel
theorem dL_law_818 : decode cL_law 818 = .ok (.iadd, 1) := by decide +kernel
theorem dL_law_819 : decode cL_law 819 = .ok (.iaload, 1) := by decide +kernel
theorem dL_law_820 : decode cL_law 820 = .ok (.invokevirtual 81, 3) := by decide +kernel
theorem dL_law_823 : decode cL_law 823 = .ok (.if_icmp .eq 332, 3) := by decide +kernel
theorem dL_law_826 : decode cL_law 826 = .ok (.iconst 0, 1) := by decide +kernel
theorem dL_law_827 : decode cL_law 827 = .ok (.ireturn, 1) := by decide +kernel
theorem dL_law_828 : decode cL_law 828 = .ok (.aload_n 1, 1) := by decide +kernel
theorem dL_law_829 : decode cL_law 829 = .ok (.aload_n 0, 1) := by decide +kernel
theorem dL_law_830 : decode cL_law 830 = .ok (.iload_n 3, 1) := by decide +kernel
theorem dL_law_831 : decode cL_law 831 = .ok (.iconst 1, 1) := by decide +kernel
theorem dL_law_832 : decode cL_law 832 = .ok (.iadd, 1) := by decide +kernel
theorem dL_law_833 : decode cL_law 833 = .ok (.iaload, 1) := by decide +kernel
theorem dL_law_834 : decode cL_law 834 = .ok (.invokevirtual 82, 3) := by decide +kernel
theorem dL_law_837 : decode cL_law 837 = .ok (.aload_n 2, 1) := by decide +kernel
theorem dL_law_838 : decode cL_law 838 = .ok (.aload_n 0, 1) := by decide +kernel
theorem dL_law_839 : decode cL_law 839 = .ok (.iload_n 3, 1) := by decide +kernel
theorem dL_law_840 : decode cL_law 840 = .ok (.iconst 1, 1) := by decide +kernel
theorem dL_law_841 : decode cL_law 841 = .ok (.iadd, 1) := by decide +kernel
theorem dL_law_842 : decode cL_law 842 = .ok (.iaload, 1) := by decide +kernel
theorem dL_law_843 : decode cL_law 843 = .ok (.invokevirtual 85, 3) := by decide +kernel
theorem dL_law_846 : decode cL_law 846 = .ok (.if_icmp .eq 309, 3) := by decide +kernel
theorem dL_law_849 : decode cL_law 849 = .ok (.iconst 0, 1) := by decide +kernel
theorem dL_law_850 : decode cL_law 850 = .ok (.ireturn, 1) := by decide +kernel
theorem dL_law_851 : decode cL_law 851 = .ok (.aload_n 1, 1) := by decide +kernel
theorem dL_law_852 : decode cL_law 852 = .ok (.aload_n 0, 1) := by decide +kernel
theorem dL_law_853 : decode cL_law 853 = .ok (.iload_n 3, 1) := by decide +kernel
theorem dL_law_854 : decode cL_law 854 = .ok (.iconst 1, 1) := by decide +kernel
theorem dL_law_855 : decode cL_law 855 = .ok (.iadd, 1) := by decide +kernel
theorem dL_law_856 : decode cL_law 856 = .ok (.iaload, 1) := by decide +kernel
theorem dL_law_857 : decode cL_law 857 = .ok (.invokevirtual 86, 3) := by decide +kernel
theorem dL_law_860 : decode cL_law 860 = .ok (.aload_n 2, 1) := by decide +kernel
theorem dL_law_861 : decode cL_law 861 = .ok (.aload_n 0, 1) := by decide +kernel
theorem dL_law_862 : decode cL_law 862 = .ok (.iload_n 3, 1) := by decide +kernel
theorem dL_law_863 : decode cL_law 863 = .ok (.iconst 1, 1) := by decide +kernel
theorem dL_law_864 : decode cL_law 864 = .ok (.iadd, 1) := by decide +kernel
theorem dL_law_865 : decode cL_law 865 = .ok (.iaload, 1) := by decide +kernel
theorem dL_law_866 : decode cL_law 866 = .ok (.invokevirtual 89, 3) := by decide +kernel
theorem dL_law_869 : decode cL_law 869 = .ok (.if_icmp .eq 286, 3) := by decide +kernel
theorem dL_law_872 : decode cL_law 872 = .ok (.iconst 0, 1) := by decide +kernel
theorem dL_law_873 : decode cL_law 873 = .ok (.ireturn, 1) := by decide +kernel
theorem dL_law_874 : decode cL_law 874 = .ok (.aload_n 1, 1) := by decide +kernel
theorem dL_law_875 : decode cL_law 875 = .ok (.aload_n 0, 1) := by decide +kernel
theorem dL_law_876 : decode cL_law 876 = .ok (.iload_n 3, 1) := by decide +kernel
theorem dL_law_877 : decode cL_law 877 = .ok (.iconst 1, 1) := by decide +kernel
theorem dL_law_878 : decode cL_law 878 = .ok (.iadd, 1) := by decide +kernel
theorem dL_law_879 : decode cL_law 879 = .ok (.iaload, 1) := by decide +kernel
theorem dL_law_880 : decode cL_law 880 = .ok (.aload_n 0, 1) := by decide +kernel
theorem dL_law_881 : decode cL_law 881 = .ok (.iload_n 3, 1) := by decide +kernel
theorem dL_law_882 : decode cL_law 882 = .ok (.iconst 2, 1) := by decide +kernel
theorem dL_law_883 : decode cL_law 883 = .ok (.iadd, 1) := by decide +kernel
theorem dL_law_884 : decode cL_law 884 = .ok (.iaload, 1) := by decide +kernel
theorem dL_law_885 : decode cL_law 885 = .ok (.aload_n 0, 1) := by decide +kernel
theorem dL_law_886 : decode cL_law 886 = .ok (.iload_n 3, 1) := by decide +kernel
theorem dL_law_887 : decode cL_law 887 = .ok (.iconst 3, 1) := by decide +kernel
theorem dL_law_888 : decode cL_law 888 = .ok (.iadd, 1) := by decide +kernel
theorem dL_law_889 : decode cL_law 889 = .ok (.iaload, 1) := by decide +kernel
theorem dL_law_890 : decode cL_law 890 = .ok (.invokevirtual 90, 3) := by decide +kernel
theorem dL_law_893 : decode cL_law 893 = .ok (.aload_n 2, 1) := by decide +kernel
theorem dL_law_894 : decode cL_law 894 = .ok (.aload_n 0, 1) := by decide +kernel
theorem dL_law_895 : decode cL_law 895 = .ok (.iload_n 3, 1) := by decide +kernel
theorem dL_law_896 : decode cL_law 896 = .ok (.iconst 1, 1) := by decide +kernel
theorem dL_law_897 : decode cL_law 897 = .ok (.iadd, 1) := by decide +kernel
theorem dL_law_898 : decode cL_law 898 = .ok (.iaload, 1) := by decide +kernel
theorem dL_law_899 : decode cL_law 899 = .ok (.aload_n 0, 1) := by decide +kernel
theorem dL_law_900 : decode cL_law 900 = .ok (.iload_n 3, 1) := by decide +kernel
theorem dL_law_901 : decode cL_law 901 = .ok (.iconst 2, 1) := by decide +kernel
theorem dL_law_902 : decode cL_law 902 = .ok (.iadd, 1) := by decide +kernel
theorem dL_law_903 : decode cL_law 903 = .ok (.iaload, 1) := by decide +kernel
theorem dL_law_904 : decode cL_law 904 = .ok (.aload_n 0, 1) := by decide +kernel
theorem dL_law_905 : decode cL_law 905 = .ok (.iload_n 3, 1) := by decide +kernel
theorem dL_law_906 : decode cL_law 906 = .ok (.iconst 3, 1) := by decide +kernel
theorem dL_law_907 : decode cL_law 907 = .ok (.iadd, 1) := by decide +kernel
theorem dL_law_908 : decode cL_law 908 = .ok (.iaload, 1) := by decide +kernel
theorem dL_law_909 : decode cL_law 909 = .ok (.invokevirtual 93, 3) := by decide +kernel
theorem dL_law_912 : decode cL_law 912 = .ok (.if_icmp .eq 243, 3) := by decide +kernel
theorem dL_law_915 : decode cL_law 915 = .ok (.iconst 0, 1) := by decide +kernel
theorem dL_law_916 : decode cL_law 916 = .ok (.ireturn, 1) := by decide +kernel
theorem dL_law_917 : decode cL_law 917 = .ok (.aload_n 1, 1) := by decide +kernel
theorem dL_law_918 : decode cL_law 918 = .ok (.aload_n 0, 1) := by decide +kernel
theorem dL_law_919 : decode cL_law 919 = .ok (.iload_n 3, 1) := by decide +kernel
theorem dL_law_920 : decode cL_law 920 = .ok (.iconst 1, 1) := by decide +kernel
theorem dL_law_921 : decode cL_law 921 = .ok (.iadd, 1) := by decide +kernel
theorem dL_law_922 : decode cL_law 922 = .ok (.iaload, 1) := by decide +kernel
theorem dL_law_923 : decode cL_law 923 = .ok (.aload_n 0, 1) := by decide +kernel
theorem dL_law_924 : decode cL_law 924 = .ok (.iload_n 3, 1) := by decide +kernel
theorem dL_law_925 : decode cL_law 925 = .ok (.iconst 2, 1) := by decide +kernel
theorem dL_law_926 : decode cL_law 926 = .ok (.iadd, 1) := by decide +kernel
theorem dL_law_927 : decode cL_law 927 = .ok (.iaload, 1) := by decide +kernel
theorem dL_law_928 : decode cL_law 928 = .ok (.aload_n 0, 1) := by decide +kernel
theorem dL_law_929 : decode cL_law 929 = .ok (.iload_n 3, 1) := by decide +kernel
theorem dL_law_930 : decode cL_law 930 = .ok (.iconst 3, 1) := by decide +kernel
theorem dL_law_931 : decode cL_law 931 = .ok (.iadd, 1) := by decide +kernel
theorem dL_law_932 : decode cL_law 932 = .ok (.iaload, 1) := by decide +kernel
theorem dL_law_933 : decode cL_law 933 = .ok (.aload_n 0, 1) := by decide +kernel
theorem dL_law_934 : decode cL_law 934 = .ok (.iload_n 3, 1) := by decide +kernel
theorem dL_law_935 : decode cL_law 935 = .ok (.iconst 4, 1) := by decide +kernel
theorem dL_law_936 : decode cL_law 936 = .ok (.iadd, 1) := by decide +kernel
theorem dL_law_937 : decode cL_law 937 = .ok (.iaload, 1) := by decide +kernel
theorem dL_law_938 : decode cL_law 938 = .ok (.invokevirtual 94, 3) := by decide +kernel
theorem dL_law_941 : decode cL_law 941 = .ok (.aload_n 2, 1) := by decide +kernel
theorem dL_law_942 : decode cL_law 942 = .ok (.aload_n 0, 1) := by decide +kernel
theorem dL_law_943 : decode cL_law 943 = .ok (.iload_n 3, 1) := by decide +kernel
theorem dL_law_944 : decode cL_law 944 = .ok (.iconst 1, 1) := by decide +kernel
theorem dL_law_945 : decode cL_law 945 = .ok (.iadd, 1) := by decide +kernel
theorem dL_law_946 : decode cL_law 946 = .ok (.iaload, 1) := by decide +kernel
theorem dL_law_947 : decode cL_law 947 = .ok (.aload_n 0, 1) := by decide +kernel
theorem dL_law_948 : decode cL_law 948 = .ok (.iload_n 3, 1) := by decide +kernel
theorem dL_law_949 : decode cL_law 949 = .ok (.iconst 2, 1) := by decide +kernel
theorem dL_law_950 : decode cL_law 950 = .ok (.iadd, 1) := by decide +kernel
theorem dL_law_951 : decode cL_law 951 = .ok (.iaload, 1) := by decide +kernel
theorem dL_law_952 : decode cL_law 952 = .ok (.aload_n 0, 1) := by decide +kernel
theorem dL_law_953 : decode cL_law 953 = .ok (.iload_n 3, 1) := by decide +kernel
theorem dL_law_954 : decode cL_law 954 = .ok (.iconst 3, 1) := by decide +kernel
theorem dL_law_955 : decode cL_law 955 = .ok (.iadd, 1) := by decide +kernel
theorem dL_law_956 : decode cL_law 956 = .ok (.iaload, 1) := by decide +kernel
theorem dL_law_957 : decode cL_law 957 = .ok (.aload_n 0, 1) := by decide +kernel
theorem dL_law_958 : decode cL_law 958 = .ok (.iload_n 3, 1) := by decide +kernel
theorem dL_law_959 : decode cL_law 959 = .ok (.iconst 4, 1) := by decide +kernel
theorem dL_law_960 : decode cL_law 960 = .ok (.iadd, 1) := by decide +kernel
theorem dL_law_961 : decode cL_law 961 = .ok (.iaload, 1) := by decide +kernel
theorem dL_law_962 : decode cL_law 962 = .ok (.invokevirtual 97, 3) := by decide +kernel
theorem dL_law_965 : decode cL_law 965 = .ok (.if_icmp .eq 190, 3) := by decide +kernel
theorem dL_law_968 : decode cL_law 968 = .ok (.iconst 0, 1) := by decide +kernel
theorem dL_law_969 : decode cL_law 969 = .ok (.ireturn, 1) := by decide +kernel
theorem dL_law_970 : decode cL_law 970 = .ok (.aload_n 1, 1) := by decide +kernel
theorem dL_law_971 : decode cL_law 971 = .ok (.aload_n 0, 1) := by decide +kernel
theorem dL_law_972 : decode cL_law 972 = .ok (.iload_n 3, 1) := by decide +kernel
theorem dL_law_973 : decode cL_law 973 = .ok (.iconst 1, 1) := by decide +kernel
theorem dL_law_974 : decode cL_law 974 = .ok (.iadd, 1) := by decide +kernel
theorem dL_law_975 : decode cL_law 975 = .ok (.iaload, 1) := by decide +kernel
theorem dL_law_976 : decode cL_law 976 = .ok (.aload_n 0, 1) := by decide +kernel
theorem dL_law_977 : decode cL_law 977 = .ok (.iload_n 3, 1) := by decide +kernel
theorem dL_law_978 : decode cL_law 978 = .ok (.iconst 2, 1) := by decide +kernel
theorem dL_law_979 : decode cL_law 979 = .ok (.iadd, 1) := by decide +kernel
theorem dL_law_980 : decode cL_law 980 = .ok (.iaload, 1) := by decide +kernel
theorem dL_law_981 : decode cL_law 981 = .ok (.aload_n 0, 1) := by decide +kernel
theorem dL_law_982 : decode cL_law 982 = .ok (.iload_n 3, 1) := by decide +kernel
theorem dL_law_983 : decode cL_law 983 = .ok (.iconst 3, 1) := by decide +kernel
theorem dL_law_984 : decode cL_law 984 = .ok (.iadd, 1) := by decide +kernel
theorem dL_law_985 : decode cL_law 985 = .ok (.iaload, 1) := by decide +kernel
theorem dL_law_986 : decode cL_law 986 = .ok (.aload_n 0, 1) := by decide +kernel
theorem dL_law_987 : decode cL_law 987 = .ok (.iload_n 3, 1) := by decide +kernel
theorem dL_law_988 : decode cL_law 988 = .ok (.iconst 4, 1) := by decide +kernel
theorem dL_law_989 : decode cL_law 989 = .ok (.iadd, 1) := by decide +kernel
theorem dL_law_990 : decode cL_law 990 = .ok (.iaload, 1) := by decide +kernel
theorem dL_law_991 : decode cL_law 991 = .ok (.invokevirtual 98, 3) := by decide +kernel
theorem dL_law_994 : decode cL_law 994 = .ok (.aload_n 2, 1) := by decide +kernel
theorem dL_law_995 : decode cL_law 995 = .ok (.aload_n 0, 1) := by decide +kernel
theorem dL_law_996 : decode cL_law 996 = .ok (.iload_n 3, 1) := by decide +kernel
theorem dL_law_997 : decode cL_law 997 = .ok (.iconst 1, 1) := by decide +kernel
theorem dL_law_998 : decode cL_law 998 = .ok (.iadd, 1) := by decide +kernel
theorem dL_law_999 : decode cL_law 999 = .ok (.iaload, 1) := by decide +kernel
theorem dL_law_1000 : decode cL_law 1000 = .ok (.aload_n 0, 1) := by decide +kernel
theorem dL_law_1001 : decode cL_law 1001 = .ok (.iload_n 3, 1) := by decide +kernel
theorem dL_law_1002 : decode cL_law 1002 = .ok (.iconst 2, 1) := by decide +kernel
theorem dL_law_1003 : decode cL_law 1003 = .ok (.iadd, 1) := by decide +kernel
theorem dL_law_1004 : decode cL_law 1004 = .ok (.iaload, 1) := by decide +kernel
theorem dL_law_1005 : decode cL_law 1005 = .ok (.aload_n 0, 1) := by decide +kernel
theorem dL_law_1006 : decode cL_law 1006 = .ok (.iload_n 3, 1) := by decide +kernel
theorem dL_law_1007 : decode cL_law 1007 = .ok (.iconst 3, 1) := by decide +kernel
theorem dL_law_1008 : decode cL_law 1008 = .ok (.iadd, 1) := by decide +kernel
theorem dL_law_1009 : decode cL_law 1009 = .ok (.iaload, 1) := by decide +kernel
theorem dL_law_1010 : decode cL_law 1010 = .ok (.aload_n 0, 1) := by decide +kernel
theorem dL_law_1011 : decode cL_law 1011 = .ok (.iload_n 3, 1) := by decide +kernel
theorem dL_law_1012 : decode cL_law 1012 = .ok (.iconst 4, 1) := by decide +kernel
theorem dL_law_1013 : decode cL_law 1013 = .ok (.iadd, 1) := by decide +kernel
theorem dL_law_1014 : decode cL_law 1014 = .ok (.iaload, 1) := by decide +kernel
theorem dL_law_1015 : decode cL_law 1015 = .ok (.invokevirtual 101, 3) := by decide +kernel
theorem dL_law_1018 : decode cL_law 1018 = .ok (.if_icmp .eq 137, 3) := by decide +kernel
theorem dL_law_1021 : decode cL_law 1021 = .ok (.iconst 0, 1) := by decide +kernel
theorem dL_law_1022 : decode cL_law 1022 = .ok (.ireturn, 1) := by decide +kernel
theorem dL_law_1023 : decode cL_law 1023 = .ok (.aload_n 1, 1) := by decide +kernel
theorem dL_law_1024 : decode cL_law 1024 = .ok (.aload_n 0, 1) := by decide +kernel
theorem dL_law_1025 : decode cL_law 1025 = .ok (.iload_n 3, 1) := by decide +kernel
theorem dL_law_1026 : decode cL_law 1026 = .ok (.iconst 1, 1) := by decide +kernel
theorem dL_law_1027 : decode cL_law 1027 = .ok (.iadd, 1) := by decide +kernel
theorem dL_law_1028 : decode cL_law 1028 = .ok (.iaload, 1) := by decide +kernel
theorem dL_law_1029 : decode cL_law 1029 = .ok (.aload_n 0, 1) := by decide +kernel
theorem dL_law_1030 : decode cL_law 1030 = .ok (.iload_n 3, 1) := by decide +kernel
theorem dL_law_1031 : decode cL_law 1031 = .ok (.iconst 2, 1) := by decide +kernel
theorem dL_law_1032 : decode cL_law 1032 = .ok (.iadd, 1) := by decide +kernel
theorem dL_law_1033 : decode cL_law 1033 = .ok (.iaload, 1) := by decide +kernel
theorem dL_law_1034 : decode cL_law 1034 = .ok (.aload_n 0, 1) := by decide +kernel
theorem dL_law_1035 : decode cL_law 1035 = .ok (.iload_n 3, 1) := by decide +kernel
theorem dL_law_1036 : decode cL_law 1036 = .ok (.iconst 3, 1) := by decide +kernel
theorem dL_law_1037 : decode cL_law 1037 = .ok (.iadd, 1) := by decide +kernel
theorem dL_law_1038 : decode cL_law 1038 = .ok (.iaload, 1) := by decide +kernel
theorem dL_law_1039 : decode cL_law 1039 = .ok (.invokevirtual 102, 3) := by decide +kernel
theorem dL_law_1042 : decode cL_law 1042 = .ok (.aload_n 2, 1) := by decide +kernel
theorem dL_law_1043 : decode cL_law 1043 = .ok (.aload_n 0, 1) := by decide +kernel
theorem dL_law_1044 : decode cL_law 1044 = .ok (.iload_n 3, 1) := by decide +kernel
theorem dL_law_1045 : decode cL_law 1045 = .ok (.iconst 1, 1) := by decide +kernel
theorem dL_law_1046 : decode cL_law 1046 = .ok (.iadd, 1) := by decide +kernel
theorem dL_law_1047 : decode cL_law 1047 = .ok (.iaload, 1) := by decide +kernel
theorem dL_law_1048 : decode cL_law 1048 = .ok (.aload_n 0, 1) := by decide +kernel
theorem dL_law_1049 : decode cL_law 1049 = .ok (.iload_n 3, 1) := by decide +kernel
theorem dL_law_1050 : decode cL_law 1050 = .ok (.iconst 2, 1) := by decide +kernel
theorem dL_law_1051 : decode cL_law 1051 = .ok (.iadd, 1) := by decide +kernel
theorem dL_law_1052 : decode cL_law 1052 = .ok (.iaload, 1) := by decide +kernel
theorem dL_law_1053 : decode cL_law 1053 = .ok (.aload_n 0, 1) := by decide +kernel
theorem dL_law_1054 : decode cL_law 1054 = .ok (.iload_n 3, 1) := by decide +kernel
theorem dL_law_1055 : decode cL_law 1055 = .ok (.iconst 3, 1) := by decide +kernel
theorem dL_law_1056 : decode cL_law 1056 = .ok (.iadd, 1) := by decide +kernel
theorem dL_law_1057 : decode cL_law 1057 = .ok (.iaload, 1) := by decide +kernel
theorem dL_law_1058 : decode cL_law 1058 = .ok (.invokevirtual 105, 3) := by decide +kernel
theorem dL_law_1061 : decode cL_law 1061 = .ok (.if_icmp .eq 94, 3) := by decide +kernel
theorem dL_law_1064 : decode cL_law 1064 = .ok (.iconst 0, 1) := by decide +kernel
theorem dL_law_1065 : decode cL_law 1065 = .ok (.ireturn, 1) := by decide +kernel
theorem dL_law_1066 : decode cL_law 1066 = .ok (.aload_n 1, 1) := by decide +kernel
theorem dL_law_1067 : decode cL_law 1067 = .ok (.invokevirtual 106, 3) := by decide +kernel
theorem dL_law_1070 : decode cL_law 1070 = .ok (.aload_n 2, 1) := by decide +kernel
theorem dL_law_1071 : decode cL_law 1071 = .ok (.invokevirtual 110, 3) := by decide +kernel
theorem dL_law_1074 : decode cL_law 1074 = .ok (.if_icmp .eq 81, 3) := by decide +kernel
theorem dL_law_1077 : decode cL_law 1077 = .ok (.iconst 0, 1) := by decide +kernel
theorem dL_law_1078 : decode cL_law 1078 = .ok (.ireturn, 1) := by decide +kernel
theorem dL_law_1079 : decode cL_law 1079 = .ok (.aload_n 1, 1) := by decide +kernel
theorem dL_law_1080 : decode cL_law 1080 = .ok (.aload_n 0, 1) := by decide +kernel
theorem dL_law_1081 : decode cL_law 1081 = .ok (.iload_n 3, 1) := by decide +kernel
theorem dL_law_1082 : decode cL_law 1082 = .ok (.iconst 1, 1) := by decide +kernel
theorem dL_law_1083 : decode cL_law 1083 = .ok (.iadd, 1) := by decide +kernel
theorem dL_law_1084 : decode cL_law 1084 = .ok (.iaload, 1) := by decide +kernel
theorem dL_law_1085 : decode cL_law 1085 = .ok (.aload_n 0, 1) := by decide +kernel
theorem dL_law_1086 : decode cL_law 1086 = .ok (.iload_n 3, 1) := by decide +kernel
theorem dL_law_1087 : decode cL_law 1087 = .ok (.iconst 2, 1) := by decide +kernel
theorem dL_law_1088 : decode cL_law 1088 = .ok (.iadd, 1) := by decide +kernel
theorem dL_law_1089 : decode cL_law 1089 = .ok (.iaload, 1) := by decide +kernel
theorem dL_law_1090 : decode cL_law 1090 = .ok (.aload_n 0, 1) := by decide +kernel
theorem dL_law_1091 : decode cL_law 1091 = .ok (.iload_n 3, 1) := by decide +kernel
theorem dL_law_1092 : decode cL_law 1092 = .ok (.iconst 3, 1) := by decide +kernel
theorem dL_law_1093 : decode cL_law 1093 = .ok (.iadd, 1) := by decide +kernel
theorem dL_law_1094 : decode cL_law 1094 = .ok (.iaload, 1) := by decide +kernel
theorem dL_law_1095 : decode cL_law 1095 = .ok (.aload_n 0, 1) := by decide +kernel
theorem dL_law_1096 : decode cL_law 1096 = .ok (.iload_n 3, 1) := by decide +kernel
theorem dL_law_1097 : decode cL_law 1097 = .ok (.iconst 4, 1) := by decide +kernel
theorem dL_law_1098 : decode cL_law 1098 = .ok (.iadd, 1) := by decide +kernel
theorem dL_law_1099 : decode cL_law 1099 = .ok (.iaload, 1) := by decide +kernel
theorem dL_law_1100 : decode cL_law 1100 = .ok (.invokevirtual 111, 3) := by decide +kernel
theorem dL_law_1103 : decode cL_law 1103 = .ok (.aload_n 2, 1) := by decide +kernel
theorem dL_law_1104 : decode cL_law 1104 = .ok (.aload_n 0, 1) := by decide +kernel
theorem dL_law_1105 : decode cL_law 1105 = .ok (.iload_n 3, 1) := by decide +kernel
theorem dL_law_1106 : decode cL_law 1106 = .ok (.iconst 1, 1) := by decide +kernel
theorem dL_law_1107 : decode cL_law 1107 = .ok (.iadd, 1) := by decide +kernel
theorem dL_law_1108 : decode cL_law 1108 = .ok (.iaload, 1) := by decide +kernel
theorem dL_law_1109 : decode cL_law 1109 = .ok (.aload_n 0, 1) := by decide +kernel
theorem dL_law_1110 : decode cL_law 1110 = .ok (.iload_n 3, 1) := by decide +kernel
theorem dL_law_1111 : decode cL_law 1111 = .ok (.iconst 2, 1) := by decide +kernel
theorem dL_law_1112 : decode cL_law 1112 = .ok (.iadd, 1) := by decide +kernel
theorem dL_law_1113 : decode cL_law 1113 = .ok (.iaload, 1) := by decide +kernel
theorem dL_law_1114 : decode cL_law 1114 = .ok (.aload_n 0, 1) := by decide +kernel
theorem dL_law_1115 : decode cL_law 1115 = .ok (.iload_n 3, 1) := by decide +kernel
theorem dL_law_1116 : decode cL_law 1116 = .ok (.iconst 3, 1) := by decide +kernel
theorem dL_law_1117 : decode cL_law 1117 = .ok (.iadd, 1) := by decide +kernel
theorem dL_law_1118 : decode cL_law 1118 = .ok (.iaload, 1) := by decide +kernel
theorem dL_law_1119 : decode cL_law 1119 = .ok (.aload_n 0, 1) := by decide +kernel
theorem dL_law_1120 : decode cL_law 1120 = .ok (.iload_n 3, 1) := by decide +kernel
theorem dL_law_1121 : decode cL_law 1121 = .ok (.iconst 4, 1) := by decide +kernel
theorem dL_law_1122 : decode cL_law 1122 = .ok (.iadd, 1) := by decide +kernel
theorem dL_law_1123 : decode cL_law 1123 = .ok (.iaload, 1) := by decide +kernel
theorem dL_law_1124 : decode cL_law 1124 = .ok (.invokevirtual 114, 3) := by decide +kernel
theorem dL_law_1127 : decode cL_law 1127 = .ok (.if_icmp .eq 28, 3) := by decide +kernel
theorem dL_law_1130 : decode cL_law 1130 = .ok (.iconst 0, 1) := by decide +kernel
theorem dL_law_1131 : decode cL_law 1131 = .ok (.ireturn, 1) := by decide +kernel
theorem dL_law_1132 : decode cL_law 1132 = .ok (.aload_n 1, 1) := by decide +kernel
theorem dL_law_1133 : decode cL_law 1133 = .ok (.aload_n 0, 1) := by decide +kernel
theorem dL_law_1134 : decode cL_law 1134 = .ok (.iload_n 3, 1) := by decide +kernel
theorem dL_law_1135 : decode cL_law 1135 = .ok (.iconst 1, 1) := by decide +kernel
theorem dL_law_1136 : decode cL_law 1136 = .ok (.iadd, 1) := by decide +kernel
theorem dL_law_1137 : decode cL_law 1137 = .ok (.iaload, 1) := by decide +kernel
theorem dL_law_1138 : decode cL_law 1138 = .ok (.invokevirtual 115, 3) := by decide +kernel
theorem dL_law_1141 : decode cL_law 1141 = .ok (.aload_n 2, 1) := by decide +kernel
theorem dL_law_1142 : decode cL_law 1142 = .ok (.aload_n 0, 1) := by decide +kernel
theorem dL_law_1143 : decode cL_law 1143 = .ok (.iload_n 3, 1) := by decide +kernel
theorem dL_law_1144 : decode cL_law 1144 = .ok (.iconst 1, 1) := by decide +kernel
theorem dL_law_1145 : decode cL_law 1145 = .ok (.iadd, 1) := by decide +kernel
theorem dL_law_1146 : decode cL_law 1146 = .ok (.iaload, 1) := by decide +kernel
theorem dL_law_1147 : decode cL_law 1147 = .ok (.invokevirtual 118, 3) := by decide +kernel
theorem dL_law_1150 : decode cL_law 1150 = .ok (.if_icmp .eq 5, 3) := by decide +kernel
theorem dL_law_1153 : decode cL_law 1153 = .ok (.iconst 0, 1) := by decide +kernel
theorem dL_law_1154 : decode cL_law 1154 = .ok (.ireturn, 1) := by decide +kernel
theorem dL_law_1155 : decode cL_law 1155 = .ok (.iinc 3 5, 3) := by decide +kernel
theorem dL_law_1158 : decode cL_law 1158 = .ok (.goto (-1140), 3) := by decide +kernel
theorem dL_law_1161 : decode cL_law 1161 = .ok (.iconst 1, 1) := by decide +kernel
theorem dL_law_1162 : decode cL_law 1162 = .ok (.ireturn, 1) := by decide +kernel
