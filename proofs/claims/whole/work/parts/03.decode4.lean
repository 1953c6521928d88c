theorem dX10_print_51 : decode cX10_print 51 = .ok (.aload_n 0, 1) := by decide +kernel
theorem dX10_print_52 : decode cX10_print 52 = .ok (.getfield 76, 3) := by decide +kernel
theorem dX10_print_55 : decode cX10_print 55 = .ok (.iload_n 2, 1) := by decide +kernel
theorem dX10_print_56 : decode cX10_print 56 = .ok (.iaload, 1) := by decide +kernel
theorem dX10_print_57 : decode cX10_print 57 = .ok (.goto 5, 3) := by decide +kernel
theorem dX10_print_60 : decode cX10_print 60 = .ok (.bipush (-12), 2) := by decide +kernel
theorem dX10_print_62 : decode cX10_print 62 = .ok (.ireturn, 1) := by decide +kernel
theorem dX10_spelled_0 : decode cX10_spelled 0 = .ok (.iload_n 1, 1) := by decide +kernel
theorem dX10_spelled_1 : decode cX10_spelled 1 = .ok (.invokestatic 254, 3) := by decide +kernel
theorem dX10_spelled_4 : decode cX10_spelled 4 = .ok (.ifCond .ne 6, 3) := by decide +kernel
theorem dX10_spelled_7 : decode cX10_spelled 7 = .ok (.bipush (-2), 2) := by decide +kernel
theorem dX10_spelled_9 : decode cX10_spelled 9 = .ok (.ireturn, 1) := by decide +kernel
theorem dX10_spelled_10 : decode cX10_spelled 10 = .ok (.aload_n 0, 1) := by decide +kernel
theorem dX10_spelled_11 : decode cX10_spelled 11 = .ok (.getfield 31, 3) := by decide +kernel
theorem dX10_spelled_14 : decode cX10_spelled 14 = .ok (.iload_n 1, 1) := by decide +kernel
theorem dX10_spelled_15 : decode cX10_spelled 15 = .ok (.iaload, 1) := by decide +kernel
theorem dX10_spelled_16 : decode cX10_spelled 16 = .ok (.ifCond .ne 6, 3) := by decide +kernel
theorem dX10_spelled_19 : decode cX10_spelled 19 = .ok (.bipush (-3), 2) := by decide +kernel
theorem dX10_spelled_21 : decode cX10_spelled 21 = .ok (.ireturn, 1) := by decide +kernel
theorem dX10_spelled_22 : decode cX10_spelled 22 = .ok (.aload_n 0, 1) := by decide +kernel
theorem dX10_spelled_23 : decode cX10_spelled 23 = .ok (.iload_n 1, 1) := by decide +kernel
theorem dX10_spelled_24 : decode cX10_spelled 24 = .ok (.invokevirtual 273, 3) := by decide +kernel
theorem dX10_spelled_27 : decode cX10_spelled 27 = .ok (.aload_n 0, 1) := by decide +kernel
theorem dX10_spelled_28 : decode cX10_spelled 28 = .ok (.getfield 264, 3) := by decide +kernel
theorem dX10_spelled_31 : decode cX10_spelled 31 = .ok (.aload_n 0, 1) := by decide +kernel
theorem dX10_spelled_32 : decode cX10_spelled 32 = .ok (.getfield 191, 3) := by decide +kernel
theorem dX10_spelled_35 : decode cX10_spelled 35 = .ok (.if_icmp .eq 5, 3) := by decide +kernel
theorem dX10_spelled_38 : decode cX10_spelled 38 = .ok (.iconst 0, 1) := by decide +kernel
theorem dX10_spelled_39 : decode cX10_spelled 39 = .ok (.ireturn, 1) := by decide +kernel
theorem dX10_spelled_40 : decode cX10_spelled 40 = .ok (.iconst 0, 1) := by decide +kernel
theorem dX10_spelled_41 : decode cX10_spelled 41 = .ok (.istore_n 2, 1) := by decide +kernel
theorem dX10_spelled_42 : decode cX10_spelled 42 = .ok (.iload_n 2, 1) := by decide +kernel
theorem dX10_spelled_43 : decode cX10_spelled 43 = .ok (.aload_n 0, 1) := by decide +kernel
theorem dX10_spelled_44 : decode cX10_spelled 44 = .ok (.getfield 264, 3) := by decide +kernel
theorem dX10_spelled_47 : decode cX10_spelled 47 = .ok (.if_icmp .ge 26, 3) := by decide +kernel
theorem dX10_spelled_50 : decode cX10_spelled 50 = .ok (.aload_n 0, 1) := by decide +kernel
theorem dX10_spelled_51 : decode cX10_spelled 51 = .ok (.getfield 76, 3) := by decide +kernel
theorem dX10_spelled_54 : decode cX10_spelled 54 = .ok (.iload_n 2, 1) := by decide +kernel
theorem dX10_spelled_55 : decode cX10_spelled 55 = .ok (.iaload, 1) := by decide +kernel
theorem dX10_spelled_56 : decode cX10_spelled 56 = .ok (.aload_n 0, 1) := by decide +kernel
theorem dX10_spelled_57 : decode cX10_spelled 57 = .ok (.getfield 40, 3) := by decide +kernel
theorem dX10_spelled_60 : decode cX10_spelled 60 = .ok (.iload_n 2, 1) := by decide +kernel
theorem dX10_spelled_61 : decode cX10_spelled 61 = .ok (.iaload, 1) := by decide +kernel
theorem dX10_spelled_62 : decode cX10_spelled 62 = .ok (.if_icmp .eq 5, 3) := by decide +kernel
theorem dX10_spelled_65 : decode cX10_spelled 65 = .ok (.iconst 0, 1) := by decide +kernel
theorem dX10_spelled_66 : decode cX10_spelled 66 = .ok (.ireturn, 1) := by decide +kernel
theorem dX10_spelled_67 : decode cX10_spelled 67 = .ok (.iinc 2 1, 3) := by decide +kernel
theorem dX10_spelled_70 : decode cX10_spelled 70 = .ok (.goto (-28), 3) := by decide +kernel
theorem dX10_spelled_73 : decode cX10_spelled 73 = .ok (.iconst 1, 1) := by decide +kernel
theorem dX10_spelled_74 : decode cX10_spelled 74 = .ok (.ireturn, 1) := by decide +kernel
theorem dX10_join_0 : decode cX10_join 0 = .ok (.iload_n 1, 1) := by decide +kernel
theorem dX10_join_1 : decode cX10_join 1 = .ok (.invokestatic 254, 3) := by decide +kernel
theorem dX10_join_4 : decode cX10_join 4 = .ok (.ifCond .eq 10, 3) := by decide +kernel
theorem dX10_join_7 : decode cX10_join 7 = .ok (.iload_n 2, 1) := by decide +kernel
theorem dX10_join_8 : decode cX10_join 8 = .ok (.invokestatic 254, 3) := by decide +kernel
theorem dX10_join_11 : decode cX10_join 11 = .ok (.ifCond .ne 6, 3) := by decide +kernel
theorem dX10_join_14 : decode cX10_join 14 = .ok (.bipush (-2), 2) := by decide +kernel
theorem dX10_join_16 : decode cX10_join 16 = .ok (.ireturn, 1) := by decide +kernel
theorem dX10_join_17 : decode cX10_join 17 = .ok (.aload_n 0, 1) := by decide +kernel
theorem dX10_join_18 : decode cX10_join 18 = .ok (.getfield 31, 3) := by decide +kernel
theorem dX10_join_21 : decode cX10_join 21 = .ok (.iload_n 1, 1) := by decide +kernel
theorem dX10_join_22 : decode cX10_join 22 = .ok (.iaload, 1) := by decide +kernel
theorem dX10_join_23 : decode cX10_join 23 = .ok (.ifCond .eq 12, 3) := by decide +kernel
theorem dX10_join_26 : decode cX10_join 26 = .ok (.aload_n 0, 1) := by decide +kernel
theorem dX10_join_27 : decode cX10_join 27 = .ok (.getfield 31, 3) := by decide +kernel
theorem dX10_join_30 : decode cX10_join 30 = .ok (.iload_n 2, 1) := by decide +kernel
theorem dX10_join_31 : decode cX10_join 31 = .ok (.iaload, 1) := by decide +kernel
theorem dX10_join_32 : decode cX10_join 32 = .ok (.ifCond .ne 6, 3) := by decide +kernel
theorem dX10_join_35 : decode cX10_join 35 = .ok (.bipush (-3), 2) := by decide +kernel
theorem dX10_join_37 : decode cX10_join 37 = .ok (.ireturn, 1) := by decide +kernel
theorem dX10_join_38 : decode cX10_join 38 = .ok (.aload_n 0, 1) := by decide +kernel
theorem dX10_join_39 : decode cX10_join 39 = .ok (.getfield 31, 3) := by decide +kernel
theorem dX10_join_42 : decode cX10_join 42 = .ok (.iload_n 1, 1) := by decide +kernel
theorem dX10_join_43 : decode cX10_join 43 = .ok (.iaload, 1) := by decide +kernel
theorem dX10_join_44 : decode cX10_join 44 = .ok (.aload_n 0, 1) := by decide +kernel
theorem dX10_join_45 : decode cX10_join 45 = .ok (.getfield 31, 3) := by decide +kernel
theorem dX10_join_48 : decode cX10_join 48 = .ok (.iload_n 2, 1) := by decide +kernel
theorem dX10_join_49 : decode cX10_join 49 = .ok (.iaload, 1) := by decide +kernel
theorem dX10_join_50 : decode cX10_join 50 = .ok (.iadd, 1) := by decide +kernel
theorem dX10_join_51 : decode cX10_join 51 = .ok (.bipush 6, 2) := by decide +kernel
theorem dX10_join_53 : decode cX10_join 53 = .ok (.if_icmp .le 6, 3) := by decide +kernel
theorem dX10_join_56 : decode cX10_join 56 = .ok (.bipush (-4), 2) := by decide +kernel
theorem dX10_join_58 : decode cX10_join 58 = .ok (.ireturn, 1) := by decide +kernel
theorem dX10_join_59 : decode cX10_join 59 = .ok (.aload_n 0, 1) := by decide +kernel
theorem dX10_join_60 : decode cX10_join 60 = .ok (.getfield 31, 3) := by decide +kernel
theorem dX10_join_63 : decode cX10_join 63 = .ok (.iload_n 1, 1) := by decide +kernel
theorem dX10_join_64 : decode cX10_join 64 = .ok (.iaload, 1) := by decide +kernel
theorem dX10_join_65 : decode cX10_join 65 = .ok (.istore_n 3, 1) := by decide +kernel
theorem dX10_join_66 : decode cX10_join 66 = .ok (.aload_n 0, 1) := by decide +kernel
theorem dX10_join_67 : decode cX10_join 67 = .ok (.getfield 31, 3) := by decide +kernel
theorem dX10_join_70 : decode cX10_join 70 = .ok (.iload_n 2, 1) := by decide +kernel
theorem dX10_join_71 : decode cX10_join 71 = .ok (.iaload, 1) := by decide +kernel
theorem dX10_join_72 : decode cX10_join 72 = .ok (.istore 4, 2) := by decide +kernel
theorem dX10_join_74 : decode cX10_join 74 = .ok (.iconst 0, 1) := by decide +kernel
theorem dX10_join_75 : decode cX10_join 75 = .ok (.istore 5, 2) := by decide +kernel
theorem dX10_join_77 : decode cX10_join 77 = .ok (.iload 5, 2) := by decide +kernel
theorem dX10_join_79 : decode cX10_join 79 = .ok (.iload 4, 2) := by decide +kernel
theorem dX10_join_81 : decode cX10_join 81 = .ok (.if_icmp .ge 86, 3) := by decide +kernel
theorem dX10_join_84 : decode cX10_join 84 = .ok (.aload_n 0, 1) := by decide +kernel
theorem dX10_join_85 : decode cX10_join 85 = .ok (.getfield 34, 3) := by decide +kernel
theorem dX10_join_88 : decode cX10_join 88 = .ok (.bipush 6, 2) := by decide +kernel
theorem dX10_join_90 : decode cX10_join 90 = .ok (.iload_n 1, 1) := by decide +kernel
theorem dX10_join_91 : decode cX10_join 91 = .ok (.imul, 1) := by decide +kernel
theorem dX10_join_92 : decode cX10_join 92 = .ok (.iload_n 3, 1) := by decide +kernel
theorem dX10_join_93 : decode cX10_join 93 = .ok (.iadd, 1) := by decide +kernel
theorem dX10_join_94 : decode cX10_join 94 = .ok (.iload 5, 2) := by decide +kernel
theorem dX10_join_96 : decode cX10_join 96 = .ok (.iadd, 1) := by decide +kernel
theorem dX10_join_97 : decode cX10_join 97 = .ok (.aload_n 0, 1) := by decide +kernel
theorem dX10_join_98 : decode cX10_join 98 = .ok (.getfield 34, 3) := by decide +kernel
theorem dX10_join_101 : decode cX10_join 101 = .ok (.bipush 6, 2) := by decide +kernel
theorem dX10_join_103 : decode cX10_join 103 = .ok (.iload_n 2, 1) := by decide +kernel
theorem dX10_join_104 : decode cX10_join 104 = .ok (.imul, 1) := by decide +kernel
theorem dX10_join_105 : decode cX10_join 105 = .ok (.iload 5, 2) := by decide +kernel
theorem dX10_join_107 : decode cX10_join 107 = .ok (.iadd, 1) := by decide +kernel
theorem dX10_join_108 : decode cX10_join 108 = .ok (.iaload, 1) := by decide +kernel
theorem dX10_join_109 : decode cX10_join 109 = .ok (.iastore, 1) := by decide +kernel
theorem dX10_join_110 : decode cX10_join 110 = .ok (.iconst 0, 1) := by decide +kernel
theorem dX10_join_111 : decode cX10_join 111 = .ok (.istore 6, 2) := by decide +kernel
theorem dX10_join_113 : decode cX10_join 113 = .ok (.iload 6, 2) := by decide +kernel
theorem dX10_join_115 : decode cX10_join 115 = .ok (.iconst 3, 1) := by decide +kernel
theorem dX10_join_116 : decode cX10_join 116 = .ok (.if_icmp .ge 45, 3) := by decide +kernel
theorem dX10_join_119 : decode cX10_join 119 = .ok (.aload_n 0, 1) := by decide +kernel
theorem dX10_join_120 : decode cX10_join 120 = .ok (.getfield 37, 3) := by decide +kernel
theorem dX10_join_123 : decode cX10_join 123 = .ok (.bipush 18, 2) := by decide +kernel
theorem dX10_join_125 : decode cX10_join 125 = .ok (.iload_n 1, 1) := by decide +kernel
theorem dX10_join_126 : decode cX10_join 126 = .ok (.imul, 1) := by decide +kernel
theorem dX10_join_127 : decode cX10_join 127 = .ok (.iconst 3, 1) := by decide +kernel
theorem dX10_join_128 : decode cX10_join 128 = .ok (.iload_n 3, 1) := by decide +kernel
theorem dX10_join_129 : decode cX10_join 129 = .ok (.iload 5, 2) := by decide +kernel
theorem dX10_join_131 : decode cX10_join 131 = .ok (.iadd, 1) := by decide +kernel
theorem dX10_join_132 : decode cX10_join 132 = .ok (.imul, 1) := by decide +kernel
theorem dX10_join_133 : decode cX10_join 133 = .ok (.iadd, 1) := by decide +kernel
theorem dX10_join_134 : decode cX10_join 134 = .ok (.iload 6, 2) := by decide +kernel
theorem dX10_join_136 : decode cX10_join 136 = .ok (.iadd, 1) := by decide +kernel
theorem dX10_join_137 : decode cX10_join 137 = .ok (.aload_n 0, 1) := by decide +kernel
theorem dX10_join_138 : decode cX10_join 138 = .ok (.getfield 37, 3) := by decide +kernel
theorem dX10_join_141 : decode cX10_join 141 = .ok (.bipush 18, 2) := by decide +kernel
theorem dX10_join_143 : decode cX10_join 143 = .ok (.iload_n 2, 1) := by decide +kernel
theorem dX10_join_144 : decode cX10_join 144 = .ok (.imul, 1) := by decide +kernel
theorem dX10_join_145 : decode cX10_join 145 = .ok (.iconst 3, 1) := by decide +kernel
theorem dX10_join_146 : decode cX10_join 146 = .ok (.iload 5, 2) := by decide +kernel
theorem dX10_join_148 : decode cX10_join 148 = .ok (.imul, 1) := by decide +kernel
theorem dX10_join_149 : decode cX10_join 149 = .ok (.iadd, 1) := by decide +kernel
theorem dX10_join_150 : decode cX10_join 150 = .ok (.iload 6, 2) := by decide +kernel
theorem dX10_join_152 : decode cX10_join 152 = .ok (.iadd, 1) := by decide +kernel
theorem dX10_join_153 : decode cX10_join 153 = .ok (.iaload, 1) := by decide +kernel
theorem dX10_join_154 : decode cX10_join 154 = .ok (.iastore, 1) := by decide +kernel
theorem dX10_join_155 : decode cX10_join 155 = .ok (.iinc 6 1, 3) := by decide +kernel
theorem dX10_join_158 : decode cX10_join 158 = .ok (.goto (-45), 3) := by decide +kernel
theorem dX10_join_161 : decode cX10_join 161 = .ok (.iinc 5 1, 3) := by decide +kernel
theorem dX10_join_164 : decode cX10_join 164 = .ok (.goto (-87), 3) := by decide +kernel
theorem dX10_join_167 : decode cX10_join 167 = .ok (.aload_n 0, 1) := by decide +kernel
theorem dX10_join_168 : decode cX10_join 168 = .ok (.getfield 31, 3) := by decide +kernel
theorem dX10_join_171 : decode cX10_join 171 = .ok (.iload_n 1, 1) := by decide +kernel
theorem dX10_join_172 : decode cX10_join 172 = .ok (.iload_n 3, 1) := by decide +kernel
theorem dX10_join_173 : decode cX10_join 173 = .ok (.iload 4, 2) := by decide +kernel
theorem dX10_join_175 : decode cX10_join 175 = .ok (.iadd, 1) := by decide +kernel
theorem dX10_join_176 : decode cX10_join 176 = .ok (.iastore, 1) := by decide +kernel
theorem dX10_join_177 : decode cX10_join 177 = .ok (.aload_n 0, 1) := by decide +kernel
theorem dX10_join_178 : decode cX10_join 178 = .ok (.getfield 31, 3) := by decide +kernel
theorem dX10_join_181 : decode cX10_join 181 = .ok (.iload_n 1, 1) := by decide +kernel
theorem dX10_join_182 : decode cX10_join 182 = .ok (.iaload, 1) := by decide +kernel
theorem dX10_join_183 : decode cX10_join 183 = .ok (.ireturn, 1) := by decide +kernel
theorem dX10_clear_0 : decode cX10_clear 0 = .ok (.iload_n 1, 1) := by decide +kernel
theorem dX10_clear_1 : decode cX10_clear 1 = .ok (.invokestatic 254, 3) := by decide +kernel
theorem dX10_clear_4 : decode cX10_clear 4 = .ok (.ifCond .ne 6, 3) := by decide +kernel
theorem dX10_clear_7 : decode cX10_clear 7 = .ok (.bipush (-2), 2) := by decide +kernel
theorem dX10_clear_9 : decode cX10_clear 9 = .ok (.ireturn, 1) := by decide +kernel
theorem dX10_clear_10 : decode cX10_clear 10 = .ok (.aload_n 0, 1) := by decide +kernel
theorem dX10_clear_11 : decode cX10_clear 11 = .ok (.getfield 31, 3) := by decide +kernel
theorem dX10_clear_14 : decode cX10_clear 14 = .ok (.iload_n 1, 1) := by decide +kernel
theorem dX10_clear_15 : decode cX10_clear 15 = .ok (.iaload, 1) := by decide +kernel
theorem dX10_clear_16 : decode cX10_clear 16 = .ok (.ifCond .ne 6, 3) := by decide +kernel
theorem dX10_clear_19 : decode cX10_clear 19 = .ok (.bipush (-3), 2) := by decide +kernel
theorem dX10_clear_21 : decode cX10_clear 21 = .ok (.ireturn, 1) := by decide +kernel
theorem dX10_clear_22 : decode cX10_clear 22 = .ok (.aload_n 0, 1) := by decide +kernel
theorem dX10_clear_23 : decode cX10_clear 23 = .ok (.getfield 31, 3) := by decide +kernel
theorem dX10_clear_26 : decode cX10_clear 26 = .ok (.iload_n 1, 1) := by decide +kernel
theorem dX10_clear_27 : decode cX10_clear 27 = .ok (.iaload, 1) := by decide +kernel
theorem dX10_clear_28 : decode cX10_clear 28 = .ok (.istore_n 2, 1) := by decide +kernel
theorem dX10_clear_29 : decode cX10_clear 29 = .ok (.aload_n 0, 1) := by decide +kernel
theorem dX10_clear_30 : decode cX10_clear 30 = .ok (.getfield 31, 3) := by decide +kernel
theorem dX10_clear_33 : decode cX10_clear 33 = .ok (.iload_n 1, 1) := by decide +kernel
theorem dX10_clear_34 : decode cX10_clear 34 = .ok (.iconst 0, 1) := by decide +kernel
theorem dX10_clear_35 : decode cX10_clear 35 = .ok (.iastore, 1) := by decide +kernel
theorem dX10_clear_36 : decode cX10_clear 36 = .ok (.iload_n 2, 1) := by decide +kernel
theorem dX10_clear_37 : decode cX10_clear 37 = .ok (.ireturn, 1) := by decide +kernel
theorem dX10_stepsOf_0 : decode cX10_stepsOf 0 = .ok (.iconst 0, 1) := by decide +kernel
theorem dX10_stepsOf_1 : decode cX10_stepsOf 1 = .ok (.istore_n 2, 1) := by decide +kernel
theorem dX10_stepsOf_2 : decode cX10_stepsOf 2 = .ok (.iconst 0, 1) := by decide +kernel
theorem dX10_stepsOf_3 : decode cX10_stepsOf 3 = .ok (.istore_n 3, 1) := by decide +kernel
theorem dX10_stepsOf_4 : decode cX10_stepsOf 4 = .ok (.iload_n 3, 1) := by decide +kernel
theorem dX10_stepsOf_5 : decode cX10_stepsOf 5 = .ok (.aload_n 0, 1) := by decide +kernel
theorem dX10_stepsOf_6 : decode cX10_stepsOf 6 = .ok (.getfield 31, 3) := by decide +kernel
theorem dX10_stepsOf_9 : decode cX10_stepsOf 9 = .ok (.iload_n 1, 1) := by decide +kernel
theorem dX10_stepsOf_10 : decode cX10_stepsOf 10 = .ok (.iaload, 1) := by decide +kernel
theorem dX10_stepsOf_11 : decode cX10_stepsOf 11 = .ok (.if_icmp .ge 23, 3) := by decide +kernel
theorem dX10_stepsOf_14 : decode cX10_stepsOf 14 = .ok (.iload_n 2, 1) := by decide +kernel
theorem dX10_stepsOf_15 : decode cX10_stepsOf 15 = .ok (.aload_n 0, 1) := by decide +kernel
theorem dX10_stepsOf_16 : decode cX10_stepsOf 16 = .ok (.getfield 34, 3) := by decide +kernel
theorem dX10_stepsOf_19 : decode cX10_stepsOf 19 = .ok (.bipush 6, 2) := by decide +kernel
theorem dX10_stepsOf_21 : decode cX10_stepsOf 21 = .ok (.iload_n 1, 1) := by decide +kernel
theorem dX10_stepsOf_22 : decode cX10_stepsOf 22 = .ok (.imul, 1) := by decide +kernel
theorem dX10_stepsOf_23 : decode cX10_stepsOf 23 = .ok (.iload_n 3, 1) := by decide +kernel
theorem dX10_stepsOf_24 : decode cX10_stepsOf 24 = .ok (.iadd, 1) := by decide +kernel
theorem dX10_stepsOf_25 : decode cX10_stepsOf 25 = .ok (.iaload, 1) := by decide +kernel
theorem dX10_stepsOf_26 : decode cX10_stepsOf 26 = .ok (.iadd, 1) := by decide +kernel
theorem dX10_stepsOf_27 : decode cX10_stepsOf 27 = .ok (.istore_n 2, 1) := by decide +kernel
theorem dX10_stepsOf_28 : decode cX10_stepsOf 28 = .ok (.iinc 3 1, 3) := by decide +kernel
theorem dX10_stepsOf_31 : decode cX10_stepsOf 31 = .ok (.goto (-27), 3) := by decide +kernel
theorem dX10_stepsOf_34 : decode cX10_stepsOf 34 = .ok (.iload_n 2, 1) := by decide +kernel
theorem dX10_stepsOf_35 : decode cX10_stepsOf 35 = .ok (.ireturn, 1) := by decide +kernel
theorem dX10_fires_0 : decode cX10_fires 0 = .ok (.iconst 0, 1) := by decide +kernel
theorem dX10_fires_1 : decode cX10_fires 1 = .ok (.istore_n 3, 1) := by decide +kernel
theorem dX10_fires_2 : decode cX10_fires 2 = .ok (.aload_n 0, 1) := by decide +kernel
theorem dX10_fires_3 : decode cX10_fires 3 = .ok (.iconst (-1), 1) := by decide +kernel
theorem dX10_fires_4 : decode cX10_fires 4 = .ok (.putfield 276, 3) := by decide +kernel
theorem dX10_fires_7 : decode cX10_fires 7 = .ok (.aload_n 0, 1) := by decide +kernel
theorem dX10_fires_8 : decode cX10_fires 8 = .ok (.iconst 0, 1) := by decide +kernel
theorem dX10_fires_9 : decode cX10_fires 9 = .ok (.putfield 279, 3) := by decide +kernel
theorem dX10_fires_12 : decode cX10_fires 12 = .ok (.iconst 0, 1) := by decide +kernel
theorem dX10_fires_13 : decode cX10_fires 13 = .ok (.istore 4, 2) := by decide +kernel
theorem dX10_fires_15 : decode cX10_fires 15 = .ok (.iload 4, 2) := by decide +kernel
theorem dX10_fires_17 : decode cX10_fires 17 = .ok (.aload_n 0, 1) := by decide +kernel
theorem dX10_fires_18 : decode cX10_fires 18 = .ok (.getfield 31, 3) := by decide +kernel
theorem dX10_fires_21 : decode cX10_fires 21 = .ok (.iload_n 1, 1) := by decide +kernel
theorem dX10_fires_22 : decode cX10_fires 22 = .ok (.iaload, 1) := by decide +kernel
theorem dX10_fires_23 : decode cX10_fires 23 = .ok (.if_icmp .ge 117, 3) := by decide +kernel
theorem dX10_fires_26 : decode cX10_fires 26 = .ok (.iconst 0, 1) := by decide +kernel
theorem dX10_fires_27 : decode cX10_fires 27 = .ok (.istore 5, 2) := by decide +kernel
theorem dX10_fires_29 : decode cX10_fires 29 = .ok (.iload 5, 2) := by decide +kernel
theorem dX10_fires_31 : decode cX10_fires 31 = .ok (.iconst 3, 1) := by decide +kernel
theorem dX10_fires_32 : decode cX10_fires 32 = .ok (.if_icmp .ge 33, 3) := by decide +kernel
theorem dX10_fires_35 : decode cX10_fires 35 = .ok (.aload_n 0, 1) := by decide +kernel
theorem dX10_fires_36 : decode cX10_fires 36 = .ok (.getfield 13, 3) := by decide +kernel
theorem dX10_fires_39 : decode cX10_fires 39 = .ok (.iload 5, 2) := by decide +kernel
theorem dX10_fires_41 : decode cX10_fires 41 = .ok (.aload_n 0, 1) := by decide +kernel
theorem dX10_fires_42 : decode cX10_fires 42 = .ok (.getfield 37, 3) := by decide +kernel
theorem dX10_fires_45 : decode cX10_fires 45 = .ok (.bipush 18, 2) := by decide +kernel
theorem dX10_fires_47 : decode cX10_fires 47 = .ok (.iload_n 1, 1) := by decide +kernel
theorem dX10_fires_48 : decode cX10_fires 48 = .ok (.imul, 1) := by decide +kernel
theorem dX10_fires_49 : decode cX10_fires 49 = .ok (.iconst 3, 1) := by decide +kernel
theorem dX10_fires_50 : decode cX10_fires 50 = .ok (.iload 4, 2) := by decide +kernel
theorem dX10_fires_52 : decode cX10_fires 52 = .ok (.imul, 1) := by decide +kernel
theorem dX10_fires_53 : decode cX10_fires 53 = .ok (.iadd, 1) := by decide +kernel
theorem dX10_fires_54 : decode cX10_fires 54 = .ok (.iload 5, 2) := by decide +kernel
theorem dX10_fires_56 : decode cX10_fires 56 = .ok (.iadd, 1) := by decide +kernel
theorem dX10_fires_57 : decode cX10_fires 57 = .ok (.iaload, 1) := by decide +kernel
theorem dX10_fires_58 : decode cX10_fires 58 = .ok (.iastore, 1) := by decide +kernel
theorem dX10_fires_59 : decode cX10_fires 59 = .ok (.iinc 5 1, 3) := by decide +kernel
theorem dX10_fires_62 : decode cX10_fires 62 = .ok (.goto (-33), 3) := by decide +kernel
theorem dX10_fires_65 : decode cX10_fires 65 = .ok (.iconst 0, 1) := by decide +kernel
theorem dX10_fires_66 : decode cX10_fires 66 = .ok (.istore 5, 2) := by decide +kernel
theorem dX10_fires_68 : decode cX10_fires 68 = .ok (.iload 5, 2) := by decide +kernel
theorem dX10_fires_70 : decode cX10_fires 70 = .ok (.aload_n 0, 1) := by decide +kernel
theorem dX10_fires_71 : decode cX10_fires 71 = .ok (.getfield 34, 3) := by decide +kernel
theorem dX10_fires_74 : decode cX10_fires 74 = .ok (.bipush 6, 2) := by decide +kernel
theorem dX10_fires_76 : decode cX10_fires 76 = .ok (.iload_n 1, 1) := by decide +kernel
theorem dX10_fires_77 : decode cX10_fires 77 = .ok (.imul, 1) := by decide +kernel
theorem dX10_fires_78 : decode cX10_fires 78 = .ok (.iload 4, 2) := by decide +kernel
theorem dX10_fires_80 : decode cX10_fires 80 = .ok (.iadd, 1) := by decide +kernel
theorem dX10_fires_81 : decode cX10_fires 81 = .ok (.iaload, 1) := by decide +kernel
theorem dX10_fires_82 : decode cX10_fires 82 = .ok (.if_icmp .ge 52, 3) := by decide +kernel
theorem dX10_fires_85 : decode cX10_fires 85 = .ok (.aload_n 0, 1) := by decide +kernel
theorem dX10_fires_86 : decode cX10_fires 86 = .ok (.invokevirtual 168, 3) := by decide +kernel
theorem dX10_fires_89 : decode cX10_fires 89 = .ok (.istore 6, 2) := by decide +kernel
theorem dX10_fires_91 : decode cX10_fires 91 = .ok (.iinc 3 1, 3) := by decide +kernel
theorem dX10_fires_94 : decode cX10_fires 94 = .ok (.iload 6, 2) := by decide +kernel
theorem dX10_fires_96 : decode cX10_fires 96 = .ok (.ifCond .eq 21, 3) := by decide +kernel
theorem dX10_fires_99 : decode cX10_fires 99 = .ok (.aload_n 0, 1) := by decide +kernel
theorem dX10_fires_100 : decode cX10_fires 100 = .ok (.getfield 276, 3) := by decide +kernel
theorem dX10_fires_103 : decode cX10_fires 103 = .ok (.ifCond .ge 14, 3) := by decide +kernel
theorem dX10_fires_106 : decode cX10_fires 106 = .ok (.aload_n 0, 1) := by decide +kernel
theorem dX10_fires_107 : decode cX10_fires 107 = .ok (.iload_n 3, 1) := by decide +kernel
theorem dX10_fires_108 : decode cX10_fires 108 = .ok (.putfield 276, 3) := by decide +kernel
theorem dX10_fires_111 : decode cX10_fires 111 = .ok (.aload_n 0, 1) := by decide +kernel
theorem dX10_fires_112 : decode cX10_fires 112 = .ok (.iload 6, 2) := by decide +kernel
theorem dX10_fires_114 : decode cX10_fires 114 = .ok (.putfield 279, 3) := by decide +kernel
theorem dX10_fires_117 : decode cX10_fires 117 = .ok (.iload 6, 2) := by decide +kernel
theorem dX10_fires_119 : decode cX10_fires 119 = .ok (.ifCond .eq 9, 3) := by decide +kernel
theorem dX10_fires_122 : decode cX10_fires 122 = .ok (.iload_n 2, 1) := by decide +kernel
theorem dX10_fires_123 : decode cX10_fires 123 = .ok (.ifCond .eq 5, 3) := by decide +kernel
theorem dX10_fires_126 : decode cX10_fires 126 = .ok (.iload_n 3, 1) := by decide +kernel
theorem dX10_fires_127 : decode cX10_fires 127 = .ok (.ireturn, 1) := by decide +kernel
theorem dX10_fires_128 : decode cX10_fires 128 = .ok (.iinc 5 1, 3) := by decide +kernel
theorem dX10_fires_131 : decode cX10_fires 131 = .ok (.goto (-63), 3) := by decide +kernel
theorem dX10_fires_134 : decode cX10_fires 134 = .ok (.iinc 4 1, 3) := by decide +kernel
theorem dX10_fires_137 : decode cX10_fires 137 = .ok (.goto (-122), 3) := by decide +kernel
theorem dX10_fires_140 : decode cX10_fires 140 = .ok (.iload_n 3, 1) := by decide +kernel
theorem dX10_fires_141 : decode cX10_fires 141 = .ok (.ireturn, 1) := by decide +kernel
theorem dX10_fire_0 : decode cX10_fire 0 = .ok (.iload_n 1, 1) := by decide +kernel
theorem dX10_fire_1 : decode cX10_fire 1 = .ok (.invokestatic 254, 3) := by decide +kernel
theorem dX10_fire_4 : decode cX10_fire 4 = .ok (.ifCond .ne 6, 3) := by decide +kernel
theorem dX10_fire_7 : decode cX10_fire 7 = .ok (.bipush (-2), 2) := by decide +kernel
theorem dX10_fire_9 : decode cX10_fire 9 = .ok (.ireturn, 1) := by decide +kernel
theorem dX10_fire_10 : decode cX10_fire 10 = .ok (.aload_n 0, 1) := by decide +kernel
theorem dX10_fire_11 : decode cX10_fire 11 = .ok (.getfield 31, 3) := by decide +kernel
theorem dX10_fire_14 : decode cX10_fire 14 = .ok (.iload_n 1, 1) := by decide +kernel
theorem dX10_fire_15 : decode cX10_fire 15 = .ok (.iaload, 1) := by decide +kernel
theorem dX10_fire_16 : decode cX10_fire 16 = .ok (.ifCond .eq 19, 3) := by decide +kernel
theorem dX10_fire_19 : decode cX10_fire 19 = .ok (.aload_n 0, 1) := by decide +kernel
theorem dX10_fire_20 : decode cX10_fire 20 = .ok (.getfield 144, 3) := by decide +kernel
theorem dX10_fire_23 : decode cX10_fire 23 = .ok (.aload_n 0, 1) := by decide +kernel
theorem dX10_fire_24 : decode cX10_fire 24 = .ok (.iload_n 1, 1) := by decide +kernel
theorem dX10_fire_25 : decode cX10_fire 25 = .ok (.invokevirtual 282, 3) := by decide +kernel
theorem dX10_fire_28 : decode cX10_fire 28 = .ok (.iadd, 1) := by decide +kernel
theorem dX10_fire_29 : decode cX10_fire 29 = .ok (.sipush 9999, 3) := by decide +kernel
theorem dX10_fire_32 : decode cX10_fire 32 = .ok (.if_icmp .le 6, 3) := by decide +kernel
theorem dX10_fire_35 : decode cX10_fire 35 = .ok (.bipush (-3), 2) := by decide +kernel
theorem dX10_fire_37 : decode cX10_fire 37 = .ok (.ireturn, 1) := by decide +kernel
theorem dX10_fire_38 : decode cX10_fire 38 = .ok (.aload_n 0, 1) := by decide +kernel
theorem dX10_fire_39 : decode cX10_fire 39 = .ok (.iload_n 1, 1) := by decide +kernel
theorem dX10_fire_40 : decode cX10_fire 40 = .ok (.iload_n 2, 1) := by decide +kernel
theorem dX10_fire_41 : decode cX10_fire 41 = .ok (.invokevirtual 285, 3) := by decide +kernel
theorem dX10_fire_44 : decode cX10_fire 44 = .ok (.ireturn, 1) := by decide +kernel
theorem dX10_firstLoad_0 : decode cX10_firstLoad 0 = .ok (.iconst 0, 1) := by decide +kernel
theorem dX10_firstLoad_1 : decode cX10_firstLoad 1 = .ok (.istore_n 1, 1) := by decide +kernel
theorem dX10_firstLoad_2 : decode cX10_firstLoad 2 = .ok (.iload_n 1, 1) := by decide +kernel
theorem dX10_firstLoad_3 : decode cX10_firstLoad 3 = .ok (.aload_n 0, 1) := by decide +kernel
theorem dX10_firstLoad_4 : decode cX10_firstLoad 4 = .ok (.getfield 86, 3) := by decide +kernel
theorem dX10_firstLoad_7 : decode cX10_firstLoad 7 = .ok (.if_icmp .ge 23, 3) := by decide +kernel
theorem dX10_firstLoad_10 : decode cX10_firstLoad 10 = .ok (.aload_n 0, 1) := by decide +kernel
theorem dX10_firstLoad_11 : decode cX10_firstLoad 11 = .ok (.getfield 279, 3) := by decide +kernel
theorem dX10_firstLoad_14 : decode cX10_firstLoad 14 = .ok (.iload_n 1, 1) := by decide +kernel
theorem dX10_firstLoad_15 : decode cX10_firstLoad 15 = .ok (.ishr, 1) := by decide +kernel
theorem dX10_firstLoad_16 : decode cX10_firstLoad 16 = .ok (.iconst 1, 1) := by decide +kernel
theorem dX10_firstLoad_17 : decode cX10_firstLoad 17 = .ok (.iand, 1) := by decide +kernel
theorem dX10_firstLoad_18 : decode cX10_firstLoad 18 = .ok (.iconst 1, 1) := by decide +kernel
theorem dX10_firstLoad_19 : decode cX10_firstLoad 19 = .ok (.if_icmp .ne 5, 3) := by decide +kernel
theorem dX10_firstLoad_22 : decode cX10_firstLoad 22 = .ok (.iload_n 1, 1) := by decide +kernel
theorem dX10_firstLoad_23 : decode cX10_firstLoad 23 = .ok (.ireturn, 1) := by decide +kernel
theorem dX10_firstLoad_24 : decode cX10_firstLoad 24 = .ok (.iinc 1 1, 3) := by decide +kernel
theorem dX10_firstLoad_27 : decode cX10_firstLoad 27 = .ok (.goto (-25), 3) := by decide +kernel
theorem dX10_firstLoad_30 : decode cX10_firstLoad 30 = .ok (.iconst (-1), 1) := by decide +kernel
theorem dX10_firstLoad_31 : decode cX10_firstLoad 31 = .ok (.ireturn, 1) := by decide +kernel
theorem dX10_tried_0 : decode cX10_tried 0 = .ok (.iload_n 1, 1) := by decide +kernel
theorem dX10_tried_1 : decode cX10_tried 1 = .ok (.tableswitch 90 0 5 #[39, 49, 54, 59, 80, 85], 39) := by decide +kernel
theorem dX10_tried_40 : decode cX10_tried 40 = .ok (.aload_n 0, 1) := by decide +kernel
theorem dX10_tried_41 : decode cX10_tried 41 = .ok (.getfield 137, 3) := by decide +kernel
theorem dX10_tried_44 : decode cX10_tried 44 = .ok (.aload_n 0, 1) := by decide +kernel
theorem dX10_tried_45 : decode cX10_tried 45 = .ok (.getfield 150, 3) := by decide +kernel
theorem dX10_tried_48 : decode cX10_tried 48 = .ok (.isub, 1) := by decide +kernel
theorem dX10_tried_49 : decode cX10_tried 49 = .ok (.ireturn, 1) := by decide +kernel
theorem dX10_tried_50 : decode cX10_tried 50 = .ok (.aload_n 0, 1) := by decide +kernel
theorem dX10_tried_51 : decode cX10_tried 51 = .ok (.getfield 276, 3) := by decide +kernel
theorem dX10_tried_54 : decode cX10_tried 54 = .ok (.ireturn, 1) := by decide +kernel
theorem dX10_tried_55 : decode cX10_tried 55 = .ok (.aload_n 0, 1) := by decide +kernel
theorem dX10_tried_56 : decode cX10_tried 56 = .ok (.invokevirtual 289, 3) := by decide +kernel
theorem dX10_tried_59 : decode cX10_tried 59 = .ok (.ireturn, 1) := by decide +kernel
theorem dX10_tried_60 : decode cX10_tried 60 = .ok (.aload_n 0, 1) := by decide +kernel
theorem dX10_tried_61 : decode cX10_tried 61 = .ok (.getfield 279, 3) := by decide +kernel
theorem dX10_tried_64 : decode cX10_tried 64 = .ok (.ifCond .ne 7, 3) := by decide +kernel
theorem dX10_tried_67 : decode cX10_tried 67 = .ok (.iconst 0, 1) := by decide +kernel
theorem dX10_tried_68 : decode cX10_tried 68 = .ok (.goto 12, 3) := by decide +kernel
theorem dX10_tried_71 : decode cX10_tried 71 = .ok (.aload_n 0, 1) := by decide +kernel
theorem dX10_tried_72 : decode cX10_tried 72 = .ok (.getfield 28, 3) := by decide +kernel
theorem dX10_tried_75 : decode cX10_tried 75 = .ok (.aload_n 0, 1) := by decide +kernel
theorem dX10_tried_76 : decode cX10_tried 76 = .ok (.invokevirtual 289, 3) := by decide +kernel
theorem dX10_tried_79 : decode cX10_tried 79 = .ok (.iaload, 1) := by decide +kernel
theorem dX10_tried_80 : decode cX10_tried 80 = .ok (.ireturn, 1) := by decide +kernel
theorem dX10_tried_81 : decode cX10_tried 81 = .ok (.aload_n 0, 1) := by decide +kernel
theorem dX10_tried_82 : decode cX10_tried 82 = .ok (.invokevirtual 292, 3) := by decide +kernel
theorem dX10_tried_85 : decode cX10_tried 85 = .ok (.ireturn, 1) := by decide +kernel
theorem dX10_tried_86 : decode cX10_tried 86 = .ok (.aload_n 0, 1) := by decide +kernel
theorem dX10_tried_87 : decode cX10_tried 87 = .ok (.invokevirtual 147, 3) := by decide +kernel
theorem dX10_tried_90 : decode cX10_tried 90 = .ok (.ireturn, 1) := by decide +kernel
theorem dX10_tried_91 : decode cX10_tried 91 = .ok (.aload_n 0, 1) := by decide +kernel
theorem dX10_tried_92 : decode cX10_tried 92 = .ok (.getfield 7, 3) := by decide +kernel
theorem dX10_tried_95 : decode cX10_tried 95 = .ok (.iload_n 1, 1) := by decide +kernel
theorem dX10_tried_96 : decode cX10_tried 96 = .ok (.bipush 6, 2) := by decide +kernel
theorem dX10_tried_98 : decode cX10_tried 98 = .ok (.isub, 1) := by decide +kernel
theorem dX10_tried_99 : decode cX10_tried 99 = .ok (.iaload, 1) := by decide +kernel
theorem dX10_tried_100 : decode cX10_tried 100 = .ok (.ireturn, 1) := by decide +kernel
theorem dX10_tries_0 : decode cX10_tries 0 = .ok (.iload_n 1, 1) := by decide +kernel
theorem dX10_tries_1 : decode cX10_tries 1 = .ok (.invokestatic 254, 3) := by decide +kernel
theorem dX10_tries_4 : decode cX10_tries 4 = .ok (.ifCond .eq 13, 3) := by decide +kernel
theorem dX10_tries_7 : decode cX10_tries 7 = .ok (.iload_n 2, 1) := by decide +kernel
theorem dX10_tries_8 : decode cX10_tries 8 = .ok (.iconst 0, 1) := by decide +kernel
theorem dX10_tries_9 : decode cX10_tries 9 = .ok (.bipush 8, 2) := by decide +kernel
theorem dX10_tries_11 : decode cX10_tries 11 = .ok (.invokestatic 82, 3) := by decide +kernel
theorem dX10_tries_14 : decode cX10_tries 14 = .ok (.ifCond .ne 6, 3) := by decide +kernel
theorem dX10_tries_17 : decode cX10_tries 17 = .ok (.bipush (-2), 2) := by decide +kernel
theorem dX10_tries_19 : decode cX10_tries 19 = .ok (.ireturn, 1) := by decide +kernel
theorem dX10_tries_20 : decode cX10_tries 20 = .ok (.aload_n 0, 1) := by decide +kernel
theorem dX10_tries_21 : decode cX10_tries 21 = .ok (.getfield 31, 3) := by decide +kernel
theorem dX10_tries_24 : decode cX10_tries 24 = .ok (.iload_n 1, 1) := by decide +kernel
theorem dX10_tries_25 : decode cX10_tries 25 = .ok (.iaload, 1) := by decide +kernel
theorem dX10_tries_26 : decode cX10_tries 26 = .ok (.ifCond .ne 6, 3) := by decide +kernel
theorem dX10_tries_29 : decode cX10_tries 29 = .ok (.bipush (-3), 2) := by decide +kernel
theorem dX10_tries_31 : decode cX10_tries 31 = .ok (.ireturn, 1) := by decide +kernel
theorem dX10_tries_32 : decode cX10_tries 32 = .ok (.aload_n 0, 1) := by decide +kernel
theorem dX10_tries_33 : decode cX10_tries 33 = .ok (.invokevirtual 171, 3) := by decide +kernel
theorem dX10_tries_36 : decode cX10_tries 36 = .ok (.aload_n 0, 1) := by decide +kernel
theorem dX10_tries_37 : decode cX10_tries 37 = .ok (.iload_n 1, 1) := by decide +kernel
theorem dX10_tries_38 : decode cX10_tries 38 = .ok (.iconst 0, 1) := by decide +kernel
theorem dX10_tries_39 : decode cX10_tries 39 = .ok (.invokevirtual 285, 3) := by decide +kernel
theorem dX10_tries_42 : decode cX10_tries 42 = .ok (.istore_n 3, 1) := by decide +kernel
theorem dX10_tries_43 : decode cX10_tries 43 = .ok (.aload_n 0, 1) := by decide +kernel
theorem dX10_tries_44 : decode cX10_tries 44 = .ok (.iload_n 2, 1) := by decide +kernel
theorem dX10_tries_45 : decode cX10_tries 45 = .ok (.invokevirtual 295, 3) := by decide +kernel
theorem dX10_tries_48 : decode cX10_tries 48 = .ok (.istore 4, 2) := by decide +kernel
theorem dX10_tries_50 : decode cX10_tries 50 = .ok (.aload_n 0, 1) := by decide +kernel
theorem dX10_tries_51 : decode cX10_tries 51 = .ok (.invokevirtual 174, 3) := by decide +kernel
theorem dX10_tries_54 : decode cX10_tries 54 = .ok (.iload 4, 2) := by decide +kernel
theorem dX10_tries_56 : decode cX10_tries 56 = .ok (.ireturn, 1) := by decide +kernel
theorem dX10_goesWell_0 : decode cX10_goesWell 0 = .ok (.iload_n 2, 1) := by decide +kernel
theorem dX10_goesWell_1 : decode cX10_goesWell 1 = .ok (.iconst 1, 1) := by decide +kernel
theorem dX10_goesWell_2 : decode cX10_goesWell 2 = .ok (.isub, 1) := by decide +kernel
theorem dX10_goesWell_3 : decode cX10_goesWell 3 = .ok (.istore 4, 2) := by decide +kernel
theorem dX10_goesWell_5 : decode cX10_goesWell 5 = .ok (.iload 4, 2) := by decide +kernel
theorem dX10_goesWell_7 : decode cX10_goesWell 7 = .ok (.ifCond .lt 45, 3) := by decide +kernel
theorem dX10_goesWell_10 : decode cX10_goesWell 10 = .ok (.aload_n 0, 1) := by decide +kernel
theorem dX10_goesWell_11 : decode cX10_goesWell 11 = .ok (.iload_n 1, 1) := by decide +kernel
theorem dX10_goesWell_12 : decode cX10_goesWell 12 = .ok (.iconst 2, 1) := by decide +kernel
theorem dX10_goesWell_13 : decode cX10_goesWell 13 = .ok (.iload 4, 2) := by decide +kernel
theorem dX10_goesWell_15 : decode cX10_goesWell 15 = .ok (.imul, 1) := by decide +kernel
theorem dX10_goesWell_16 : decode cX10_goesWell 16 = .ok (.ishr, 1) := by decide +kernel
theorem dX10_goesWell_17 : decode cX10_goesWell 17 = .ok (.iconst 3, 1) := by decide +kernel
theorem dX10_goesWell_18 : decode cX10_goesWell 18 = .ok (.iand, 1) := by decide +kernel
theorem dX10_goesWell_19 : decode cX10_goesWell 19 = .ok (.invokevirtual 180, 3) := by decide +kernel
theorem dX10_goesWell_22 : decode cX10_goesWell 22 = .ok (.iconst 0, 1) := by decide +kernel
theorem dX10_goesWell_23 : decode cX10_goesWell 23 = .ok (.istore 5, 2) := by decide +kernel
theorem dX10_goesWell_25 : decode cX10_goesWell 25 = .ok (.iload 5, 2) := by decide +kernel
theorem dX10_goesWell_27 : decode cX10_goesWell 27 = .ok (.iload_n 3, 1) := by decide +kernel
theorem dX10_goesWell_28 : decode cX10_goesWell 28 = .ok (.if_icmp .ge 18, 3) := by decide +kernel
theorem dX10_goesWell_31 : decode cX10_goesWell 31 = .ok (.aload_n 0, 1) := by decide +kernel
theorem dX10_goesWell_32 : decode cX10_goesWell 32 = .ok (.invokevirtual 168, 3) := by decide +kernel
theorem dX10_goesWell_35 : decode cX10_goesWell 35 = .ok (.ifCond .eq 5, 3) := by decide +kernel
theorem dX10_goesWell_38 : decode cX10_goesWell 38 = .ok (.iconst 0, 1) := by decide +kernel
theorem dX10_goesWell_39 : decode cX10_goesWell 39 = .ok (.ireturn, 1) := by decide +kernel
theorem dX10_goesWell_40 : decode cX10_goesWell 40 = .ok (.iinc 5 1, 3) := by decide +kernel
theorem dX10_goesWell_43 : decode cX10_goesWell 43 = .ok (.goto (-18), 3) := by decide +kernel
theorem dX10_goesWell_46 : decode cX10_goesWell 46 = .ok (.iinc 4 (-1), 3) := by decide +kernel
theorem dX10_goesWell_49 : decode cX10_goesWell 49 = .ok (.goto (-44), 3) := by decide +kernel
theorem dX10_goesWell_52 : decode cX10_goesWell 52 = .ok (.aload_n 0, 1) := by decide +kernel
theorem dX10_goesWell_53 : decode cX10_goesWell 53 = .ok (.invokevirtual 298, 3) := by decide +kernel
theorem dX10_goesWell_56 : decode cX10_goesWell 56 = .ok (.ireturn, 1) := by decide +kernel
theorem dX10_plans_0 : decode cX10_plans 0 = .ok (.aload_n 0, 1) := by decide +kernel
theorem dX10_plans_1 : decode cX10_plans 1 = .ok (.iconst (-1), 1) := by decide +kernel
theorem dX10_plans_2 : decode cX10_plans 2 = .ok (.putfield 301, 3) := by decide +kernel
theorem dX10_plans_5 : decode cX10_plans 5 = .ok (.iconst 0, 1) := by decide +kernel
theorem dX10_plans_6 : decode cX10_plans 6 = .ok (.istore_n 3, 1) := by decide +kernel
theorem dX10_plans_7 : decode cX10_plans 7 = .ok (.iload_n 3, 1) := by decide +kernel
theorem dX10_plans_8 : decode cX10_plans 8 = .ok (.iconst 1, 1) := by decide +kernel
theorem dX10_plans_9 : decode cX10_plans 9 = .ok (.iconst 2, 1) := by decide +kernel
theorem dX10_plans_10 : decode cX10_plans 10 = .ok (.iload_n 1, 1) := by decide +kernel
theorem dX10_plans_11 : decode cX10_plans 11 = .ok (.imul, 1) := by decide +kernel
theorem dX10_plans_12 : decode cX10_plans 12 = .ok (.ishl, 1) := by decide +kernel
theorem dX10_plans_13 : decode cX10_plans 13 = .ok (.if_icmp .ge 69, 3) := by decide +kernel
theorem dX10_plans_16 : decode cX10_plans 16 = .ok (.aload_n 0, 1) := by decide +kernel
theorem dX10_plans_17 : decode cX10_plans 17 = .ok (.invokevirtual 171, 3) := by decide +kernel
theorem dX10_plans_20 : decode cX10_plans 20 = .ok (.aload_n 0, 1) := by decide +kernel
theorem dX10_plans_21 : decode cX10_plans 21 = .ok (.iload_n 3, 1) := by decide +kernel
theorem dX10_plans_22 : decode cX10_plans 22 = .ok (.iload_n 1, 1) := by decide +kernel
theorem dX10_plans_23 : decode cX10_plans 23 = .ok (.iload_n 2, 1) := by decide +kernel
theorem dX10_plans_24 : decode cX10_plans 24 = .ok (.invokevirtual 304, 3) := by decide +kernel
theorem dX10_plans_27 : decode cX10_plans 27 = .ok (.istore 4, 2) := by decide +kernel
theorem dX10_plans_29 : decode cX10_plans 29 = .ok (.aload_n 0, 1) := by decide +kernel
theorem dX10_plans_30 : decode cX10_plans 30 = .ok (.getfield 137, 3) := by decide +kernel
theorem dX10_plans_33 : decode cX10_plans 33 = .ok (.aload_n 0, 1) := by decide +kernel
theorem dX10_plans_34 : decode cX10_plans 34 = .ok (.getfield 150, 3) := by decide +kernel
theorem dX10_plans_37 : decode cX10_plans 37 = .ok (.isub, 1) := by decide +kernel
theorem dX10_plans_38 : decode cX10_plans 38 = .ok (.istore 5, 2) := by decide +kernel
theorem dX10_plans_40 : decode cX10_plans 40 = .ok (.aload_n 0, 1) := by decide +kernel
theorem dX10_plans_41 : decode cX10_plans 41 = .ok (.invokevirtual 174, 3) := by decide +kernel
theorem dX10_plans_44 : decode cX10_plans 44 = .ok (.iload 4, 2) := by decide +kernel
theorem dX10_plans_46 : decode cX10_plans 46 = .ok (.ifCond .eq 30, 3) := by decide +kernel
theorem dX10_plans_49 : decode cX10_plans 49 = .ok (.aload_n 0, 1) := by decide +kernel
theorem dX10_plans_50 : decode cX10_plans 50 = .ok (.getfield 301, 3) := by decide +kernel
theorem dX10_plans_53 : decode cX10_plans 53 = .ok (.ifCond .lt 12, 3) := by decide +kernel
theorem dX10_plans_56 : decode cX10_plans 56 = .ok (.iload 5, 2) := by decide +kernel
theorem dX10_plans_58 : decode cX10_plans 58 = .ok (.aload_n 0, 1) := by decide +kernel
theorem dX10_plans_59 : decode cX10_plans 59 = .ok (.getfield 307, 3) := by decide +kernel
theorem dX10_plans_62 : decode cX10_plans 62 = .ok (.if_icmp .ge 14, 3) := by decide +kernel
theorem dX10_plans_65 : decode cX10_plans 65 = .ok (.aload_n 0, 1) := by decide +kernel
theorem dX10_plans_66 : decode cX10_plans 66 = .ok (.iload_n 3, 1) := by decide +kernel
theorem dX10_plans_67 : decode cX10_plans 67 = .ok (.putfield 301, 3) := by decide +kernel
theorem dX10_plans_70 : decode cX10_plans 70 = .ok (.aload_n 0, 1) := by decide +kernel
theorem dX10_plans_71 : decode cX10_plans 71 = .ok (.iload 5, 2) := by decide +kernel
theorem dX10_plans_73 : decode cX10_plans 73 = .ok (.putfield 307, 3) := by decide +kernel
theorem dX10_plans_76 : decode cX10_plans 76 = .ok (.iinc 3 1, 3) := by decide +kernel
theorem dX10_plans_79 : decode cX10_plans 79 = .ok (.goto (-72), 3) := by decide +kernel
theorem dX10_plans_82 : decode cX10_plans 82 = .ok (.return_, 1) := by decide +kernel
theorem dX10_plan_0 : decode cX10_plan 0 = .ok (.iload_n 1, 1) := by decide +kernel
theorem dX10_plan_1 : decode cX10_plan 1 = .ok (.iconst 1, 1) := by decide +kernel
theorem dX10_plan_2 : decode cX10_plan 2 = .ok (.iconst 4, 1) := by decide +kernel
theorem dX10_plan_3 : decode cX10_plan 3 = .ok (.invokestatic 82, 3) := by decide +kernel
theorem dX10_plan_6 : decode cX10_plan 6 = .ok (.ifCond .eq 22, 3) := by decide +kernel
theorem dX10_plan_9 : decode cX10_plan 9 = .ok (.iload_n 2, 1) := by decide +kernel
theorem dX10_plan_10 : decode cX10_plan 10 = .ok (.iconst 1, 1) := by decide +kernel
theorem dX10_plan_11 : decode cX10_plan 11 = .ok (.bipush 6, 2) := by decide +kernel
theorem dX10_plan_13 : decode cX10_plan 13 = .ok (.invokestatic 82, 3) := by decide +kernel
theorem dX10_plan_16 : decode cX10_plan 16 = .ok (.ifCond .eq 12, 3) := by decide +kernel
theorem dX10_plan_19 : decode cX10_plan 19 = .ok (.iload_n 3, 1) := by decide +kernel
theorem dX10_plan_20 : decode cX10_plan 20 = .ok (.iconst 0, 1) := by decide +kernel
theorem dX10_plan_21 : decode cX10_plan 21 = .ok (.iconst 1, 1) := by decide +kernel
theorem dX10_plan_22 : decode cX10_plan 22 = .ok (.invokestatic 82, 3) := by decide +kernel
theorem dX10_plan_25 : decode cX10_plan 25 = .ok (.ifCond .ne 6, 3) := by decide +kernel
theorem dX10_plan_28 : decode cX10_plan 28 = .ok (.bipush (-2), 2) := by decide +kernel
theorem dX10_plan_30 : decode cX10_plan 30 = .ok (.ireturn, 1) := by decide +kernel
theorem dX10_plan_31 : decode cX10_plan 31 = .ok (.aload_n 0, 1) := by decide +kernel
theorem dX10_plan_32 : decode cX10_plan 32 = .ok (.iload_n 1, 1) := by decide +kernel
theorem dX10_plan_33 : decode cX10_plan 33 = .ok (.iload_n 2, 1) := by decide +kernel
theorem dX10_plan_34 : decode cX10_plan 34 = .ok (.invokevirtual 310, 3) := by decide +kernel
theorem dX10_plan_37 : decode cX10_plan 37 = .ok (.aload_n 0, 1) := by decide +kernel
theorem dX10_plan_38 : decode cX10_plan 38 = .ok (.getfield 301, 3) := by decide +kernel
theorem dX10_plan_41 : decode cX10_plan 41 = .ok (.ifCond .lt 7, 3) := by decide +kernel
theorem dX10_plan_44 : decode cX10_plan 44 = .ok (.iload_n 3, 1) := by decide +kernel
theorem dX10_plan_45 : decode cX10_plan 45 = .ok (.ifCond .ne 19, 3) := by decide +kernel
theorem dX10_plan_48 : decode cX10_plan 48 = .ok (.aload_n 0, 1) := by decide +kernel
theorem dX10_plan_49 : decode cX10_plan 49 = .ok (.getfield 301, 3) := by decide +kernel
theorem dX10_plan_52 : decode cX10_plan 52 = .ok (.ifCond .ge 7, 3) := by decide +kernel
theorem dX10_plan_55 : decode cX10_plan 55 = .ok (.iconst (-1), 1) := by decide +kernel
theorem dX10_plan_56 : decode cX10_plan 56 = .ok (.goto 7, 3) := by decide +kernel
theorem dX10_plan_59 : decode cX10_plan 59 = .ok (.aload_n 0, 1) := by decide +kernel
theorem dX10_plan_60 : decode cX10_plan 60 = .ok (.getfield 307, 3) := by decide +kernel
theorem dX10_plan_63 : decode cX10_plan 63 = .ok (.ireturn, 1) := by decide +kernel
theorem dX10_plan_64 : decode cX10_plan 64 = .ok (.iconst 0, 1) := by decide +kernel
theorem dX10_plan_65 : decode cX10_plan 65 = .ok (.istore 4, 2) := by decide +kernel
theorem dX10_plan_67 : decode cX10_plan 67 = .ok (.iload_n 1, 1) := by decide +kernel
theorem dX10_plan_68 : decode cX10_plan 68 = .ok (.iconst 1, 1) := by decide +kernel
theorem dX10_plan_69 : decode cX10_plan 69 = .ok (.isub, 1) := by decide +kernel
theorem dX10_plan_70 : decode cX10_plan 70 = .ok (.istore 5, 2) := by decide +kernel
theorem dX10_plan_72 : decode cX10_plan 72 = .ok (.iload 5, 2) := by decide +kernel
theorem dX10_plan_74 : decode cX10_plan 74 = .ok (.ifCond .lt 28, 3) := by decide +kernel
theorem dX10_plan_77 : decode cX10_plan 77 = .ok (.bipush 10, 2) := by decide +kernel
theorem dX10_plan_79 : decode cX10_plan 79 = .ok (.iload 4, 2) := by decide +kernel
theorem dX10_plan_81 : decode cX10_plan 81 = .ok (.imul, 1) := by decide +kernel
theorem dX10_plan_82 : decode cX10_plan 82 = .ok (.aload_n 0, 1) := by decide +kernel
theorem dX10_plan_83 : decode cX10_plan 83 = .ok (.getfield 301, 3) := by decide +kernel
theorem dX10_plan_86 : decode cX10_plan 86 = .ok (.iconst 2, 1) := by decide +kernel
theorem dX10_plan_87 : decode cX10_plan 87 = .ok (.iload 5, 2) := by decide +kernel
theorem dX10_plan_89 : decode cX10_plan 89 = .ok (.imul, 1) := by decide +kernel
theorem dX10_plan_90 : decode cX10_plan 90 = .ok (.ishr, 1) := by decide +kernel
theorem dX10_plan_91 : decode cX10_plan 91 = .ok (.iconst 3, 1) := by decide +kernel
theorem dX10_plan_92 : decode cX10_plan 92 = .ok (.iand, 1) := by decide +kernel
theorem dX10_plan_93 : decode cX10_plan 93 = .ok (.iadd, 1) := by decide +kernel
theorem dX10_plan_94 : decode cX10_plan 94 = .ok (.istore 4, 2) := by decide +kernel
theorem dX10_plan_96 : decode cX10_plan 96 = .ok (.iinc 5 (-1), 3) := by decide +kernel
theorem dX10_plan_99 : decode cX10_plan 99 = .ok (.goto (-27), 3) := by decide +kernel
theorem dX10_plan_102 : decode cX10_plan 102 = .ok (.iload 4, 2) := by decide +kernel
theorem dX10_plan_104 : decode cX10_plan 104 = .ok (.ireturn, 1) := by decide +kernel
theorem dX10_lay_0 : decode cX10_lay 0 = .ok (.iload_n 1, 1) := by decide +kernel
theorem dX10_lay_1 : decode cX10_lay 1 = .ok (.invokestatic 254, 3) := by decide +kernel
theorem dX10_lay_4 : decode cX10_lay 4 = .ok (.ifCond .eq 22, 3) := by decide +kernel
theorem dX10_lay_7 : decode cX10_lay 7 = .ok (.iload_n 2, 1) := by decide +kernel
theorem dX10_lay_8 : decode cX10_lay 8 = .ok (.iconst 1, 1) := by decide +kernel
theorem dX10_lay_9 : decode cX10_lay 9 = .ok (.iconst 4, 1) := by decide +kernel
theorem dX10_lay_10 : decode cX10_lay 10 = .ok (.invokestatic 82, 3) := by decide +kernel
theorem dX10_lay_13 : decode cX10_lay 13 = .ok (.ifCond .eq 13, 3) := by decide +kernel
theorem dX10_lay_16 : decode cX10_lay 16 = .ok (.iload_n 3, 1) := by decide +kernel
theorem dX10_lay_17 : decode cX10_lay 17 = .ok (.iconst 1, 1) := by decide +kernel
theorem dX10_lay_18 : decode cX10_lay 18 = .ok (.bipush 6, 2) := by decide +kernel
theorem dX10_lay_20 : decode cX10_lay 20 = .ok (.invokestatic 82, 3) := by decide +kernel
theorem dX10_lay_23 : decode cX10_lay 23 = .ok (.ifCond .ne 6, 3) := by decide +kernel
theorem dX10_lay_26 : decode cX10_lay 26 = .ok (.bipush (-2), 2) := by decide +kernel
theorem dX10_lay_28 : decode cX10_lay 28 = .ok (.ireturn, 1) := by decide +kernel
theorem dX10_lay_29 : decode cX10_lay 29 = .ok (.aload_n 0, 1) := by decide +kernel
theorem dX10_lay_30 : decode cX10_lay 30 = .ok (.iload_n 2, 1) := by decide +kernel
theorem dX10_lay_31 : decode cX10_lay 31 = .ok (.iload_n 3, 1) := by decide +kernel
theorem dX10_lay_32 : decode cX10_lay 32 = .ok (.invokevirtual 310, 3) := by decide +kernel
theorem dX10_lay_35 : decode cX10_lay 35 = .ok (.aload_n 0, 1) := by decide +kernel
theorem dX10_lay_36 : decode cX10_lay 36 = .ok (.getfield 301, 3) := by decide +kernel
theorem dX10_lay_39 : decode cX10_lay 39 = .ok (.ifCond .ge 6, 3) := by decide +kernel
theorem dX10_lay_42 : decode cX10_lay 42 = .ok (.bipush (-3), 2) := by decide +kernel
theorem dX10_lay_44 : decode cX10_lay 44 = .ok (.ireturn, 1) := by decide +kernel
theorem dX10_lay_45 : decode cX10_lay 45 = .ok (.aload_n 0, 1) := by decide +kernel
theorem dX10_lay_46 : decode cX10_lay 46 = .ok (.getfield 31, 3) := by decide +kernel
theorem dX10_lay_49 : decode cX10_lay 49 = .ok (.iload_n 1, 1) := by decide +kernel
theorem dX10_lay_50 : decode cX10_lay 50 = .ok (.iload_n 2, 1) := by decide +kernel
theorem dX10_lay_51 : decode cX10_lay 51 = .ok (.iastore, 1) := by decide +kernel
theorem dX10_lay_52 : decode cX10_lay 52 = .ok (.iconst 0, 1) := by decide +kernel
theorem dX10_lay_53 : decode cX10_lay 53 = .ok (.istore 4, 2) := by decide +kernel
theorem dX10_lay_55 : decode cX10_lay 55 = .ok (.iload 4, 2) := by decide +kernel
theorem dX10_lay_57 : decode cX10_lay 57 = .ok (.iload_n 2, 1) := by decide +kernel
theorem dX10_lay_58 : decode cX10_lay 58 = .ok (.if_icmp .ge 69, 3) := by decide +kernel
theorem dX10_lay_61 : decode cX10_lay 61 = .ok (.aload_n 0, 1) := by decide +kernel
theorem dX10_lay_62 : decode cX10_lay 62 = .ok (.getfield 34, 3) := by decide +kernel
theorem dX10_lay_65 : decode cX10_lay 65 = .ok (.bipush 6, 2) := by decide +kernel
theorem dX10_lay_67 : decode cX10_lay 67 = .ok (.iload_n 1, 1) := by decide +kernel
theorem dX10_lay_68 : decode cX10_lay 68 = .ok (.imul, 1) := by decide +kernel
theorem dX10_lay_69 : decode cX10_lay 69 = .ok (.iload 4, 2) := by decide +kernel
theorem dX10_lay_71 : decode cX10_lay 71 = .ok (.iadd, 1) := by decide +kernel
theorem dX10_lay_72 : decode cX10_lay 72 = .ok (.iload_n 3, 1) := by decide +kernel
theorem dX10_lay_73 : decode cX10_lay 73 = .ok (.iastore, 1) := by decide +kernel
theorem dX10_lay_74 : decode cX10_lay 74 = .ok (.iconst 0, 1) := by decide +kernel
theorem dX10_lay_75 : decode cX10_lay 75 = .ok (.istore 5, 2) := by decide +kernel
theorem dX10_lay_77 : decode cX10_lay 77 = .ok (.iload 5, 2) := by decide +kernel
theorem dX10_lay_79 : decode cX10_lay 79 = .ok (.iconst 3, 1) := by decide +kernel
theorem dX10_lay_80 : decode cX10_lay 80 = .ok (.if_icmp .ge 41, 3) := by decide +kernel
theorem dX10_lay_83 : decode cX10_lay 83 = .ok (.aload_n 0, 1) := by decide +kernel
theorem dX10_lay_84 : decode cX10_lay 84 = .ok (.getfield 37, 3) := by decide +kernel
theorem dX10_lay_87 : decode cX10_lay 87 = .ok (.bipush 18, 2) := by decide +kernel
theorem dX10_lay_89 : decode cX10_lay 89 = .ok (.iload_n 1, 1) := by decide +kernel
theorem dX10_lay_90 : decode cX10_lay 90 = .ok (.imul, 1) := by decide +kernel
theorem dX10_lay_91 : decode cX10_lay 91 = .ok (.iconst 3, 1) := by decide +kernel
theorem dX10_lay_92 : decode cX10_lay 92 = .ok (.iload 4, 2) := by decide +kernel
theorem dX10_lay_94 : decode cX10_lay 94 = .ok (.imul, 1) := by decide +kernel
theorem dX10_lay_95 : decode cX10_lay 95 = .ok (.iadd, 1) := by decide +kernel
theorem dX10_lay_96 : decode cX10_lay 96 = .ok (.iload 5, 2) := by decide +kernel
theorem dX10_lay_98 : decode cX10_lay 98 = .ok (.iadd, 1) := by decide +kernel
theorem dX10_lay_99 : decode cX10_lay 99 = .ok (.aload_n 0, 1) := by decide +kernel
theorem dX10_lay_100 : decode cX10_lay 100 = .ok (.getfield 301, 3) := by decide +kernel
theorem dX10_lay_103 : decode cX10_lay 103 = .ok (.iconst 2, 1) := by decide +kernel
theorem dX10_lay_104 : decode cX10_lay 104 = .ok (.iload_n 2, 1) := by decide +kernel
theorem dX10_lay_105 : decode cX10_lay 105 = .ok (.iconst 1, 1) := by decide +kernel
theorem dX10_lay_106 : decode cX10_lay 106 = .ok (.isub, 1) := by decide +kernel
theorem dX10_lay_107 : decode cX10_lay 107 = .ok (.iload 4, 2) := by decide +kernel
theorem dX10_lay_109 : decode cX10_lay 109 = .ok (.isub, 1) := by decide +kernel
theorem dX10_lay_110 : decode cX10_lay 110 = .ok (.imul, 1) := by decide +kernel
theorem dX10_lay_111 : decode cX10_lay 111 = .ok (.ishr, 1) := by decide +kernel
theorem dX10_lay_112 : decode cX10_lay 112 = .ok (.iconst 3, 1) := by decide +kernel
theorem dX10_lay_113 : decode cX10_lay 113 = .ok (.iand, 1) := by decide +kernel
theorem dX10_lay_114 : decode cX10_lay 114 = .ok (.iastore, 1) := by decide +kernel
theorem dX10_lay_115 : decode cX10_lay 115 = .ok (.iinc 5 1, 3) := by decide +kernel
theorem dX10_lay_118 : decode cX10_lay 118 = .ok (.goto (-41), 3) := by decide +kernel
theorem dX10_lay_121 : decode cX10_lay 121 = .ok (.iinc 4 1, 3) := by decide +kernel
theorem dX10_lay_124 : decode cX10_lay 124 = .ok (.goto (-69), 3) := by decide +kernel
theorem dX10_lay_127 : decode cX10_lay 127 = .ok (.aload_n 0, 1) := by decide +kernel
theorem dX10_lay_128 : decode cX10_lay 128 = .ok (.getfield 307, 3) := by decide +kernel
theorem dX10_lay_131 : decode cX10_lay 131 = .ok (.ireturn, 1) := by decide +kernel
theorem dX10_setCode_0 : decode cX10_setCode 0 = .ok (.aload_n 0, 1) := by decide +kernel
theorem dX10_setCode_1 : decode cX10_setCode 1 = .ok (.getfield 13, 3) := by decide +kernel
theorem dX10_setCode_4 : decode cX10_setCode 4 = .ok (.iconst 0, 1) := by decide +kernel
theorem dX10_setCode_5 : decode cX10_setCode 5 = .ok (.iload_n 1, 1) := by decide +kernel
theorem dX10_setCode_6 : decode cX10_setCode 6 = .ok (.iconst 4, 1) := by decide +kernel
theorem dX10_setCode_7 : decode cX10_setCode 7 = .ok (.ishr, 1) := by decide +kernel
theorem dX10_setCode_8 : decode cX10_setCode 8 = .ok (.iastore, 1) := by decide +kernel
theorem dX10_setCode_9 : decode cX10_setCode 9 = .ok (.aload_n 0, 1) := by decide +kernel
theorem dX10_setCode_10 : decode cX10_setCode 10 = .ok (.getfield 13, 3) := by decide +kernel
theorem dX10_setCode_13 : decode cX10_setCode 13 = .ok (.iconst 1, 1) := by decide +kernel
theorem dX10_setCode_14 : decode cX10_setCode 14 = .ok (.iload_n 1, 1) := by decide +kernel
theorem dX10_setCode_15 : decode cX10_setCode 15 = .ok (.iconst 2, 1) := by decide +kernel
theorem dX10_setCode_16 : decode cX10_setCode 16 = .ok (.ishr, 1) := by decide +kernel
theorem dX10_setCode_17 : decode cX10_setCode 17 = .ok (.iconst 3, 1) := by decide +kernel
theorem dX10_setCode_18 : decode cX10_setCode 18 = .ok (.iand, 1) := by decide +kernel
theorem dX10_setCode_19 : decode cX10_setCode 19 = .ok (.iastore, 1) := by decide +kernel
theorem dX10_setCode_20 : decode cX10_setCode 20 = .ok (.aload_n 0, 1) := by decide +kernel
theorem dX10_setCode_21 : decode cX10_setCode 21 = .ok (.getfield 13, 3) := by decide +kernel
theorem dX10_setCode_24 : decode cX10_setCode 24 = .ok (.iconst 2, 1) := by decide +kernel
theorem dX10_setCode_25 : decode cX10_setCode 25 = .ok (.iload_n 1, 1) := by decide +kernel
theorem dX10_setCode_26 : decode cX10_setCode 26 = .ok (.iconst 3, 1) := by decide +kernel
theorem dX10_setCode_27 : decode cX10_setCode 27 = .ok (.iand, 1) := by decide +kernel
theorem dX10_setCode_28 : decode cX10_setCode 28 = .ok (.iastore, 1) := by decide +kernel
theorem dX10_setCode_29 : decode cX10_setCode 29 = .ok (.return_, 1) := by decide +kernel
theorem dX10_codeNow_0 : decode cX10_codeNow 0 = .ok (.bipush 16, 2) := by decide +kernel
theorem dX10_codeNow_2 : decode cX10_codeNow 2 = .ok (.aload_n 0, 1) := by decide +kernel
theorem dX10_codeNow_3 : decode cX10_codeNow 3 = .ok (.getfield 13, 3) := by decide +kernel
theorem dX10_codeNow_6 : decode cX10_codeNow 6 = .ok (.iconst 0, 1) := by decide +kernel
theorem dX10_codeNow_7 : decode cX10_codeNow 7 = .ok (.iaload, 1) := by decide +kernel
theorem dX10_codeNow_8 : decode cX10_codeNow 8 = .ok (.imul, 1) := by decide +kernel
theorem dX10_codeNow_9 : decode cX10_codeNow 9 = .ok (.iconst 4, 1) := by decide +kernel
theorem dX10_codeNow_10 : decode cX10_codeNow 10 = .ok (.aload_n 0, 1) := by decide +kernel
theorem dX10_codeNow_11 : decode cX10_codeNow 11 = .ok (.getfield 13, 3) := by decide +kernel
theorem dX10_codeNow_14 : decode cX10_codeNow 14 = .ok (.iconst 1, 1) := by decide +kernel
theorem dX10_codeNow_15 : decode cX10_codeNow 15 = .ok (.iaload, 1) := by decide +kernel
theorem dX10_codeNow_16 : decode cX10_codeNow 16 = .ok (.imul, 1) := by decide +kernel
theorem dX10_codeNow_17 : decode cX10_codeNow 17 = .ok (.iadd, 1) := by decide +kernel
theorem dX10_codeNow_18 : decode cX10_codeNow 18 = .ok (.aload_n 0, 1) := by decide +kernel
theorem dX10_codeNow_19 : decode cX10_codeNow 19 = .ok (.getfield 13, 3) := by decide +kernel
theorem dX10_codeNow_22 : decode cX10_codeNow 22 = .ok (.iconst 2, 1) := by decide +kernel
theorem dX10_codeNow_23 : decode cX10_codeNow 23 = .ok (.iaload, 1) := by decide +kernel
theorem dX10_codeNow_24 : decode cX10_codeNow 24 = .ok (.iadd, 1) := by decide +kernel
theorem dX10_codeNow_25 : decode cX10_codeNow 25 = .ok (.ireturn, 1) := by decide +kernel
theorem dX10_waryCode_0 : decode cX10_waryCode 0 = .ok (.aload_n 0, 1) := by decide +kernel
theorem dX10_waryCode_1 : decode cX10_waryCode 1 = .ok (.invokevirtual 313, 3) := by decide +kernel
theorem dX10_waryCode_4 : decode cX10_waryCode 4 = .ok (.istore_n 1, 1) := by decide +kernel
theorem dX10_waryCode_5 : decode cX10_waryCode 5 = .ok (.iconst (-1), 1) := by decide +kernel
theorem dX10_waryCode_6 : decode cX10_waryCode 6 = .ok (.istore_n 2, 1) := by decide +kernel
theorem dX10_waryCode_7 : decode cX10_waryCode 7 = .ok (.iconst 0, 1) := by decide +kernel
theorem dX10_waryCode_8 : decode cX10_waryCode 8 = .ok (.istore_n 3, 1) := by decide +kernel
theorem dX10_waryCode_9 : decode cX10_waryCode 9 = .ok (.iconst 0, 1) := by decide +kernel
theorem dX10_waryCode_10 : decode cX10_waryCode 10 = .ok (.istore 4, 2) := by decide +kernel
theorem dX10_waryCode_12 : decode cX10_waryCode 12 = .ok (.iconst 0, 1) := by decide +kernel
theorem dX10_waryCode_13 : decode cX10_waryCode 13 = .ok (.istore 5, 2) := by decide +kernel
theorem dX10_waryCode_15 : decode cX10_waryCode 15 = .ok (.iload 5, 2) := by decide +kernel
theorem dX10_waryCode_17 : decode cX10_waryCode 17 = .ok (.bipush 64, 2) := by decide +kernel
theorem dX10_waryCode_19 : decode cX10_waryCode 19 = .ok (.if_icmp .ge 84, 3) := by decide +kernel
theorem dX10_waryCode_22 : decode cX10_waryCode 22 = .ok (.aload_n 0, 1) := by decide +kernel
theorem dX10_waryCode_23 : decode cX10_waryCode 23 = .ok (.iload 5, 2) := by decide +kernel
theorem dX10_waryCode_25 : decode cX10_waryCode 25 = .ok (.invokevirtual 316, 3) := by decide +kernel
theorem dX10_waryCode_28 : decode cX10_waryCode 28 = .ok (.aload_n 0, 1) := by decide +kernel
theorem dX10_waryCode_29 : decode cX10_waryCode 29 = .ok (.invokevirtual 177, 3) := by decide +kernel
theorem dX10_waryCode_32 : decode cX10_waryCode 32 = .ok (.ifCond .eq 6, 3) := by decide +kernel
theorem dX10_waryCode_35 : decode cX10_waryCode 35 = .ok (.goto 62, 3) := by decide +kernel
theorem dX10_waryCode_38 : decode cX10_waryCode 38 = .ok (.aload_n 0, 1) := by decide +kernel
theorem dX10_waryCode_39 : decode cX10_waryCode 39 = .ok (.getfield 55, 3) := by decide +kernel
theorem dX10_waryCode_42 : decode cX10_waryCode 42 = .ok (.iconst 0, 1) := by decide +kernel
theorem dX10_waryCode_43 : decode cX10_waryCode 43 = .ok (.iaload, 1) := by decide +kernel
theorem dX10_waryCode_44 : decode cX10_waryCode 44 = .ok (.aload_n 0, 1) := by decide +kernel
theorem dX10_waryCode_45 : decode cX10_waryCode 45 = .ok (.getfield 55, 3) := by decide +kernel
theorem dX10_waryCode_48 : decode cX10_waryCode 48 = .ok (.iconst 1, 1) := by decide +kernel
theorem dX10_waryCode_49 : decode cX10_waryCode 49 = .ok (.iaload, 1) := by decide +kernel
theorem dX10_waryCode_50 : decode cX10_waryCode 50 = .ok (.iadd, 1) := by decide +kernel
theorem dX10_waryCode_51 : decode cX10_waryCode 51 = .ok (.aload_n 0, 1) := by decide +kernel
theorem dX10_waryCode_52 : decode cX10_waryCode 52 = .ok (.getfield 55, 3) := by decide +kernel
theorem dX10_waryCode_55 : decode cX10_waryCode 55 = .ok (.iconst 2, 1) := by decide +kernel
theorem dX10_waryCode_56 : decode cX10_waryCode 56 = .ok (.iaload, 1) := by decide +kernel
theorem dX10_waryCode_57 : decode cX10_waryCode 57 = .ok (.iadd, 1) := by decide +kernel
theorem dX10_waryCode_58 : decode cX10_waryCode 58 = .ok (.istore 6, 2) := by decide +kernel
theorem dX10_waryCode_60 : decode cX10_waryCode 60 = .ok (.iload_n 2, 1) := by decide +kernel
theorem dX10_waryCode_61 : decode cX10_waryCode 61 = .ok (.ifCond .lt 24, 3) := by decide +kernel
theorem dX10_waryCode_64 : decode cX10_waryCode 64 = .ok (.iload 6, 2) := by decide +kernel
theorem dX10_waryCode_66 : decode cX10_waryCode 66 = .ok (.iload_n 3, 1) := by decide +kernel
theorem dX10_waryCode_67 : decode cX10_waryCode 67 = .ok (.if_icmp .gt 18, 3) := by decide +kernel
theorem dX10_waryCode_70 : decode cX10_waryCode 70 = .ok (.iload 6, 2) := by decide +kernel
theorem dX10_waryCode_72 : decode cX10_waryCode 72 = .ok (.iload_n 3, 1) := by decide +kernel
theorem dX10_waryCode_73 : decode cX10_waryCode 73 = .ok (.if_icmp .ne 24, 3) := by decide +kernel
theorem dX10_waryCode_76 : decode cX10_waryCode 76 = .ok (.aload_n 0, 1) := by decide +kernel
theorem dX10_waryCode_77 : decode cX10_waryCode 77 = .ok (.invokevirtual 140, 3) := by decide +kernel
theorem dX10_waryCode_80 : decode cX10_waryCode 80 = .ok (.iload 4, 2) := by decide +kernel
theorem dX10_waryCode_82 : decode cX10_waryCode 82 = .ok (.if_icmp .ge 15, 3) := by decide +kernel
theorem dX10_waryCode_85 : decode cX10_waryCode 85 = .ok (.iload 5, 2) := by decide +kernel
theorem dX10_waryCode_87 : decode cX10_waryCode 87 = .ok (.istore_n 2, 1) := by decide +kernel
theorem dX10_waryCode_88 : decode cX10_waryCode 88 = .ok (.iload 6, 2) := by decide +kernel
theorem dX10_waryCode_90 : decode cX10_waryCode 90 = .ok (.istore_n 3, 1) := by decide +kernel
theorem dX10_waryCode_91 : decode cX10_waryCode 91 = .ok (.aload_n 0, 1) := by decide +kernel
theorem dX10_waryCode_92 : decode cX10_waryCode 92 = .ok (.invokevirtual 140, 3) := by decide +kernel
theorem dX10_waryCode_95 : decode cX10_waryCode 95 = .ok (.istore 4, 2) := by decide +kernel
theorem dX10_waryCode_97 : decode cX10_waryCode 97 = .ok (.iinc 5 1, 3) := by decide +kernel
theorem dX10_waryCode_100 : decode cX10_waryCode 100 = .ok (.goto (-85), 3) := by decide +kernel
theorem dX10_waryCode_103 : decode cX10_waryCode 103 = .ok (.aload_n 0, 1) := by decide +kernel
theorem dX10_waryCode_104 : decode cX10_waryCode 104 = .ok (.iload_n 1, 1) := by decide +kernel
theorem dX10_waryCode_105 : decode cX10_waryCode 105 = .ok (.invokevirtual 316, 3) := by decide +kernel
theorem dX10_waryCode_108 : decode cX10_waryCode 108 = .ok (.iload_n 2, 1) := by decide +kernel
theorem dX10_waryCode_109 : decode cX10_waryCode 109 = .ok (.ireturn, 1) := by decide +kernel
theorem dX10_wary_0 : decode cX10_wary 0 = .ok (.aload_n 0, 1) := by decide +kernel
theorem dX10_wary_1 : decode cX10_wary 1 = .ok (.invokevirtual 319, 3) := by decide +kernel
theorem dX10_wary_4 : decode cX10_wary 4 = .ok (.ireturn, 1) := by decide +kernel
theorem dX10_careful_0 : decode cX10_careful 0 = .ok (.iload_n 1, 1) := by decide +kernel
theorem dX10_careful_1 : decode cX10_careful 1 = .ok (.iconst 0, 1) := by decide +kernel
theorem dX10_careful_2 : decode cX10_careful 2 = .ok (.bipush 30, 2) := by decide +kernel
theorem dX10_careful_4 : decode cX10_careful 4 = .ok (.invokestatic 82, 3) := by decide +kernel
theorem dX10_careful_7 : decode cX10_careful 7 = .ok (.ifCond .eq 13, 3) := by decide +kernel
theorem dX10_careful_10 : decode cX10_careful 10 = .ok (.iload_n 2, 1) := by decide +kernel
theorem dX10_careful_11 : decode cX10_careful 11 = .ok (.iconst 0, 1) := by decide +kernel
theorem dX10_careful_12 : decode cX10_careful 12 = .ok (.bipush 6, 2) := by decide +kernel
theorem dX10_careful_14 : decode cX10_careful 14 = .ok (.invokestatic 82, 3) := by decide +kernel
theorem dX10_careful_17 : decode cX10_careful 17 = .ok (.ifCond .ne 6, 3) := by decide +kernel
theorem dX10_careful_20 : decode cX10_careful 20 = .ok (.bipush (-2), 2) := by decide +kernel
theorem dX10_careful_22 : decode cX10_careful 22 = .ok (.ireturn, 1) := by decide +kernel
theorem dX10_careful_23 : decode cX10_careful 23 = .ok (.aload_n 0, 1) := by decide +kernel
theorem dX10_careful_24 : decode cX10_careful 24 = .ok (.invokevirtual 171, 3) := by decide +kernel
theorem dX10_careful_27 : decode cX10_careful 27 = .ok (.iconst 0, 1) := by decide +kernel
theorem dX10_careful_28 : decode cX10_careful 28 = .ok (.istore_n 3, 1) := by decide +kernel
theorem dX10_careful_29 : decode cX10_careful 29 = .ok (.iload_n 3, 1) := by decide +kernel
theorem dX10_careful_30 : decode cX10_careful 30 = .ok (.iload_n 1, 1) := by decide +kernel
theorem dX10_careful_31 : decode cX10_careful 31 = .ok (.if_icmp .ge 27, 3) := by decide +kernel
theorem dX10_careful_34 : decode cX10_careful 34 = .ok (.aload_n 0, 1) := by decide +kernel
theorem dX10_careful_35 : decode cX10_careful 35 = .ok (.iconst 0, 1) := by decide +kernel
theorem dX10_careful_36 : decode cX10_careful 36 = .ok (.aload_n 0, 1) := by decide +kernel
theorem dX10_careful_37 : decode cX10_careful 37 = .ok (.invokevirtual 319, 3) := by decide +kernel
theorem dX10_careful_40 : decode cX10_careful 40 = .ok (.invokestatic 90, 3) := by decide +kernel
theorem dX10_careful_43 : decode cX10_careful 43 = .ok (.invokevirtual 316, 3) := by decide +kernel
theorem dX10_careful_46 : decode cX10_careful 46 = .ok (.aload_n 0, 1) := by decide +kernel
theorem dX10_careful_47 : decode cX10_careful 47 = .ok (.invokevirtual 168, 3) := by decide +kernel
theorem dX10_careful_50 : decode cX10_careful 50 = .ok (.istore 4, 2) := by decide +kernel
theorem dX10_careful_52 : decode cX10_careful 52 = .ok (.iinc 3 1, 3) := by decide +kernel
theorem dX10_careful_55 : decode cX10_careful 55 = .ok (.goto (-26), 3) := by decide +kernel
theorem dX10_careful_58 : decode cX10_careful 58 = .ok (.iload_n 2, 1) := by decide +kernel
theorem dX10_careful_59 : decode cX10_careful 59 = .ok (.tableswitch 78 0 6 #[41, 54, 62, 78, 78, 78, 70], 41) := by decide +kernel
theorem dX10_careful_100 : decode cX10_careful 100 = .ok (.aload_n 0, 1) := by decide +kernel
theorem dX10_careful_101 : decode cX10_careful 101 = .ok (.getfield 137, 3) := by decide +kernel
theorem dX10_careful_104 : decode cX10_careful 104 = .ok (.aload_n 0, 1) := by decide +kernel
theorem dX10_careful_105 : decode cX10_careful 105 = .ok (.getfield 150, 3) := by decide +kernel
theorem dX10_careful_108 : decode cX10_careful 108 = .ok (.isub, 1) := by decide +kernel
theorem dX10_careful_109 : decode cX10_careful 109 = .ok (.istore_n 3, 1) := by decide +kernel
theorem dX10_careful_110 : decode cX10_careful 110 = .ok (.goto 36, 3) := by decide +kernel
theorem dX10_careful_113 : decode cX10_careful 113 = .ok (.aload_n 0, 1) := by decide +kernel
theorem dX10_careful_114 : decode cX10_careful 114 = .ok (.invokevirtual 147, 3) := by decide +kernel
theorem dX10_careful_117 : decode cX10_careful 117 = .ok (.istore_n 3, 1) := by decide +kernel
theorem dX10_careful_118 : decode cX10_careful 118 = .ok (.goto 28, 3) := by decide +kernel
theorem dX10_careful_121 : decode cX10_careful 121 = .ok (.aload_n 0, 1) := by decide +kernel
theorem dX10_careful_122 : decode cX10_careful 122 = .ok (.invokevirtual 292, 3) := by decide +kernel
theorem dX10_careful_125 : decode cX10_careful 125 = .ok (.istore_n 3, 1) := by decide +kernel
theorem dX10_careful_126 : decode cX10_careful 126 = .ok (.goto 20, 3) := by decide +kernel
theorem dX10_careful_129 : decode cX10_careful 129 = .ok (.aload_n 0, 1) := by decide +kernel
theorem dX10_careful_130 : decode cX10_careful 130 = .ok (.invokevirtual 313, 3) := by decide +kernel
theorem dX10_careful_133 : decode cX10_careful 133 = .ok (.istore_n 3, 1) := by decide +kernel
theorem dX10_careful_134 : decode cX10_careful 134 = .ok (.goto 12, 3) := by decide +kernel
theorem dX10_careful_137 : decode cX10_careful 137 = .ok (.aload_n 0, 1) := by decide +kernel
theorem dX10_careful_138 : decode cX10_careful 138 = .ok (.getfield 7, 3) := by decide +kernel
theorem dX10_careful_141 : decode cX10_careful 141 = .ok (.iload_n 2, 1) := by decide +kernel
theorem dX10_careful_142 : decode cX10_careful 142 = .ok (.iconst 3, 1) := by decide +kernel
theorem dX10_careful_143 : decode cX10_careful 143 = .ok (.isub, 1) := by decide +kernel
theorem dX10_careful_144 : decode cX10_careful 144 = .ok (.iaload, 1) := by decide +kernel
theorem dX10_careful_145 : decode cX10_careful 145 = .ok (.istore_n 3, 1) := by decide +kernel
theorem dX10_careful_146 : decode cX10_careful 146 = .ok (.aload_n 0, 1) := by decide +kernel
theorem dX10_careful_147 : decode cX10_careful 147 = .ok (.invokevirtual 174, 3) := by decide +kernel
theorem dX10_careful_150 : decode cX10_careful 150 = .ok (.iload_n 3, 1) := by decide +kernel
theorem dX10_careful_151 : decode cX10_careful 151 = .ok (.ireturn, 1) := by decide +kernel
theorem dX10_isSheet_0 : decode cX10_isSheet 0 = .ok (.iload_n 0, 1) := by decide +kernel
theorem dX10_isSheet_1 : decode cX10_isSheet 1 = .ok (.iconst 0, 1) := by decide +kernel
theorem dX10_isSheet_2 : decode cX10_isSheet 2 = .ok (.iconst 3, 1) := by decide +kernel
theorem dX10_isSheet_3 : decode cX10_isSheet 3 = .ok (.invokestatic 82, 3) := by decide +kernel
theorem dX10_isSheet_6 : decode cX10_isSheet 6 = .ok (.ireturn, 1) := by decide +kernel
theorem dX10_otherBy_0 : decode cX10_otherBy 0 = .ok (.iconst 0, 1) := by decide +kernel
theorem dX10_otherBy_1 : decode cX10_otherBy 1 = .ok (.istore_n 3, 1) := by decide +kernel
theorem dX10_otherBy_2 : decode cX10_otherBy 2 = .ok (.iload_n 3, 1) := by decide +kernel
theorem dX10_otherBy_3 : decode cX10_otherBy 3 = .ok (.aload_n 0, 1) := by decide +kernel
theorem dX10_otherBy_4 : decode cX10_otherBy 4 = .ok (.getfield 46, 3) := by decide +kernel
theorem dX10_otherBy_7 : decode cX10_otherBy 7 = .ok (.iload_n 1, 1) := by decide +kernel
theorem dX10_otherBy_8 : decode cX10_otherBy 8 = .ok (.iaload, 1) := by decide +kernel
theorem dX10_otherBy_9 : decode cX10_otherBy 9 = .ok (.if_icmp .ge 37, 3) := by decide +kernel
theorem dX10_otherBy_12 : decode cX10_otherBy 12 = .ok (.aload_n 0, 1) := by decide +kernel
theorem dX10_otherBy_13 : decode cX10_otherBy 13 = .ok (.invokevirtual 168, 3) := by decide +kernel
theorem dX10_otherBy_16 : decode cX10_otherBy 16 = .ok (.istore 4, 2) := by decide +kernel
theorem dX10_otherBy_18 : decode cX10_otherBy 18 = .ok (.aload_n 0, 1) := by decide +kernel
theorem dX10_otherBy_19 : decode cX10_otherBy 19 = .ok (.getfield 49, 3) := by decide +kernel
theorem dX10_otherBy_22 : decode cX10_otherBy 22 = .ok (.bipush 40, 2) := by decide +kernel
theorem dX10_otherBy_24 : decode cX10_otherBy 24 = .ok (.iload_n 1, 1) := by decide +kernel
theorem dX10_otherBy_25 : decode cX10_otherBy 25 = .ok (.imul, 1) := by decide +kernel
theorem dX10_otherBy_26 : decode cX10_otherBy 26 = .ok (.iload_n 3, 1) := by decide +kernel
theorem dX10_otherBy_27 : decode cX10_otherBy 27 = .ok (.iadd, 1) := by decide +kernel
theorem dX10_otherBy_28 : decode cX10_otherBy 28 = .ok (.iaload, 1) := by decide +kernel
theorem dX10_otherBy_29 : decode cX10_otherBy 29 = .ok (.aload_n 0, 1) := by decide +kernel
theorem dX10_otherBy_30 : decode cX10_otherBy 30 = .ok (.getfield 7, 3) := by decide +kernel
theorem dX10_otherBy_33 : decode cX10_otherBy 33 = .ok (.iload_n 2, 1) := by decide +kernel
theorem dX10_otherBy_34 : decode cX10_otherBy 34 = .ok (.iaload, 1) := by decide +kernel
theorem dX10_otherBy_35 : decode cX10_otherBy 35 = .ok (.if_icmp .eq 5, 3) := by decide +kernel
theorem dX10_otherBy_38 : decode cX10_otherBy 38 = .ok (.iload_n 3, 1) := by decide +kernel
theorem dX10_otherBy_39 : decode cX10_otherBy 39 = .ok (.ireturn, 1) := by decide +kernel
theorem dX10_otherBy_40 : decode cX10_otherBy 40 = .ok (.iinc 3 1, 3) := by decide +kernel
theorem dX10_otherBy_43 : decode cX10_otherBy 43 = .ok (.goto (-41), 3) := by decide +kernel
theorem dX10_otherBy_46 : decode cX10_otherBy 46 = .ok (.iconst (-1), 1) := by decide +kernel
theorem dX10_otherBy_47 : decode cX10_otherBy 47 = .ok (.ireturn, 1) := by decide +kernel
theorem dX10_tells_0 : decode cX10_tells 0 = .ok (.iload_n 1, 1) := by decide +kernel
theorem dX10_tells_1 : decode cX10_tells 1 = .ok (.invokestatic 322, 3) := by decide +kernel
theorem dX10_tells_4 : decode cX10_tells 4 = .ok (.ifCond .eq 19, 3) := by decide +kernel
theorem dX10_tells_7 : decode cX10_tells 7 = .ok (.iload_n 2, 1) := by decide +kernel
theorem dX10_tells_8 : decode cX10_tells 8 = .ok (.invokestatic 156, 3) := by decide +kernel
theorem dX10_tells_11 : decode cX10_tells 11 = .ok (.ifCond .eq 12, 3) := by decide +kernel
theorem dX10_tells_14 : decode cX10_tells 14 = .ok (.iload_n 3, 1) := by decide +kernel
theorem dX10_tells_15 : decode cX10_tells 15 = .ok (.iconst 0, 1) := by decide +kernel
theorem dX10_tells_16 : decode cX10_tells 16 = .ok (.iconst 1, 1) := by decide +kernel
theorem dX10_tells_17 : decode cX10_tells 17 = .ok (.invokestatic 82, 3) := by decide +kernel
theorem dX10_tells_20 : decode cX10_tells 20 = .ok (.ifCond .ne 6, 3) := by decide +kernel
theorem dX10_tells_23 : decode cX10_tells 23 = .ok (.bipush (-2), 2) := by decide +kernel
theorem dX10_tells_25 : decode cX10_tells 25 = .ok (.ireturn, 1) := by decide +kernel
theorem dX10_tells_26 : decode cX10_tells 26 = .ok (.aload_n 0, 1) := by decide +kernel
theorem dX10_tells_27 : decode cX10_tells 27 = .ok (.getfield 43, 3) := by decide +kernel
theorem dX10_tells_30 : decode cX10_tells 30 = .ok (.iload_n 1, 1) := by decide +kernel
theorem dX10_tells_31 : decode cX10_tells 31 = .ok (.iaload, 1) := by decide +kernel
theorem dX10_tells_32 : decode cX10_tells 32 = .ok (.ifCond .ge 6, 3) := by decide +kernel
theorem dX10_tells_35 : decode cX10_tells 35 = .ok (.bipush (-11), 2) := by decide +kernel
theorem dX10_tells_37 : decode cX10_tells 37 = .ok (.ireturn, 1) := by decide +kernel
theorem dX10_tells_38 : decode cX10_tells 38 = .ok (.aload_n 0, 1) := by decide +kernel
theorem dX10_tells_39 : decode cX10_tells 39 = .ok (.getfield 46, 3) := by decide +kernel
theorem dX10_tells_42 : decode cX10_tells 42 = .ok (.iload_n 1, 1) := by decide +kernel
theorem dX10_tells_43 : decode cX10_tells 43 = .ok (.iaload, 1) := by decide +kernel
theorem dX10_tells_44 : decode cX10_tells 44 = .ok (.bipush 12, 2) := by decide +kernel
theorem dX10_tells_46 : decode cX10_tells 46 = .ok (.if_icmp .le 6, 3) := by decide +kernel
theorem dX10_tells_49 : decode cX10_tells 49 = .ok (.bipush (-2), 2) := by decide +kernel
theorem dX10_tells_51 : decode cX10_tells 51 = .ok (.ireturn, 1) := by decide +kernel
theorem dX10_tells_52 : decode cX10_tells 52 = .ok (.aload_n 0, 1) := by decide +kernel
theorem dX10_tells_53 : decode cX10_tells 53 = .ok (.invokevirtual 171, 3) := by decide +kernel
theorem dX10_tells_56 : decode cX10_tells 56 = .ok (.iload_n 3, 1) := by decide +kernel
theorem dX10_tells_57 : decode cX10_tells 57 = .ok (.ifCond .ne 18, 3) := by decide +kernel
theorem dX10_tells_60 : decode cX10_tells 60 = .ok (.aload_n 0, 1) := by decide +kernel
theorem dX10_tells_61 : decode cX10_tells 61 = .ok (.iload_n 1, 1) := by decide +kernel
theorem dX10_tells_62 : decode cX10_tells 62 = .ok (.iload_n 2, 1) := by decide +kernel
theorem dX10_tells_63 : decode cX10_tells 63 = .ok (.invokevirtual 325, 3) := by decide +kernel
theorem dX10_tells_66 : decode cX10_tells 66 = .ok (.istore 4, 2) := by decide +kernel
theorem dX10_tells_68 : decode cX10_tells 68 = .ok (.aload_n 0, 1) := by decide +kernel
theorem dX10_tells_69 : decode cX10_tells 69 = .ok (.invokevirtual 174, 3) := by decide +kernel
theorem dX10_tells_72 : decode cX10_tells 72 = .ok (.iload 4, 2) := by decide +kernel
theorem dX10_tells_74 : decode cX10_tells 74 = .ok (.ireturn, 1) := by decide +kernel
theorem dX10_tells_75 : decode cX10_tells 75 = .ok (.iconst 0, 1) := by decide +kernel
theorem dX10_tells_76 : decode cX10_tells 76 = .ok (.istore 4, 2) := by decide +kernel
theorem dX10_tells_78 : decode cX10_tells 78 = .ok (.iconst 0, 1) := by decide +kernel
theorem dX10_tells_79 : decode cX10_tells 79 = .ok (.istore 5, 2) := by decide +kernel
theorem dX10_tells_81 : decode cX10_tells 81 = .ok (.iload 5, 2) := by decide +kernel
theorem dX10_tells_83 : decode cX10_tells 83 = .ok (.iconst 4, 1) := by decide +kernel
theorem dX10_tells_84 : decode cX10_tells 84 = .ok (.if_icmp .ge 43, 3) := by decide +kernel
theorem dX10_tells_87 : decode cX10_tells 87 = .ok (.aload_n 0, 1) := by decide +kernel
theorem dX10_tells_88 : decode cX10_tells 88 = .ok (.getfield 13, 3) := by decide +kernel
theorem dX10_tells_91 : decode cX10_tells 91 = .ok (.iload_n 2, 1) := by decide +kernel
theorem dX10_tells_92 : decode cX10_tells 92 = .ok (.iload 5, 2) := by decide +kernel
theorem dX10_tells_94 : decode cX10_tells 94 = .ok (.iastore, 1) := by decide +kernel
theorem dX10_tells_95 : decode cX10_tells 95 = .ok (.iload 4, 2) := by decide +kernel
theorem dX10_tells_97 : decode cX10_tells 97 = .ok (.aload_n 0, 1) := by decide +kernel
theorem dX10_tells_98 : decode cX10_tells 98 = .ok (.iload_n 1, 1) := by decide +kernel
theorem dX10_tells_99 : decode cX10_tells 99 = .ok (.iload_n 2, 1) := by decide +kernel
theorem dX10_tells_100 : decode cX10_tells 100 = .ok (.invokevirtual 325, 3) := by decide +kernel
theorem dX10_tells_103 : decode cX10_tells 103 = .ok (.ifCond .ge 10, 3) := by decide +kernel
theorem dX10_tells_106 : decode cX10_tells 106 = .ok (.iconst 1, 1) := by decide +kernel
theorem dX10_tells_107 : decode cX10_tells 107 = .ok (.iload 5, 2) := by decide +kernel
theorem dX10_tells_109 : decode cX10_tells 109 = .ok (.ishl, 1) := by decide +kernel
theorem dX10_tells_110 : decode cX10_tells 110 = .ok (.goto 4, 3) := by decide +kernel
theorem dX10_tells_113 : decode cX10_tells 113 = .ok (.iconst 0, 1) := by decide +kernel
theorem dX10_tells_114 : decode cX10_tells 114 = .ok (.ior, 1) := by decide +kernel
theorem dX10_tells_115 : decode cX10_tells 115 = .ok (.istore 4, 2) := by decide +kernel
theorem dX10_tells_117 : decode cX10_tells 117 = .ok (.aload_n 0, 1) := by decide +kernel
theorem dX10_tells_118 : decode cX10_tells 118 = .ok (.invokevirtual 174, 3) := by decide +kernel
theorem dX10_tells_121 : decode cX10_tells 121 = .ok (.iinc 5 1, 3) := by decide +kernel
theorem dX10_tells_124 : decode cX10_tells 124 = .ok (.goto (-43), 3) := by decide +kernel
theorem dX10_tells_127 : decode cX10_tells 127 = .ok (.iload 4, 2) := by decide +kernel
theorem dX10_tells_129 : decode cX10_tells 129 = .ok (.ireturn, 1) := by decide +kernel
theorem dX10_film_0 : decode cX10_film 0 = .ok (.iload_n 1, 1) := by decide +kernel
theorem dX10_film_1 : decode cX10_film 1 = .ok (.invokestatic 322, 3) := by decide +kernel
theorem dX10_film_4 : decode cX10_film 4 = .ok (.ifCond .eq 20, 3) := by decide +kernel
theorem dX10_film_7 : decode cX10_film 7 = .ok (.iload_n 2, 1) := by decide +kernel
theorem dX10_film_8 : decode cX10_film 8 = .ok (.invokestatic 156, 3) := by decide +kernel
theorem dX10_film_11 : decode cX10_film 11 = .ok (.ifCond .eq 13, 3) := by decide +kernel
theorem dX10_film_14 : decode cX10_film 14 = .ok (.iload_n 3, 1) := by decide +kernel
theorem dX10_film_15 : decode cX10_film 15 = .ok (.iconst 0, 1) := by decide +kernel
theorem dX10_film_16 : decode cX10_film 16 = .ok (.bipush 12, 2) := by decide +kernel
theorem dX10_film_18 : decode cX10_film 18 = .ok (.invokestatic 82, 3) := by decide +kernel
theorem dX10_film_21 : decode cX10_film 21 = .ok (.ifCond .ne 6, 3) := by decide +kernel
theorem dX10_film_24 : decode cX10_film 24 = .ok (.bipush (-2), 2) := by decide +kernel
theorem dX10_film_26 : decode cX10_film 26 = .ok (.ireturn, 1) := by decide +kernel
theorem dX10_film_27 : decode cX10_film 27 = .ok (.aload_n 0, 1) := by decide +kernel
theorem dX10_film_28 : decode cX10_film 28 = .ok (.invokevirtual 171, 3) := by decide +kernel
theorem dX10_film_31 : decode cX10_film 31 = .ok (.aload_n 0, 1) := by decide +kernel
theorem dX10_film_32 : decode cX10_film 32 = .ok (.getfield 43, 3) := by decide +kernel
theorem dX10_film_35 : decode cX10_film 35 = .ok (.iload_n 1, 1) := by decide +kernel
theorem dX10_film_36 : decode cX10_film 36 = .ok (.iconst 0, 1) := by decide +kernel
theorem dX10_film_37 : decode cX10_film 37 = .ok (.iastore, 1) := by decide +kernel
theorem dX10_film_38 : decode cX10_film 38 = .ok (.aload_n 0, 1) := by decide +kernel
theorem dX10_film_39 : decode cX10_film 39 = .ok (.getfield 46, 3) := by decide +kernel
theorem dX10_film_42 : decode cX10_film 42 = .ok (.iload_n 1, 1) := by decide +kernel
theorem dX10_film_43 : decode cX10_film 43 = .ok (.iload_n 3, 1) := by decide +kernel
theorem dX10_film_44 : decode cX10_film 44 = .ok (.iastore, 1) := by decide +kernel
theorem dX10_film_45 : decode cX10_film 45 = .ok (.iconst 0, 1) := by decide +kernel
theorem dX10_film_46 : decode cX10_film 46 = .ok (.istore 4, 2) := by decide +kernel
theorem dX10_film_48 : decode cX10_film 48 = .ok (.iload 4, 2) := by decide +kernel
theorem dX10_film_50 : decode cX10_film 50 = .ok (.iload_n 3, 1) := by decide +kernel
theorem dX10_film_51 : decode cX10_film 51 = .ok (.if_icmp .ge 33, 3) := by decide +kernel
theorem dX10_film_54 : decode cX10_film 54 = .ok (.aload_n 0, 1) := by decide +kernel
theorem dX10_film_55 : decode cX10_film 55 = .ok (.invokevirtual 168, 3) := by decide +kernel
theorem dX10_film_58 : decode cX10_film 58 = .ok (.istore 5, 2) := by decide +kernel
theorem dX10_film_60 : decode cX10_film 60 = .ok (.aload_n 0, 1) := by decide +kernel
theorem dX10_film_61 : decode cX10_film 61 = .ok (.getfield 49, 3) := by decide +kernel
theorem dX10_film_64 : decode cX10_film 64 = .ok (.bipush 40, 2) := by decide +kernel
theorem dX10_film_66 : decode cX10_film 66 = .ok (.iload_n 1, 1) := by decide +kernel
theorem dX10_film_67 : decode cX10_film 67 = .ok (.imul, 1) := by decide +kernel
theorem dX10_film_68 : decode cX10_film 68 = .ok (.iload 4, 2) := by decide +kernel
theorem dX10_film_70 : decode cX10_film 70 = .ok (.iadd, 1) := by decide +kernel
theorem dX10_film_71 : decode cX10_film 71 = .ok (.aload_n 0, 1) := by decide +kernel
theorem dX10_film_72 : decode cX10_film 72 = .ok (.getfield 7, 3) := by decide +kernel
theorem dX10_film_75 : decode cX10_film 75 = .ok (.iload_n 2, 1) := by decide +kernel
theorem dX10_film_76 : decode cX10_film 76 = .ok (.iaload, 1) := by decide +kernel
theorem dX10_film_77 : decode cX10_film 77 = .ok (.iastore, 1) := by decide +kernel
theorem dX10_film_78 : decode cX10_film 78 = .ok (.iinc 4 1, 3) := by decide +kernel
theorem dX10_film_81 : decode cX10_film 81 = .ok (.goto (-33), 3) := by decide +kernel
theorem dX10_film_84 : decode cX10_film 84 = .ok (.aload_n 0, 1) := by decide +kernel
theorem dX10_film_85 : decode cX10_film 85 = .ok (.invokevirtual 174, 3) := by decide +kernel
theorem dX10_film_88 : decode cX10_film 88 = .ok (.iload_n 3, 1) := by decide +kernel
theorem dX10_film_89 : decode cX10_film 89 = .ok (.ireturn, 1) := by decide +kernel
theorem dX10_drawn_0 : decode cX10_drawn 0 = .ok (.iload_n 2, 1) := by decide +kernel
theorem dX10_drawn_1 : decode cX10_drawn 1 = .ok (.iconst 0, 1) := by decide +kernel
theorem dX10_drawn_2 : decode cX10_drawn 2 = .ok (.bipush 40, 2) := by decide +kernel
theorem dX10_drawn_4 : decode cX10_drawn 4 = .ok (.invokestatic 82, 3) := by decide +kernel
theorem dX10_drawn_7 : decode cX10_drawn 7 = .ok (.ifCond .eq 12, 3) := by decide +kernel
theorem dX10_drawn_10 : decode cX10_drawn 10 = .ok (.iload_n 3, 1) := by decide +kernel
theorem dX10_drawn_11 : decode cX10_drawn 11 = .ok (.iconst 0, 1) := by decide +kernel
theorem dX10_drawn_12 : decode cX10_drawn 12 = .ok (.iconst 3, 1) := by decide +kernel
theorem dX10_drawn_13 : decode cX10_drawn 13 = .ok (.invokestatic 82, 3) := by decide +kernel
theorem dX10_drawn_16 : decode cX10_drawn 16 = .ok (.ifCond .ne 6, 3) := by decide +kernel
theorem dX10_drawn_19 : decode cX10_drawn 19 = .ok (.bipush (-2), 2) := by decide +kernel
theorem dX10_drawn_21 : decode cX10_drawn 21 = .ok (.ireturn, 1) := by decide +kernel
theorem dX10_drawn_22 : decode cX10_drawn 22 = .ok (.aload_n 0, 1) := by decide +kernel
theorem dX10_drawn_23 : decode cX10_drawn 23 = .ok (.invokevirtual 171, 3) := by decide +kernel
theorem dX10_drawn_26 : decode cX10_drawn 26 = .ok (.iload_n 1, 1) := by decide +kernel
theorem dX10_drawn_27 : decode cX10_drawn 27 = .ok (.istore 4, 2) := by decide +kernel
theorem dX10_drawn_29 : decode cX10_drawn 29 = .ok (.iconst 0, 1) := by decide +kernel
theorem dX10_drawn_30 : decode cX10_drawn 30 = .ok (.istore 5, 2) := by decide +kernel
theorem dX10_drawn_32 : decode cX10_drawn 32 = .ok (.iload 5, 2) := by decide +kernel
theorem dX10_drawn_34 : decode cX10_drawn 34 = .ok (.iload_n 2, 1) := by decide +kernel
theorem dX10_drawn_35 : decode cX10_drawn 35 = .ok (.if_icmp .ge 46, 3) := by decide +kernel
theorem dX10_drawn_38 : decode cX10_drawn 38 = .ok (.iload 4, 2) := by decide +kernel
theorem dX10_drawn_40 : decode cX10_drawn 40 = .ok (.ldc_w 328, 3) := by decide +kernel
theorem dX10_drawn_43 : decode cX10_drawn 43 = .ok (.imul, 1) := by decide +kernel
theorem dX10_drawn_44 : decode cX10_drawn 44 = .ok (.sipush 12345, 3) := by decide +kernel
theorem dX10_drawn_47 : decode cX10_drawn 47 = .ok (.iadd, 1) := by decide +kernel
theorem dX10_drawn_48 : decode cX10_drawn 48 = .ok (.istore 4, 2) := by decide +kernel
theorem dX10_drawn_50 : decode cX10_drawn 50 = .ok (.aload_n 0, 1) := by decide +kernel
theorem dX10_drawn_51 : decode cX10_drawn 51 = .ok (.getfield 13, 3) := by decide +kernel
theorem dX10_drawn_54 : decode cX10_drawn 54 = .ok (.iload 4, 2) := by decide +kernel
theorem dX10_drawn_56 : decode cX10_drawn 56 = .ok (.bipush 9, 2) := by decide +kernel
theorem dX10_drawn_58 : decode cX10_drawn 58 = .ok (.iushr, 1) := by decide +kernel
theorem dX10_drawn_59 : decode cX10_drawn 59 = .ok (.iconst 3, 1) := by decide +kernel
theorem dX10_drawn_60 : decode cX10_drawn 60 = .ok (.irem, 1) := by decide +kernel
theorem dX10_drawn_61 : decode cX10_drawn 61 = .ok (.iload 4, 2) := by decide +kernel
theorem dX10_drawn_63 : decode cX10_drawn 63 = .ok (.bipush 20, 2) := by decide +kernel
theorem dX10_drawn_65 : decode cX10_drawn 65 = .ok (.iushr, 1) := by decide +kernel
theorem dX10_drawn_66 : decode cX10_drawn 66 = .ok (.iconst 4, 1) := by decide +kernel
theorem dX10_drawn_67 : decode cX10_drawn 67 = .ok (.irem, 1) := by decide +kernel
theorem dX10_drawn_68 : decode cX10_drawn 68 = .ok (.iastore, 1) := by decide +kernel
theorem dX10_drawn_69 : decode cX10_drawn 69 = .ok (.aload_n 0, 1) := by decide +kernel
theorem dX10_drawn_70 : decode cX10_drawn 70 = .ok (.invokevirtual 168, 3) := by decide +kernel
theorem dX10_drawn_73 : decode cX10_drawn 73 = .ok (.istore 6, 2) := by decide +kernel
theorem dX10_drawn_75 : decode cX10_drawn 75 = .ok (.iinc 5 1, 3) := by decide +kernel
theorem dX10_drawn_78 : decode cX10_drawn 78 = .ok (.goto (-46), 3) := by decide +kernel
theorem dX10_drawn_81 : decode cX10_drawn 81 = .ok (.aload_n 0, 1) := by decide +kernel
theorem dX10_drawn_82 : decode cX10_drawn 82 = .ok (.getfield 7, 3) := by decide +kernel
theorem dX10_drawn_85 : decode cX10_drawn 85 = .ok (.iconst 1, 1) := by decide +kernel
theorem dX10_drawn_86 : decode cX10_drawn 86 = .ok (.iaload, 1) := by decide +kernel
theorem dX10_drawn_87 : decode cX10_drawn 87 = .ok (.aload_n 0, 1) := by decide +kernel
theorem dX10_drawn_88 : decode cX10_drawn 88 = .ok (.getfield 7, 3) := by decide +kernel
theorem dX10_drawn_91 : decode cX10_drawn 91 = .ok (.iconst 0, 1) := by decide +kernel
theorem dX10_drawn_92 : decode cX10_drawn 92 = .ok (.iaload, 1) := by decide +kernel
theorem dX10_drawn_93 : decode cX10_drawn 93 = .ok (.if_icmp .le 7, 3) := by decide +kernel
theorem dX10_drawn_96 : decode cX10_drawn 96 = .ok (.iconst 1, 1) := by decide +kernel
theorem dX10_drawn_97 : decode cX10_drawn 97 = .ok (.goto 4, 3) := by decide +kernel
theorem dX10_drawn_100 : decode cX10_drawn 100 = .ok (.iconst 0, 1) := by decide +kernel
theorem dX10_drawn_101 : decode cX10_drawn 101 = .ok (.istore 5, 2) := by decide +kernel
theorem dX10_drawn_103 : decode cX10_drawn 103 = .ok (.aload_n 0, 1) := by decide +kernel
theorem dX10_drawn_104 : decode cX10_drawn 104 = .ok (.getfield 7, 3) := by decide +kernel
theorem dX10_drawn_107 : decode cX10_drawn 107 = .ok (.iconst 2, 1) := by decide +kernel
theorem dX10_drawn_108 : decode cX10_drawn 108 = .ok (.iaload, 1) := by decide +kernel
theorem dX10_drawn_109 : decode cX10_drawn 109 = .ok (.aload_n 0, 1) := by decide +kernel
theorem dX10_drawn_110 : decode cX10_drawn 110 = .ok (.getfield 7, 3) := by decide +kernel
theorem dX10_drawn_113 : decode cX10_drawn 113 = .ok (.iload 5, 2) := by decide +kernel
theorem dX10_drawn_115 : decode cX10_drawn 115 = .ok (.iaload, 1) := by decide +kernel
theorem dX10_drawn_116 : decode cX10_drawn 116 = .ok (.if_icmp .le 7, 3) := by decide +kernel
theorem dX10_drawn_119 : decode cX10_drawn 119 = .ok (.iconst 2, 1) := by decide +kernel
theorem dX10_drawn_120 : decode cX10_drawn 120 = .ok (.goto 5, 3) := by decide +kernel
theorem dX10_drawn_123 : decode cX10_drawn 123 = .ok (.iload 5, 2) := by decide +kernel
theorem dX10_drawn_125 : decode cX10_drawn 125 = .ok (.istore 5, 2) := by decide +kernel
theorem dX10_drawn_127 : decode cX10_drawn 127 = .ok (.iload_n 3, 1) := by decide +kernel
theorem dX10_drawn_128 : decode cX10_drawn 128 = .ok (.ifCond .ne 15, 3) := by decide +kernel
theorem dX10_drawn_131 : decode cX10_drawn 131 = .ok (.aload_n 0, 1) := by decide +kernel
theorem dX10_drawn_132 : decode cX10_drawn 132 = .ok (.getfield 137, 3) := by decide +kernel
theorem dX10_drawn_135 : decode cX10_drawn 135 = .ok (.aload_n 0, 1) := by decide +kernel
theorem dX10_drawn_136 : decode cX10_drawn 136 = .ok (.getfield 150, 3) := by decide +kernel
theorem dX10_drawn_139 : decode cX10_drawn 139 = .ok (.isub, 1) := by decide +kernel
theorem dX10_drawn_140 : decode cX10_drawn 140 = .ok (.goto 29, 3) := by decide +kernel
theorem dX10_drawn_143 : decode cX10_drawn 143 = .ok (.iload_n 3, 1) := by decide +kernel
theorem dX10_drawn_144 : decode cX10_drawn 144 = .ok (.iconst 1, 1) := by decide +kernel
theorem dX10_drawn_145 : decode cX10_drawn 145 = .ok (.if_icmp .ne 10, 3) := by decide +kernel
theorem dX10_drawn_148 : decode cX10_drawn 148 = .ok (.aload_n 0, 1) := by decide +kernel
theorem dX10_drawn_149 : decode cX10_drawn 149 = .ok (.invokevirtual 147, 3) := by decide +kernel
theorem dX10_drawn_152 : decode cX10_drawn 152 = .ok (.goto 17, 3) := by decide +kernel
theorem dX10_drawn_155 : decode cX10_drawn 155 = .ok (.iload_n 3, 1) := by decide +kernel
theorem dX10_drawn_156 : decode cX10_drawn 156 = .ok (.iconst 2, 1) := by decide +kernel
theorem dX10_drawn_157 : decode cX10_drawn 157 = .ok (.if_icmp .ne 10, 3) := by decide +kernel
theorem dX10_drawn_160 : decode cX10_drawn 160 = .ok (.aload_n 0, 1) := by decide +kernel
theorem dX10_drawn_161 : decode cX10_drawn 161 = .ok (.invokevirtual 292, 3) := by decide +kernel
theorem dX10_drawn_164 : decode cX10_drawn 164 = .ok (.goto 5, 3) := by decide +kernel
theorem dX10_drawn_167 : decode cX10_drawn 167 = .ok (.iload 5, 2) := by decide +kernel
theorem dX10_drawn_169 : decode cX10_drawn 169 = .ok (.istore 6, 2) := by decide +kernel
theorem dX10_drawn_171 : decode cX10_drawn 171 = .ok (.aload_n 0, 1) := by decide +kernel
theorem dX10_drawn_172 : decode cX10_drawn 172 = .ok (.invokevirtual 174, 3) := by decide +kernel
theorem dX10_drawn_175 : decode cX10_drawn 175 = .ok (.iload 6, 2) := by decide +kernel
theorem dX10_drawn_177 : decode cX10_drawn 177 = .ok (.ireturn, 1) := by decide +kernel
theorem dX10_image_0 : decode cX10_image 0 = .ok (.aload_n 0, 1) := by decide +kernel
theorem dX10_image_1 : decode cX10_image 1 = .ok (.iconst 1, 1) := by decide +kernel
theorem dX10_image_2 : decode cX10_image 2 = .ok (.putfield 329, 3) := by decide +kernel
theorem dX10_image_5 : decode cX10_image 5 = .ok (.iconst 0, 1) := by decide +kernel
theorem dX10_image_6 : decode cX10_image 6 = .ok (.istore_n 1, 1) := by decide +kernel
theorem dX10_image_7 : decode cX10_image 7 = .ok (.iload_n 1, 1) := by decide +kernel
theorem dX10_image_8 : decode cX10_image 8 = .ok (.iconst 3, 1) := by decide +kernel
theorem dX10_image_9 : decode cX10_image 9 = .ok (.if_icmp .ge 35, 3) := by decide +kernel
theorem dX10_image_12 : decode cX10_image 12 = .ok (.aload_n 0, 1) := by decide +kernel
theorem dX10_image_13 : decode cX10_image 13 = .ok (.getfield 79, 3) := by decide +kernel
theorem dX10_image_16 : decode cX10_image 16 = .ok (.iload_n 1, 1) := by decide +kernel
theorem dX10_image_17 : decode cX10_image 17 = .ok (.aload_n 0, 1) := by decide +kernel
theorem dX10_image_18 : decode cX10_image 18 = .ok (.getfield 7, 3) := by decide +kernel
theorem dX10_image_21 : decode cX10_image 21 = .ok (.iload_n 1, 1) := by decide +kernel
theorem dX10_image_22 : decode cX10_image 22 = .ok (.iaload, 1) := by decide +kernel
theorem dX10_image_23 : decode cX10_image 23 = .ok (.iastore, 1) := by decide +kernel
theorem dX10_image_24 : decode cX10_image 24 = .ok (.aload_n 0, 1) := by decide +kernel
theorem dX10_image_25 : decode cX10_image 25 = .ok (.getfield 79, 3) := by decide +kernel
theorem dX10_image_28 : decode cX10_image 28 = .ok (.iconst 3, 1) := by decide +kernel
theorem dX10_image_29 : decode cX10_image 29 = .ok (.iload_n 1, 1) := by decide +kernel
theorem dX10_image_30 : decode cX10_image 30 = .ok (.iadd, 1) := by decide +kernel
theorem dX10_image_31 : decode cX10_image 31 = .ok (.aload_n 0, 1) := by decide +kernel
theorem dX10_image_32 : decode cX10_image 32 = .ok (.getfield 13, 3) := by decide +kernel
theorem dX10_image_35 : decode cX10_image 35 = .ok (.iload_n 1, 1) := by decide +kernel
theorem dX10_image_36 : decode cX10_image 36 = .ok (.iaload, 1) := by decide +kernel
theorem dX10_image_37 : decode cX10_image 37 = .ok (.iastore, 1) := by decide +kernel
theorem dX10_image_38 : decode cX10_image 38 = .ok (.iinc 1 1, 3) := by decide +kernel
theorem dX10_image_41 : decode cX10_image 41 = .ok (.goto (-34), 3) := by decide +kernel
theorem dX10_image_44 : decode cX10_image 44 = .ok (.iconst 0, 1) := by decide +kernel
theorem dX10_image_45 : decode cX10_image 45 = .ok (.istore_n 1, 1) := by decide +kernel
theorem dX10_image_46 : decode cX10_image 46 = .ok (.iload_n 1, 1) := by decide +kernel
theorem dX10_image_47 : decode cX10_image 47 = .ok (.bipush 8, 2) := by decide +kernel
theorem dX10_image_49 : decode cX10_image 49 = .ok (.if_icmp .ge 84, 3) := by decide +kernel
theorem dX10_image_52 : decode cX10_image 52 = .ok (.aload_n 0, 1) := by decide +kernel
theorem dX10_image_53 : decode cX10_image 53 = .ok (.getfield 79, 3) := by decide +kernel
theorem dX10_image_56 : decode cX10_image 56 = .ok (.bipush 6, 2) := by decide +kernel
theorem dX10_image_58 : decode cX10_image 58 = .ok (.iload_n 1, 1) := by decide +kernel
theorem dX10_image_59 : decode cX10_image 59 = .ok (.iadd, 1) := by decide +kernel
theorem dX10_image_60 : decode cX10_image 60 = .ok (.aload_n 0, 1) := by decide +kernel
theorem dX10_image_61 : decode cX10_image 61 = .ok (.getfield 16, 3) := by decide +kernel
theorem dX10_image_64 : decode cX10_image 64 = .ok (.iload_n 1, 1) := by decide +kernel
theorem dX10_image_65 : decode cX10_image 65 = .ok (.iaload, 1) := by decide +kernel
theorem dX10_image_66 : decode cX10_image 66 = .ok (.iastore, 1) := by decide +kernel
theorem dX10_image_67 : decode cX10_image 67 = .ok (.aload_n 0, 1) := by decide +kernel
theorem dX10_image_68 : decode cX10_image 68 = .ok (.getfield 79, 3) := by decide +kernel
theorem dX10_image_71 : decode cX10_image 71 = .ok (.bipush 14, 2) := by decide +kernel
theorem dX10_image_73 : decode cX10_image 73 = .ok (.iload_n 1, 1) := by decide +kernel
theorem dX10_image_74 : decode cX10_image 74 = .ok (.iadd, 1) := by decide +kernel
theorem dX10_image_75 : decode cX10_image 75 = .ok (.aload_n 0, 1) := by decide +kernel
theorem dX10_image_76 : decode cX10_image 76 = .ok (.getfield 19, 3) := by decide +kernel
theorem dX10_image_79 : decode cX10_image 79 = .ok (.iload_n 1, 1) := by decide +kernel
theorem dX10_image_80 : decode cX10_image 80 = .ok (.iaload, 1) := by decide +kernel
theorem dX10_image_81 : decode cX10_image 81 = .ok (.iastore, 1) := by decide +kernel
theorem dX10_image_82 : decode cX10_image 82 = .ok (.aload_n 0, 1) := by decide +kernel
theorem dX10_image_83 : decode cX10_image 83 = .ok (.getfield 79, 3) := by decide +kernel
theorem dX10_image_86 : decode cX10_image 86 = .ok (.bipush 22, 2) := by decide +kernel
theorem dX10_image_88 : decode cX10_image 88 = .ok (.iload_n 1, 1) := by decide +kernel
theorem dX10_image_89 : decode cX10_image 89 = .ok (.iadd, 1) := by decide +kernel
theorem dX10_image_90 : decode cX10_image 90 = .ok (.aload_n 0, 1) := by decide +kernel
theorem dX10_image_91 : decode cX10_image 91 = .ok (.getfield 22, 3) := by decide +kernel
theorem dX10_image_94 : decode cX10_image 94 = .ok (.iload_n 1, 1) := by decide +kernel
theorem dX10_image_95 : decode cX10_image 95 = .ok (.iaload, 1) := by decide +kernel
theorem dX10_image_96 : decode cX10_image 96 = .ok (.iastore, 1) := by decide +kernel
theorem dX10_image_97 : decode cX10_image 97 = .ok (.aload_n 0, 1) := by decide +kernel
theorem dX10_image_98 : decode cX10_image 98 = .ok (.getfield 79, 3) := by decide +kernel
theorem dX10_image_101 : decode cX10_image 101 = .ok (.bipush 30, 2) := by decide +kernel
theorem dX10_image_103 : decode cX10_image 103 = .ok (.iload_n 1, 1) := by decide +kernel
theorem dX10_image_104 : decode cX10_image 104 = .ok (.iadd, 1) := by decide +kernel
theorem dX10_image_105 : decode cX10_image 105 = .ok (.aload_n 0, 1) := by decide +kernel
theorem dX10_image_106 : decode cX10_image 106 = .ok (.getfield 25, 3) := by decide +kernel
theorem dX10_image_109 : decode cX10_image 109 = .ok (.iload_n 1, 1) := by decide +kernel
theorem dX10_image_110 : decode cX10_image 110 = .ok (.iaload, 1) := by decide +kernel
theorem dX10_image_111 : decode cX10_image 111 = .ok (.iastore, 1) := by decide +kernel
theorem dX10_image_112 : decode cX10_image 112 = .ok (.aload_n 0, 1) := by decide +kernel
theorem dX10_image_113 : decode cX10_image 113 = .ok (.getfield 79, 3) := by decide +kernel
theorem dX10_image_116 : decode cX10_image 116 = .ok (.bipush 38, 2) := by decide +kernel
theorem dX10_image_118 : decode cX10_image 118 = .ok (.iload_n 1, 1) := by decide +kernel
theorem dX10_image_119 : decode cX10_image 119 = .ok (.iadd, 1) := by decide +kernel
theorem dX10_image_120 : decode cX10_image 120 = .ok (.aload_n 0, 1) := by decide +kernel
theorem dX10_image_121 : decode cX10_image 121 = .ok (.getfield 28, 3) := by decide +kernel
theorem dX10_image_124 : decode cX10_image 124 = .ok (.iload_n 1, 1) := by decide +kernel
theorem dX10_image_125 : decode cX10_image 125 = .ok (.iaload, 1) := by decide +kernel
theorem dX10_image_126 : decode cX10_image 126 = .ok (.iastore, 1) := by decide +kernel
theorem dX10_image_127 : decode cX10_image 127 = .ok (.iinc 1 1, 3) := by decide +kernel
theorem dX10_image_130 : decode cX10_image 130 = .ok (.goto (-84), 3) := by decide +kernel
theorem dX10_image_133 : decode cX10_image 133 = .ok (.iconst 0, 1) := by decide +kernel
theorem dX10_image_134 : decode cX10_image 134 = .ok (.istore_n 1, 1) := by decide +kernel
theorem dX10_image_135 : decode cX10_image 135 = .ok (.iload_n 1, 1) := by decide +kernel
theorem dX10_image_136 : decode cX10_image 136 = .ok (.bipush 72, 2) := by decide +kernel
theorem dX10_image_138 : decode cX10_image 138 = .ok (.if_icmp .ge 24, 3) := by decide +kernel
theorem dX10_image_141 : decode cX10_image 141 = .ok (.aload_n 0, 1) := by decide +kernel
theorem dX10_image_142 : decode cX10_image 142 = .ok (.getfield 79, 3) := by decide +kernel
theorem dX10_image_145 : decode cX10_image 145 = .ok (.bipush 46, 2) := by decide +kernel
theorem dX10_image_147 : decode cX10_image 147 = .ok (.iload_n 1, 1) := by decide +kernel
theorem dX10_image_148 : decode cX10_image 148 = .ok (.iadd, 1) := by decide +kernel
theorem dX10_image_149 : decode cX10_image 149 = .ok (.aload_n 0, 1) := by decide +kernel
theorem dX10_image_150 : decode cX10_image 150 = .ok (.getfield 37, 3) := by decide +kernel
theorem dX10_image_153 : decode cX10_image 153 = .ok (.iload_n 1, 1) := by decide +kernel
theorem dX10_image_154 : decode cX10_image 154 = .ok (.iaload, 1) := by decide +kernel
theorem dX10_image_155 : decode cX10_image 155 = .ok (.iastore, 1) := by decide +kernel
theorem dX10_image_156 : decode cX10_image 156 = .ok (.iinc 1 1, 3) := by decide +kernel
theorem dX10_image_159 : decode cX10_image 159 = .ok (.goto (-24), 3) := by decide +kernel
theorem dX10_image_162 : decode cX10_image 162 = .ok (.iconst 0, 1) := by decide +kernel
theorem dX10_image_163 : decode cX10_image 163 = .ok (.istore_n 1, 1) := by decide +kernel
theorem dX10_image_164 : decode cX10_image 164 = .ok (.iload_n 1, 1) := by decide +kernel
theorem dX10_image_165 : decode cX10_image 165 = .ok (.bipush 24, 2) := by decide +kernel
theorem dX10_image_167 : decode cX10_image 167 = .ok (.if_icmp .ge 24, 3) := by decide +kernel
theorem dX10_image_170 : decode cX10_image 170 = .ok (.aload_n 0, 1) := by decide +kernel
theorem dX10_image_171 : decode cX10_image 171 = .ok (.getfield 79, 3) := by decide +kernel
theorem dX10_image_174 : decode cX10_image 174 = .ok (.bipush 118, 2) := by decide +kernel
theorem dX10_image_176 : decode cX10_image 176 = .ok (.iload_n 1, 1) := by decide +kernel
theorem dX10_image_177 : decode cX10_image 177 = .ok (.iadd, 1) := by decide +kernel
theorem dX10_image_178 : decode cX10_image 178 = .ok (.aload_n 0, 1) := by decide +kernel
theorem dX10_image_179 : decode cX10_image 179 = .ok (.getfield 34, 3) := by decide +kernel
theorem dX10_image_182 : decode cX10_image 182 = .ok (.iload_n 1, 1) := by decide +kernel
theorem dX10_image_183 : decode cX10_image 183 = .ok (.iaload, 1) := by decide +kernel
theorem dX10_image_184 : decode cX10_image 184 = .ok (.iastore, 1) := by decide +kernel
theorem dX10_image_185 : decode cX10_image 185 = .ok (.iinc 1 1, 3) := by decide +kernel
theorem dX10_image_188 : decode cX10_image 188 = .ok (.goto (-24), 3) := by decide +kernel
theorem dX10_image_191 : decode cX10_image 191 = .ok (.iconst 0, 1) := by decide +kernel
theorem dX10_image_192 : decode cX10_image 192 = .ok (.istore_n 1, 1) := by decide +kernel
theorem dX10_image_193 : decode cX10_image 193 = .ok (.iload_n 1, 1) := by decide +kernel
theorem dX10_image_194 : decode cX10_image 194 = .ok (.iconst 4, 1) := by decide +kernel
theorem dX10_image_195 : decode cX10_image 195 = .ok (.if_icmp .ge 25, 3) := by decide +kernel
theorem dX10_image_198 : decode cX10_image 198 = .ok (.aload_n 0, 1) := by decide +kernel
theorem dX10_image_199 : decode cX10_image 199 = .ok (.getfield 79, 3) := by decide +kernel
theorem dX10_image_202 : decode cX10_image 202 = .ok (.sipush 142, 3) := by decide +kernel
theorem dX10_image_205 : decode cX10_image 205 = .ok (.iload_n 1, 1) := by decide +kernel
theorem dX10_image_206 : decode cX10_image 206 = .ok (.iadd, 1) := by decide +kernel
theorem dX10_image_207 : decode cX10_image 207 = .ok (.aload_n 0, 1) := by decide +kernel
theorem dX10_image_208 : decode cX10_image 208 = .ok (.getfield 31, 3) := by decide +kernel
theorem dX10_image_211 : decode cX10_image 211 = .ok (.iload_n 1, 1) := by decide +kernel
theorem dX10_image_212 : decode cX10_image 212 = .ok (.iaload, 1) := by decide +kernel
theorem dX10_image_213 : decode cX10_image 213 = .ok (.iastore, 1) := by decide +kernel
theorem dX10_image_214 : decode cX10_image 214 = .ok (.iinc 1 1, 3) := by decide +kernel
theorem dX10_image_217 : decode cX10_image 217 = .ok (.goto (-24), 3) := by decide +kernel
theorem dX10_image_220 : decode cX10_image 220 = .ok (.aload_n 0, 1) := by decide +kernel
theorem dX10_image_221 : decode cX10_image 221 = .ok (.getfield 79, 3) := by decide +kernel
theorem dX10_image_224 : decode cX10_image 224 = .ok (.sipush 146, 3) := by decide +kernel
theorem dX10_image_227 : decode cX10_image 227 = .ok (.aload_n 0, 1) := by decide +kernel
theorem dX10_image_228 : decode cX10_image 228 = .ok (.getfield 86, 3) := by decide +kernel
theorem dX10_image_231 : decode cX10_image 231 = .ok (.iastore, 1) := by decide +kernel
theorem dX10_image_232 : decode cX10_image 232 = .ok (.aload_n 0, 1) := by decide +kernel
theorem dX10_image_233 : decode cX10_image 233 = .ok (.getfield 79, 3) := by decide +kernel
theorem dX10_image_236 : decode cX10_image 236 = .ok (.sipush 147, 3) := by decide +kernel
theorem dX10_image_239 : decode cX10_image 239 = .ok (.aload_n 0, 1) := by decide +kernel
theorem dX10_image_240 : decode cX10_image 240 = .ok (.getfield 137, 3) := by decide +kernel
theorem dX10_image_243 : decode cX10_image 243 = .ok (.iastore, 1) := by decide +kernel
theorem dX10_image_244 : decode cX10_image 244 = .ok (.aload_n 0, 1) := by decide +kernel
theorem dX10_image_245 : decode cX10_image 245 = .ok (.getfield 79, 3) := by decide +kernel
theorem dX10_image_248 : decode cX10_image 248 = .ok (.sipush 148, 3) := by decide +kernel
theorem dX10_image_251 : decode cX10_image 251 = .ok (.aload_n 0, 1) := by decide +kernel
theorem dX10_image_252 : decode cX10_image 252 = .ok (.getfield 144, 3) := by decide +kernel
theorem dX10_image_255 : decode cX10_image 255 = .ok (.iastore, 1) := by decide +kernel
theorem dX10_image_256 : decode cX10_image 256 = .ok (.aload_n 0, 1) := by decide +kernel
theorem dX10_image_257 : decode cX10_image 257 = .ok (.getfield 86, 3) := by decide +kernel
theorem dX10_image_260 : decode cX10_image 260 = .ok (.ireturn, 1) := by decide +kernel
theorem dX10_back_0 : decode cX10_back 0 = .ok (.aload_n 0, 1) := by decide +kernel
theorem dX10_back_1 : decode cX10_back 1 = .ok (.getfield 329, 3) := by decide +kernel
theorem dX10_back_4 : decode cX10_back 4 = .ok (.ifCond .ne 6, 3) := by decide +kernel
theorem dX10_back_7 : decode cX10_back 7 = .ok (.bipush (-3), 2) := by decide +kernel
theorem dX10_back_9 : decode cX10_back 9 = .ok (.ireturn, 1) := by decide +kernel
theorem dX10_back_10 : decode cX10_back 10 = .ok (.iconst 0, 1) := by decide +kernel
theorem dX10_back_11 : decode cX10_back 11 = .ok (.istore_n 1, 1) := by decide +kernel
theorem dX10_back_12 : decode cX10_back 12 = .ok (.iload_n 1, 1) := by decide +kernel
theorem dX10_back_13 : decode cX10_back 13 = .ok (.iconst 3, 1) := by decide +kernel
theorem dX10_back_14 : decode cX10_back 14 = .ok (.if_icmp .ge 35, 3) := by decide +kernel
theorem dX10_back_17 : decode cX10_back 17 = .ok (.aload_n 0, 1) := by decide +kernel
theorem dX10_back_18 : decode cX10_back 18 = .ok (.getfield 7, 3) := by decide +kernel
theorem dX10_back_21 : decode cX10_back 21 = .ok (.iload_n 1, 1) := by decide +kernel
theorem dX10_back_22 : decode cX10_back 22 = .ok (.aload_n 0, 1) := by decide +kernel
theorem dX10_back_23 : decode cX10_back 23 = .ok (.getfield 79, 3) := by decide +kernel
theorem dX10_back_26 : decode cX10_back 26 = .ok (.iload_n 1, 1) := by decide +kernel
theorem dX10_back_27 : decode cX10_back 27 = .ok (.iaload, 1) := by decide +kernel
theorem dX10_back_28 : decode cX10_back 28 = .ok (.iastore, 1) := by decide +kernel
theorem dX10_back_29 : decode cX10_back 29 = .ok (.aload_n 0, 1) := by decide +kernel
theorem dX10_back_30 : decode cX10_back 30 = .ok (.getfield 13, 3) := by decide +kernel
theorem dX10_back_33 : decode cX10_back 33 = .ok (.iload_n 1, 1) := by decide +kernel
theorem dX10_back_34 : decode cX10_back 34 = .ok (.aload_n 0, 1) := by decide +kernel
theorem dX10_back_35 : decode cX10_back 35 = .ok (.getfield 79, 3) := by decide +kernel
theorem dX10_back_38 : decode cX10_back 38 = .ok (.iconst 3, 1) := by decide +kernel
theorem dX10_back_39 : decode cX10_back 39 = .ok (.iload_n 1, 1) := by decide +kernel
theorem dX10_back_40 : decode cX10_back 40 = .ok (.iadd, 1) := by decide +kernel
theorem dX10_back_41 : decode cX10_back 41 = .ok (.iaload, 1) := by decide +kernel
theorem dX10_back_42 : decode cX10_back 42 = .ok (.iastore, 1) := by decide +kernel
theorem dX10_back_43 : decode cX10_back 43 = .ok (.iinc 1 1, 3) := by decide +kernel
theorem dX10_back_46 : decode cX10_back 46 = .ok (.goto (-34), 3) := by decide +kernel
theorem dX10_back_49 : decode cX10_back 49 = .ok (.iconst 0, 1) := by decide +kernel
theorem dX10_back_50 : decode cX10_back 50 = .ok (.istore_n 1, 1) := by decide +kernel
theorem dX10_back_51 : decode cX10_back 51 = .ok (.iload_n 1, 1) := by decide +kernel
theorem dX10_back_52 : decode cX10_back 52 = .ok (.bipush 8, 2) := by decide +kernel
theorem dX10_back_54 : decode cX10_back 54 = .ok (.if_icmp .ge 84, 3) := by decide +kernel
theorem dX10_back_57 : decode cX10_back 57 = .ok (.aload_n 0, 1) := by decide +kernel
theorem dX10_back_58 : decode cX10_back 58 = .ok (.getfield 16, 3) := by decide +kernel
theorem dX10_back_61 : decode cX10_back 61 = .ok (.iload_n 1, 1) := by decide +kernel
theorem dX10_back_62 : decode cX10_back 62 = .ok (.aload_n 0, 1) := by decide +kernel
theorem dX10_back_63 : decode cX10_back 63 = .ok (.getfield 79, 3) := by decide +kernel
theorem dX10_back_66 : decode cX10_back 66 = .ok (.bipush 6, 2) := by decide +kernel
theorem dX10_back_68 : decode cX10_back 68 = .ok (.iload_n 1, 1) := by decide +kernel
theorem dX10_back_69 : decode cX10_back 69 = .ok (.iadd, 1) := by decide +kernel
theorem dX10_back_70 : decode cX10_back 70 = .ok (.iaload, 1) := by decide +kernel
theorem dX10_back_71 : decode cX10_back 71 = .ok (.iastore, 1) := by decide +kernel
theorem dX10_back_72 : decode cX10_back 72 = .ok (.aload_n 0, 1) := by decide +kernel
theorem dX10_back_73 : decode cX10_back 73 = .ok (.getfield 19, 3) := by decide +kernel
theorem dX10_back_76 : decode cX10_back 76 = .ok (.iload_n 1, 1) := by decide +kernel
theorem dX10_back_77 : decode cX10_back 77 = .ok (.aload_n 0, 1) := by decide +kernel
theorem dX10_back_78 : decode cX10_back 78 = .ok (.getfield 79, 3) := by decide +kernel
theorem dX10_back_81 : decode cX10_back 81 = .ok (.bipush 14, 2) := by decide +kernel
theorem dX10_back_83 : decode cX10_back 83 = .ok (.iload_n 1, 1) := by decide +kernel
theorem dX10_back_84 : decode cX10_back 84 = .ok (.iadd, 1) := by decide +kernel
theorem dX10_back_85 : decode cX10_back 85 = .ok (.iaload, 1) := by decide +kernel
theorem dX10_back_86 : decode cX10_back 86 = .ok (.iastore, 1) := by decide +kernel
theorem dX10_back_87 : decode cX10_back 87 = .ok (.aload_n 0, 1) := by decide +kernel
theorem dX10_back_88 : decode cX10_back 88 = .ok (.getfield 22, 3) := by decide +kernel
theorem dX10_back_91 : decode cX10_back 91 = .ok (.iload_n 1, 1) := by decide +kernel
theorem dX10_back_92 : decode cX10_back 92 = .ok (.aload_n 0, 1) := by decide +kernel
theorem dX10_back_93 : decode cX10_back 93 = .ok (.getfield 79, 3) := by decide +kernel
theorem dX10_back_96 : decode cX10_back 96 = .ok (.bipush 22, 2) := by decide +kernel
theorem dX10_back_98 : decode cX10_back 98 = .ok (.iload_n 1, 1) := by decide +kernel
theorem dX10_back_99 : decode cX10_back 99 = .ok (.iadd, 1) := by decide +kernel
theorem dX10_back_100 : decode cX10_back 100 = .ok (.iaload, 1) := by decide +kernel
theorem dX10_back_101 : decode cX10_back 101 = .ok (.iastore, 1) := by decide +kernel
theorem dX10_back_102 : decode cX10_back 102 = .ok (.aload_n 0, 1) := by decide +kernel
theorem dX10_back_103 : decode cX10_back 103 = .ok (.getfield 25, 3) := by decide +kernel
theorem dX10_back_106 : decode cX10_back 106 = .ok (.iload_n 1, 1) := by decide +kernel
theorem dX10_back_107 : decode cX10_back 107 = .ok (.aload_n 0, 1) := by decide +kernel
theorem dX10_back_108 : decode cX10_back 108 = .ok (.getfield 79, 3) := by decide +kernel
theorem dX10_back_111 : decode cX10_back 111 = .ok (.bipush 30, 2) := by decide +kernel
theorem dX10_back_113 : decode cX10_back 113 = .ok (.iload_n 1, 1) := by decide +kernel
theorem dX10_back_114 : decode cX10_back 114 = .ok (.iadd, 1) := by decide +kernel
theorem dX10_back_115 : decode cX10_back 115 = .ok (.iaload, 1) := by decide +kernel
theorem dX10_back_116 : decode cX10_back 116 = .ok (.iastore, 1) := by decide +kernel
theorem dX10_back_117 : decode cX10_back 117 = .ok (.aload_n 0, 1) := by decide +kernel
theorem dX10_back_118 : decode cX10_back 118 = .ok (.getfield 28, 3) := by decide +kernel
theorem dX10_back_121 : decode cX10_back 121 = .ok (.iload_n 1, 1) := by decide +kernel
theorem dX10_back_122 : decode cX10_back 122 = .ok (.aload_n 0, 1) := by decide +kernel
theorem dX10_back_123 : decode cX10_back 123 = .ok (.getfield 79, 3) := by decide +kernel
theorem dX10_back_126 : decode cX10_back 126 = .ok (.bipush 38, 2) := by decide +kernel
theorem dX10_back_128 : decode cX10_back 128 = .ok (.iload_n 1, 1) := by decide +kernel
theorem dX10_back_129 : decode cX10_back 129 = .ok (.iadd, 1) := by decide +kernel
theorem dX10_back_130 : decode cX10_back 130 = .ok (.iaload, 1) := by decide +kernel
theorem dX10_back_131 : decode cX10_back 131 = .ok (.iastore, 1) := by decide +kernel
theorem dX10_back_132 : decode cX10_back 132 = .ok (.iinc 1 1, 3) := by decide +kernel
theorem dX10_back_135 : decode cX10_back 135 = .ok (.goto (-84), 3) := by decide +kernel
theorem dX10_back_138 : decode cX10_back 138 = .ok (.iconst 0, 1) := by decide +kernel
theorem dX10_back_139 : decode cX10_back 139 = .ok (.istore_n 1, 1) := by decide +kernel
theorem dX10_back_140 : decode cX10_back 140 = .ok (.iload_n 1, 1) := by decide +kernel
theorem dX10_back_141 : decode cX10_back 141 = .ok (.bipush 72, 2) := by decide +kernel
theorem dX10_back_143 : decode cX10_back 143 = .ok (.if_icmp .ge 24, 3) := by decide +kernel
theorem dX10_back_146 : decode cX10_back 146 = .ok (.aload_n 0, 1) := by decide +kernel
theorem dX10_back_147 : decode cX10_back 147 = .ok (.getfield 37, 3) := by decide +kernel
theorem dX10_back_150 : decode cX10_back 150 = .ok (.iload_n 1, 1) := by decide +kernel
theorem dX10_back_151 : decode cX10_back 151 = .ok (.aload_n 0, 1) := by decide +kernel
theorem dX10_back_152 : decode cX10_back 152 = .ok (.getfield 79, 3) := by decide +kernel
theorem dX10_back_155 : decode cX10_back 155 = .ok (.bipush 46, 2) := by decide +kernel
theorem dX10_back_157 : decode cX10_back 157 = .ok (.iload_n 1, 1) := by decide +kernel
theorem dX10_back_158 : decode cX10_back 158 = .ok (.iadd, 1) := by decide +kernel
theorem dX10_back_159 : decode cX10_back 159 = .ok (.iaload, 1) := by decide +kernel
theorem dX10_back_160 : decode cX10_back 160 = .ok (.iastore, 1) := by decide +kernel
theorem dX10_back_161 : decode cX10_back 161 = .ok (.iinc 1 1, 3) := by decide +kernel
theorem dX10_back_164 : decode cX10_back 164 = .ok (.goto (-24), 3) := by decide +kernel
theorem dX10_back_167 : decode cX10_back 167 = .ok (.iconst 0, 1) := by decide +kernel
theorem dX10_back_168 : decode cX10_back 168 = .ok (.istore_n 1, 1) := by decide +kernel
theorem dX10_back_169 : decode cX10_back 169 = .ok (.iload_n 1, 1) := by decide +kernel
theorem dX10_back_170 : decode cX10_back 170 = .ok (.bipush 24, 2) := by decide +kernel
theorem dX10_back_172 : decode cX10_back 172 = .ok (.if_icmp .ge 24, 3) := by decide +kernel
theorem dX10_back_175 : decode cX10_back 175 = .ok (.aload_n 0, 1) := by decide +kernel
theorem dX10_back_176 : decode cX10_back 176 = .ok (.getfield 34, 3) := by decide +kernel
theorem dX10_back_179 : decode cX10_back 179 = .ok (.iload_n 1, 1) := by decide +kernel
theorem dX10_back_180 : decode cX10_back 180 = .ok (.aload_n 0, 1) := by decide +kernel
theorem dX10_back_181 : decode cX10_back 181 = .ok (.getfield 79, 3) := by decide +kernel
theorem dX10_back_184 : decode cX10_back 184 = .ok (.bipush 118, 2) := by decide +kernel
theorem dX10_back_186 : decode cX10_back 186 = .ok (.iload_n 1, 1) := by decide +kernel
theorem dX10_back_187 : decode cX10_back 187 = .ok (.iadd, 1) := by decide +kernel
theorem dX10_back_188 : decode cX10_back 188 = .ok (.iaload, 1) := by decide +kernel
theorem dX10_back_189 : decode cX10_back 189 = .ok (.iastore, 1) := by decide +kernel
theorem dX10_back_190 : decode cX10_back 190 = .ok (.iinc 1 1, 3) := by decide +kernel
theorem dX10_back_193 : decode cX10_back 193 = .ok (.goto (-24), 3) := by decide +kernel
theorem dX10_back_196 : decode cX10_back 196 = .ok (.iconst 0, 1) := by decide +kernel
theorem dX10_back_197 : decode cX10_back 197 = .ok (.istore_n 1, 1) := by decide +kernel
theorem dX10_back_198 : decode cX10_back 198 = .ok (.iload_n 1, 1) := by decide +kernel
theorem dX10_back_199 : decode cX10_back 199 = .ok (.iconst 4, 1) := by decide +kernel
theorem dX10_back_200 : decode cX10_back 200 = .ok (.if_icmp .ge 25, 3) := by decide +kernel
theorem dX10_back_203 : decode cX10_back 203 = .ok (.aload_n 0, 1) := by decide +kernel
theorem dX10_back_204 : decode cX10_back 204 = .ok (.getfield 31, 3) := by decide +kernel
theorem dX10_back_207 : decode cX10_back 207 = .ok (.iload_n 1, 1) := by decide +kernel
theorem dX10_back_208 : decode cX10_back 208 = .ok (.aload_n 0, 1) := by decide +kernel
theorem dX10_back_209 : decode cX10_back 209 = .ok (.getfield 79, 3) := by decide +kernel
theorem dX10_back_212 : decode cX10_back 212 = .ok (.sipush 142, 3) := by decide +kernel
theorem dX10_back_215 : decode cX10_back 215 = .ok (.iload_n 1, 1) := by decide +kernel
theorem dX10_back_216 : decode cX10_back 216 = .ok (.iadd, 1) := by decide +kernel
theorem dX10_back_217 : decode cX10_back 217 = .ok (.iaload, 1) := by decide +kernel
theorem dX10_back_218 : decode cX10_back 218 = .ok (.iastore, 1) := by decide +kernel
theorem dX10_back_219 : decode cX10_back 219 = .ok (.iinc 1 1, 3) := by decide +kernel
theorem dX10_back_222 : decode cX10_back 222 = .ok (.goto (-24), 3) := by decide +kernel
theorem dX10_back_225 : decode cX10_back 225 = .ok (.aload_n 0, 1) := by decide +kernel
theorem dX10_back_226 : decode cX10_back 226 = .ok (.aload_n 0, 1) := by decide +kernel
theorem dX10_back_227 : decode cX10_back 227 = .ok (.getfield 79, 3) := by decide +kernel
theorem dX10_back_230 : decode cX10_back 230 = .ok (.sipush 146, 3) := by decide +kernel
theorem dX10_back_233 : decode cX10_back 233 = .ok (.iaload, 1) := by decide +kernel
theorem dX10_back_234 : decode cX10_back 234 = .ok (.putfield 86, 3) := by decide +kernel
theorem dX10_back_237 : decode cX10_back 237 = .ok (.aload_n 0, 1) := by decide +kernel
theorem dX10_back_238 : decode cX10_back 238 = .ok (.aload_n 0, 1) := by decide +kernel
theorem dX10_back_239 : decode cX10_back 239 = .ok (.getfield 79, 3) := by decide +kernel
theorem dX10_back_242 : decode cX10_back 242 = .ok (.sipush 147, 3) := by decide +kernel
theorem dX10_back_245 : decode cX10_back 245 = .ok (.iaload, 1) := by decide +kernel
theorem dX10_back_246 : decode cX10_back 246 = .ok (.putfield 137, 3) := by decide +kernel
theorem dX10_back_249 : decode cX10_back 249 = .ok (.aload_n 0, 1) := by decide +kernel
theorem dX10_back_250 : decode cX10_back 250 = .ok (.aload_n 0, 1) := by decide +kernel
theorem dX10_back_251 : decode cX10_back 251 = .ok (.getfield 79, 3) := by decide +kernel
theorem dX10_back_254 : decode cX10_back 254 = .ok (.sipush 148, 3) := by decide +kernel
theorem dX10_back_257 : decode cX10_back 257 = .ok (.iaload, 1) := by decide +kernel
theorem dX10_back_258 : decode cX10_back 258 = .ok (.putfield 144, 3) := by decide +kernel
theorem dX10_back_261 : decode cX10_back 261 = .ok (.aload_n 0, 1) := by decide +kernel
theorem dX10_back_262 : decode cX10_back 262 = .ok (.getfield 86, 3) := by decide +kernel
theorem dX10_back_265 : decode cX10_back 265 = .ok (.ireturn, 1) := by decide +kernel
theorem dX10_loads_0 : decode cX10_loads 0 = .ok (.iload_n 1, 1) := by decide +kernel
theorem dX10_loads_1 : decode cX10_loads 1 = .ok (.invokestatic 322, 3) := by decide +kernel
theorem dX10_loads_4 : decode cX10_loads 4 = .ok (.ifCond .eq 23, 3) := by decide +kernel
theorem dX10_loads_7 : decode cX10_loads 7 = .ok (.iload_n 2, 1) := by decide +kernel
theorem dX10_loads_8 : decode cX10_loads 8 = .ok (.iconst 0, 1) := by decide +kernel
theorem dX10_loads_9 : decode cX10_loads 9 = .ok (.iconst 1, 1) := by decide +kernel
theorem dX10_loads_10 : decode cX10_loads 10 = .ok (.invokestatic 82, 3) := by decide +kernel
theorem dX10_loads_13 : decode cX10_loads 13 = .ok (.ifCond .eq 14, 3) := by decide +kernel
theorem dX10_loads_16 : decode cX10_loads 16 = .ok (.iload 4, 2) := by decide +kernel
theorem dX10_loads_18 : decode cX10_loads 18 = .ok (.iconst 0, 1) := by decide +kernel
theorem dX10_loads_19 : decode cX10_loads 19 = .ok (.bipush 8, 2) := by decide +kernel
theorem dX10_loads_21 : decode cX10_loads 21 = .ok (.invokestatic 82, 3) := by decide +kernel
theorem dX10_loads_24 : decode cX10_loads 24 = .ok (.ifCond .ne 6, 3) := by decide +kernel
theorem dX10_loads_27 : decode cX10_loads 27 = .ok (.bipush (-2), 2) := by decide +kernel
theorem dX10_loads_29 : decode cX10_loads 29 = .ok (.ireturn, 1) := by decide +kernel
theorem dX10_loads_30 : decode cX10_loads 30 = .ok (.aload_n 0, 1) := by decide +kernel
theorem dX10_loads_31 : decode cX10_loads 31 = .ok (.getfield 43, 3) := by decide +kernel
theorem dX10_loads_34 : decode cX10_loads 34 = .ok (.iload_n 1, 1) := by decide +kernel
theorem dX10_loads_35 : decode cX10_loads 35 = .ok (.iaload, 1) := by decide +kernel
theorem dX10_loads_36 : decode cX10_loads 36 = .ok (.ifCond .lt 16, 3) := by decide +kernel
theorem dX10_loads_39 : decode cX10_loads 39 = .ok (.aload_n 0, 1) := by decide +kernel
theorem dX10_loads_40 : decode cX10_loads 40 = .ok (.getfield 43, 3) := by decide +kernel
theorem dX10_loads_43 : decode cX10_loads 43 = .ok (.iload_n 1, 1) := by decide +kernel
theorem dX10_loads_44 : decode cX10_loads 44 = .ok (.iaload, 1) := by decide +kernel
theorem dX10_loads_45 : decode cX10_loads 45 = .ok (.iload_n 2, 1) := by decide +kernel
theorem dX10_loads_46 : decode cX10_loads 46 = .ok (.if_icmp .eq 6, 3) := by decide +kernel
theorem dX10_loads_49 : decode cX10_loads 49 = .ok (.bipush (-13), 2) := by decide +kernel
theorem dX10_loads_51 : decode cX10_loads 51 = .ok (.ireturn, 1) := by decide +kernel
theorem dX10_loads_52 : decode cX10_loads 52 = .ok (.aload_n 0, 1) := by decide +kernel
theorem dX10_loads_53 : decode cX10_loads 53 = .ok (.getfield 43, 3) := by decide +kernel
theorem dX10_loads_56 : decode cX10_loads 56 = .ok (.iload_n 1, 1) := by decide +kernel
theorem dX10_loads_57 : decode cX10_loads 57 = .ok (.iaload, 1) := by decide +kernel
theorem dX10_loads_58 : decode cX10_loads 58 = .ok (.ifCond .ge 6, 3) := by decide +kernel
theorem dX10_loads_61 : decode cX10_loads 61 = .ok (.bipush (-11), 2) := by decide +kernel
theorem dX10_loads_63 : decode cX10_loads 63 = .ok (.ireturn, 1) := by decide +kernel
theorem dX10_loads_64 : decode cX10_loads 64 = .ok (.iconst 0, 1) := by decide +kernel
theorem dX10_loads_65 : decode cX10_loads 65 = .ok (.istore 5, 2) := by decide +kernel
theorem dX10_loads_67 : decode cX10_loads 67 = .ok (.iconst 0, 1) := by decide +kernel
theorem dX10_loads_68 : decode cX10_loads 68 = .ok (.istore 6, 2) := by decide +kernel
theorem dX10_loads_70 : decode cX10_loads 70 = .ok (.iload 6, 2) := by decide +kernel
theorem dX10_loads_72 : decode cX10_loads 72 = .ok (.iload 4, 2) := by decide +kernel
theorem dX10_loads_74 : decode cX10_loads 74 = .ok (.if_icmp .ge 100, 3) := by decide +kernel
theorem dX10_loads_77 : decode cX10_loads 77 = .ok (.iload_n 3, 1) := by decide +kernel
theorem dX10_loads_78 : decode cX10_loads 78 = .ok (.i2l, 1) := by decide +kernel
theorem dX10_loads_79 : decode cX10_loads 79 = .ok (.ldc2_w 333, 3) := by decide +kernel
theorem dX10_loads_82 : decode cX10_loads 82 = .ok (.iload 6, 2) := by decide +kernel
theorem dX10_loads_84 : decode cX10_loads 84 = .ok (.i2l, 1) := by decide +kernel
theorem dX10_loads_85 : decode cX10_loads 85 = .ok (.lmul, 1) := by decide +kernel
theorem dX10_loads_86 : decode cX10_loads 86 = .ok (.ladd, 1) := by decide +kernel
theorem dX10_loads_87 : decode cX10_loads 87 = .ok (.lstore 7, 2) := by decide +kernel
theorem dX10_loads_89 : decode cX10_loads 89 = .ok (.lload 7, 2) := by decide +kernel
theorem dX10_loads_91 : decode cX10_loads 91 = .ok (.lconst 0, 1) := by decide +kernel
theorem dX10_loads_92 : decode cX10_loads 92 = .ok (.lcmp, 1) := by decide +kernel
theorem dX10_loads_93 : decode cX10_loads 93 = .ok (.ifCond .lt 20, 3) := by decide +kernel
theorem dX10_loads_96 : decode cX10_loads 96 = .ok (.lload 7, 2) := by decide +kernel
theorem dX10_loads_98 : decode cX10_loads 98 = .ok (.ldc2_w 335, 3) := by decide +kernel
theorem dX10_loads_101 : decode cX10_loads 101 = .ok (.ladd, 1) := by decide +kernel
theorem dX10_loads_102 : decode cX10_loads 102 = .ok (.aload_n 0, 1) := by decide +kernel
theorem dX10_loads_103 : decode cX10_loads 103 = .ok (.getfield 46, 3) := by decide +kernel
theorem dX10_loads_106 : decode cX10_loads 106 = .ok (.iload_n 1, 1) := by decide +kernel
theorem dX10_loads_107 : decode cX10_loads 107 = .ok (.iaload, 1) := by decide +kernel
theorem dX10_loads_108 : decode cX10_loads 108 = .ok (.i2l, 1) := by decide +kernel
theorem dX10_loads_109 : decode cX10_loads 109 = .ok (.lcmp, 1) := by decide +kernel
theorem dX10_loads_110 : decode cX10_loads 110 = .ok (.ifCond .lt 6, 3) := by decide +kernel
theorem dX10_loads_113 : decode cX10_loads 113 = .ok (.bipush (-12), 2) := by decide +kernel
theorem dX10_loads_115 : decode cX10_loads 115 = .ok (.ireturn, 1) := by decide +kernel
theorem dX10_loads_116 : decode cX10_loads 116 = .ok (.bipush 40, 2) := by decide +kernel
theorem dX10_loads_118 : decode cX10_loads 118 = .ok (.iload_n 1, 1) := by decide +kernel
theorem dX10_loads_119 : decode cX10_loads 119 = .ok (.imul, 1) := by decide +kernel
theorem dX10_loads_120 : decode cX10_loads 120 = .ok (.lload 7, 2) := by decide +kernel
theorem dX10_loads_122 : decode cX10_loads 122 = .ok (.l2i, 1) := by decide +kernel
theorem dX10_loads_123 : decode cX10_loads 123 = .ok (.iadd, 1) := by decide +kernel
theorem dX10_loads_124 : decode cX10_loads 124 = .ok (.istore 9, 2) := by decide +kernel
theorem dX10_loads_126 : decode cX10_loads 126 = .ok (.iload 5, 2) := by decide +kernel
theorem dX10_loads_128 : decode cX10_loads 128 = .ok (.aload_n 0, 1) := by decide +kernel
theorem dX10_loads_129 : decode cX10_loads 129 = .ok (.aload_n 0, 1) := by decide +kernel
theorem dX10_loads_130 : decode cX10_loads 130 = .ok (.getfield 49, 3) := by decide +kernel
theorem dX10_loads_133 : decode cX10_loads 133 = .ok (.iload 9, 2) := by decide +kernel
theorem dX10_loads_135 : decode cX10_loads 135 = .ok (.iaload, 1) := by decide +kernel
theorem dX10_loads_136 : decode cX10_loads 136 = .ok (.aload_n 0, 1) := by decide +kernel
theorem dX10_loads_137 : decode cX10_loads 137 = .ok (.getfield 49, 3) := by decide +kernel
theorem dX10_loads_140 : decode cX10_loads 140 = .ok (.iload 9, 2) := by decide +kernel
theorem dX10_loads_142 : decode cX10_loads 142 = .ok (.iconst 1, 1) := by decide +kernel
theorem dX10_loads_143 : decode cX10_loads 143 = .ok (.iadd, 1) := by decide +kernel
theorem dX10_loads_144 : decode cX10_loads 144 = .ok (.iaload, 1) := by decide +kernel
theorem dX10_loads_145 : decode cX10_loads 145 = .ok (.aload_n 0, 1) := by decide +kernel
theorem dX10_loads_146 : decode cX10_loads 146 = .ok (.getfield 49, 3) := by decide +kernel
theorem dX10_loads_149 : decode cX10_loads 149 = .ok (.iload 9, 2) := by decide +kernel
theorem dX10_loads_151 : decode cX10_loads 151 = .ok (.iconst 2, 1) := by decide +kernel
theorem dX10_loads_152 : decode cX10_loads 152 = .ok (.iadd, 1) := by decide +kernel
theorem dX10_loads_153 : decode cX10_loads 153 = .ok (.iaload, 1) := by decide +kernel
theorem dX10_loads_154 : decode cX10_loads 154 = .ok (.invokevirtual 337, 3) := by decide +kernel
theorem dX10_loads_157 : decode cX10_loads 157 = .ok (.ifCond .lt 7, 3) := by decide +kernel
theorem dX10_loads_160 : decode cX10_loads 160 = .ok (.iconst 1, 1) := by decide +kernel
theorem dX10_loads_161 : decode cX10_loads 161 = .ok (.goto 4, 3) := by decide +kernel
theorem dX10_loads_164 : decode cX10_loads 164 = .ok (.iconst 0, 1) := by decide +kernel
theorem dX10_loads_165 : decode cX10_loads 165 = .ok (.iadd, 1) := by decide +kernel
theorem dX10_loads_166 : decode cX10_loads 166 = .ok (.istore 5, 2) := by decide +kernel
theorem dX10_loads_168 : decode cX10_loads 168 = .ok (.iinc 6 1, 3) := by decide +kernel
theorem dX10_loads_171 : decode cX10_loads 171 = .ok (.goto (-101), 3) := by decide +kernel
theorem dX10_loads_174 : decode cX10_loads 174 = .ok (.iload 5, 2) := by decide +kernel
theorem dX10_loads_176 : decode cX10_loads 176 = .ok (.ireturn, 1) := by decide +kernel
theorem dX10_count_0 : decode cX10_count 0 = .ok (.iload_n 1, 1) := by decide +kernel
theorem dX10_count_1 : decode cX10_count 1 = .ok (.tableswitch 109 0 6 #[43, 48, 53, 58, 63, 68, 73], 43) := by decide +kernel
theorem dX10_count_44 : decode cX10_count 44 = .ok (.aload_n 0, 1) := by decide +kernel
theorem dX10_count_45 : decode cX10_count 45 = .ok (.getfield 86, 3) := by decide +kernel
theorem dX10_count_48 : decode cX10_count 48 = .ok (.ireturn, 1) := by decide +kernel
theorem dX10_count_49 : decode cX10_count 49 = .ok (.aload_n 0, 1) := by decide +kernel
theorem dX10_count_50 : decode cX10_count 50 = .ok (.getfield 137, 3) := by decide +kernel
theorem dX10_count_53 : decode cX10_count 53 = .ok (.ireturn, 1) := by decide +kernel
theorem dX10_count_54 : decode cX10_count 54 = .ok (.aload_n 0, 1) := by decide +kernel
theorem dX10_count_55 : decode cX10_count 55 = .ok (.getfield 144, 3) := by decide +kernel
theorem dX10_count_58 : decode cX10_count 58 = .ok (.ireturn, 1) := by decide +kernel
theorem dX10_count_59 : decode cX10_count 59 = .ok (.aload_n 0, 1) := by decide +kernel
theorem dX10_count_60 : decode cX10_count 60 = .ok (.getfield 191, 3) := by decide +kernel
theorem dX10_count_63 : decode cX10_count 63 = .ok (.ireturn, 1) := by decide +kernel
theorem dX10_count_64 : decode cX10_count 64 = .ok (.aload_n 0, 1) := by decide +kernel
theorem dX10_count_65 : decode cX10_count 65 = .ok (.invokevirtual 147, 3) := by decide +kernel
theorem dX10_count_68 : decode cX10_count 68 = .ok (.ireturn, 1) := by decide +kernel
theorem dX10_count_69 : decode cX10_count 69 = .ok (.aload_n 0, 1) := by decide +kernel
theorem dX10_count_70 : decode cX10_count 70 = .ok (.invokevirtual 292, 3) := by decide +kernel
theorem dX10_count_73 : decode cX10_count 73 = .ok (.ireturn, 1) := by decide +kernel
theorem dX10_count_74 : decode cX10_count 74 = .ok (.iconst 0, 1) := by decide +kernel
theorem dX10_count_75 : decode cX10_count 75 = .ok (.istore_n 2, 1) := by decide +kernel
theorem dX10_count_76 : decode cX10_count 76 = .ok (.iconst 0, 1) := by decide +kernel
theorem dX10_count_77 : decode cX10_count 77 = .ok (.istore_n 3, 1) := by decide +kernel
theorem dX10_count_78 : decode cX10_count 78 = .ok (.iload_n 3, 1) := by decide +kernel
theorem dX10_count_79 : decode cX10_count 79 = .ok (.iconst 4, 1) := by decide +kernel
theorem dX10_count_80 : decode cX10_count 80 = .ok (.if_icmp .ge 28, 3) := by decide +kernel
theorem dX10_count_83 : decode cX10_count 83 = .ok (.iload_n 2, 1) := by decide +kernel
theorem dX10_count_84 : decode cX10_count 84 = .ok (.aload_n 0, 1) := by decide +kernel
theorem dX10_count_85 : decode cX10_count 85 = .ok (.getfield 31, 3) := by decide +kernel
theorem dX10_count_88 : decode cX10_count 88 = .ok (.iload_n 3, 1) := by decide +kernel
theorem dX10_count_89 : decode cX10_count 89 = .ok (.iaload, 1) := by decide +kernel
theorem dX10_count_90 : decode cX10_count 90 = .ok (.ifCond .le 9, 3) := by decide +kernel
theorem dX10_count_93 : decode cX10_count 93 = .ok (.iconst 1, 1) := by decide +kernel
theorem dX10_count_94 : decode cX10_count 94 = .ok (.iload_n 3, 1) := by decide +kernel
theorem dX10_count_95 : decode cX10_count 95 = .ok (.ishl, 1) := by decide +kernel
