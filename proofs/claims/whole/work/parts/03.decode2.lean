theorem dX9_tries_46 : decode cX9_tries 46 = .ok (.aload_n 0, 1) := by decide +kernel
theorem dX9_tries_47 : decode cX9_tries 47 = .ok (.getfield 57, 3) := by decide +kernel
theorem dX9_tries_50 : decode cX9_tries 50 = .ok (.aload_n 0, 1) := by decide +kernel
theorem dX9_tries_51 : decode cX9_tries 51 = .ok (.getfield 16, 3) := by decide +kernel
theorem dX9_tries_54 : decode cX9_tries 54 = .ok (.aload_n 0, 1) := by decide +kernel
theorem dX9_tries_55 : decode cX9_tries 55 = .ok (.getfield 24, 3) := by decide +kernel
theorem dX9_tries_58 : decode cX9_tries 58 = .ok (.iload_n 1, 1) := by decide +kernel
theorem dX9_tries_59 : decode cX9_tries 59 = .ok (.aaload, 1) := by decide +kernel
theorem dX9_tries_60 : decode cX9_tries 60 = .ok (.iconst 0, 1) := by decide +kernel
theorem dX9_tries_61 : decode cX9_tries 61 = .ok (.invokevirtual 245, 3) := by decide +kernel
theorem dX9_tries_64 : decode cX9_tries 64 = .ok (.iload_n 2, 1) := by decide +kernel
theorem dX9_tries_65 : decode cX9_tries 65 = .ok (.tableswitch 124 0 5 #[39, 55, 63, 71, 108, 116], 39) := by decide +kernel
theorem dX9_tries_104 : decode cX9_tries 104 = .ok (.aload_n 0, 1) := by decide +kernel
theorem dX9_tries_105 : decode cX9_tries 105 = .ok (.getfield 16, 3) := by decide +kernel
theorem dX9_tries_108 : decode cX9_tries 108 = .ok (.getfield 252, 3) := by decide +kernel
theorem dX9_tries_111 : decode cX9_tries 111 = .ok (.aload_n 0, 1) := by decide +kernel
theorem dX9_tries_112 : decode cX9_tries 112 = .ok (.getfield 10, 3) := by decide +kernel
theorem dX9_tries_115 : decode cX9_tries 115 = .ok (.getfield 252, 3) := by decide +kernel
theorem dX9_tries_118 : decode cX9_tries 118 = .ok (.isub, 1) := by decide +kernel
theorem dX9_tries_119 : decode cX9_tries 119 = .ok (.ireturn, 1) := by decide +kernel
theorem dX9_tries_120 : decode cX9_tries 120 = .ok (.aload_n 0, 1) := by decide +kernel
theorem dX9_tries_121 : decode cX9_tries 121 = .ok (.getfield 57, 3) := by decide +kernel
theorem dX9_tries_124 : decode cX9_tries 124 = .ok (.getfield 255, 3) := by decide +kernel
theorem dX9_tries_127 : decode cX9_tries 127 = .ok (.ireturn, 1) := by decide +kernel
theorem dX9_tries_128 : decode cX9_tries 128 = .ok (.aload_n 0, 1) := by decide +kernel
theorem dX9_tries_129 : decode cX9_tries 129 = .ok (.getfield 57, 3) := by decide +kernel
theorem dX9_tries_132 : decode cX9_tries 132 = .ok (.getfield 258, 3) := by decide +kernel
theorem dX9_tries_135 : decode cX9_tries 135 = .ok (.ireturn, 1) := by decide +kernel
theorem dX9_tries_136 : decode cX9_tries 136 = .ok (.aload_n 0, 1) := by decide +kernel
theorem dX9_tries_137 : decode cX9_tries 137 = .ok (.aload_n 0, 1) := by decide +kernel
theorem dX9_tries_138 : decode cX9_tries 138 = .ok (.getfield 57, 3) := by decide +kernel
theorem dX9_tries_141 : decode cX9_tries 141 = .ok (.getfield 258, 3) := by decide +kernel
theorem dX9_tries_144 : decode cX9_tries 144 = .ok (.invokevirtual 116, 3) := by decide +kernel
theorem dX9_tries_147 : decode cX9_tries 147 = .ok (.ifCond .eq 24, 3) := by decide +kernel
theorem dX9_tries_150 : decode cX9_tries 150 = .ok (.aload_n 0, 1) := by decide +kernel
theorem dX9_tries_151 : decode cX9_tries 151 = .ok (.getfield 16, 3) := by decide +kernel
theorem dX9_tries_154 : decode cX9_tries 154 = .ok (.getfield 119, 3) := by decide +kernel
theorem dX9_tries_157 : decode cX9_tries 157 = .ok (.aload_n 0, 1) := by decide +kernel
theorem dX9_tries_158 : decode cX9_tries 158 = .ok (.getfield 57, 3) := by decide +kernel
theorem dX9_tries_161 : decode cX9_tries 161 = .ok (.getfield 258, 3) := by decide +kernel
theorem dX9_tries_164 : decode cX9_tries 164 = .ok (.aaload, 1) := by decide +kernel
theorem dX9_tries_165 : decode cX9_tries 165 = .ok (.getfield 138, 3) := by decide +kernel
theorem dX9_tries_168 : decode cX9_tries 168 = .ok (.goto 4, 3) := by decide +kernel
theorem dX9_tries_171 : decode cX9_tries 171 = .ok (.iconst 0, 1) := by decide +kernel
theorem dX9_tries_172 : decode cX9_tries 172 = .ok (.ireturn, 1) := by decide +kernel
theorem dX9_tries_173 : decode cX9_tries 173 = .ok (.aload_n 0, 1) := by decide +kernel
theorem dX9_tries_174 : decode cX9_tries 174 = .ok (.getfield 16, 3) := by decide +kernel
theorem dX9_tries_177 : decode cX9_tries 177 = .ok (.invokevirtual 261, 3) := by decide +kernel
theorem dX9_tries_180 : decode cX9_tries 180 = .ok (.ireturn, 1) := by decide +kernel
theorem dX9_tries_181 : decode cX9_tries 181 = .ok (.aload_n 0, 1) := by decide +kernel
theorem dX9_tries_182 : decode cX9_tries 182 = .ok (.getfield 16, 3) := by decide +kernel
theorem dX9_tries_185 : decode cX9_tries 185 = .ok (.invokevirtual 181, 3) := by decide +kernel
theorem dX9_tries_188 : decode cX9_tries 188 = .ok (.ireturn, 1) := by decide +kernel
theorem dX9_tries_189 : decode cX9_tries 189 = .ok (.aload_n 0, 1) := by decide +kernel
theorem dX9_tries_190 : decode cX9_tries 190 = .ok (.getfield 16, 3) := by decide +kernel
theorem dX9_tries_193 : decode cX9_tries 193 = .ok (.getfield 82, 3) := by decide +kernel
theorem dX9_tries_196 : decode cX9_tries 196 = .ok (.iload_n 2, 1) := by decide +kernel
theorem dX9_tries_197 : decode cX9_tries 197 = .ok (.bipush 6, 2) := by decide +kernel
theorem dX9_tries_199 : decode cX9_tries 199 = .ok (.isub, 1) := by decide +kernel
theorem dX9_tries_200 : decode cX9_tries 200 = .ok (.iaload, 1) := by decide +kernel
theorem dX9_tries_201 : decode cX9_tries 201 = .ok (.ireturn, 1) := by decide +kernel
theorem dX9_plan_0 : decode cX9_plan 0 = .ok (.iload_n 1, 1) := by decide +kernel
theorem dX9_plan_1 : decode cX9_plan 1 = .ok (.iload_n 2, 1) := by decide +kernel
theorem dX9_plan_2 : decode cX9_plan 2 = .ok (.invokestatic 264, 3) := by decide +kernel
theorem dX9_plan_5 : decode cX9_plan 5 = .ok (.ifCond .eq 12, 3) := by decide +kernel
theorem dX9_plan_8 : decode cX9_plan 8 = .ok (.iload_n 3, 1) := by decide +kernel
theorem dX9_plan_9 : decode cX9_plan 9 = .ok (.iconst 0, 1) := by decide +kernel
theorem dX9_plan_10 : decode cX9_plan 10 = .ok (.iconst 1, 1) := by decide +kernel
theorem dX9_plan_11 : decode cX9_plan 11 = .ok (.invokestatic 108, 3) := by decide +kernel
theorem dX9_plan_14 : decode cX9_plan 14 = .ok (.ifCond .ne 6, 3) := by decide +kernel
theorem dX9_plan_17 : decode cX9_plan 17 = .ok (.bipush (-2), 2) := by decide +kernel
theorem dX9_plan_19 : decode cX9_plan 19 = .ok (.ireturn, 1) := by decide +kernel
theorem dX9_plan_20 : decode cX9_plan 20 = .ok (.aload_n 0, 1) := by decide +kernel
theorem dX9_plan_21 : decode cX9_plan 21 = .ok (.getfield 64, 3) := by decide +kernel
theorem dX9_plan_24 : decode cX9_plan 24 = .ok (.aload_n 0, 1) := by decide +kernel
theorem dX9_plan_25 : decode cX9_plan 25 = .ok (.getfield 10, 3) := by decide +kernel
theorem dX9_plan_28 : decode cX9_plan 28 = .ok (.iload_n 1, 1) := by decide +kernel
theorem dX9_plan_29 : decode cX9_plan 29 = .ok (.iload_n 2, 1) := by decide +kernel
theorem dX9_plan_30 : decode cX9_plan 30 = .ok (.invokevirtual 268, 3) := by decide +kernel
theorem dX9_plan_33 : decode cX9_plan 33 = .ok (.aload_n 0, 1) := by decide +kernel
theorem dX9_plan_34 : decode cX9_plan 34 = .ok (.getfield 64, 3) := by decide +kernel
theorem dX9_plan_37 : decode cX9_plan 37 = .ok (.getfield 272, 3) := by decide +kernel
theorem dX9_plan_40 : decode cX9_plan 40 = .ok (.iconst (-1), 1) := by decide +kernel
theorem dX9_plan_41 : decode cX9_plan 41 = .ok (.if_icmp .ne 5, 3) := by decide +kernel
theorem dX9_plan_44 : decode cX9_plan 44 = .ok (.iconst (-1), 1) := by decide +kernel
theorem dX9_plan_45 : decode cX9_plan 45 = .ok (.ireturn, 1) := by decide +kernel
theorem dX9_plan_46 : decode cX9_plan 46 = .ok (.iload_n 3, 1) := by decide +kernel
theorem dX9_plan_47 : decode cX9_plan 47 = .ok (.ifCond .ne 13, 3) := by decide +kernel
theorem dX9_plan_50 : decode cX9_plan 50 = .ok (.aload_n 0, 1) := by decide +kernel
theorem dX9_plan_51 : decode cX9_plan 51 = .ok (.getfield 64, 3) := by decide +kernel
theorem dX9_plan_54 : decode cX9_plan 54 = .ok (.getfield 272, 3) := by decide +kernel
theorem dX9_plan_57 : decode cX9_plan 57 = .ok (.goto 10, 3) := by decide +kernel
theorem dX9_plan_60 : decode cX9_plan 60 = .ok (.aload_n 0, 1) := by decide +kernel
theorem dX9_plan_61 : decode cX9_plan 61 = .ok (.getfield 64, 3) := by decide +kernel
theorem dX9_plan_64 : decode cX9_plan 64 = .ok (.invokevirtual 275, 3) := by decide +kernel
theorem dX9_plan_67 : decode cX9_plan 67 = .ok (.ireturn, 1) := by decide +kernel
theorem dX9_lay_0 : decode cX9_lay 0 = .ok (.iload_n 1, 1) := by decide +kernel
theorem dX9_lay_1 : decode cX9_lay 1 = .ok (.invokestatic 206, 3) := by decide +kernel
theorem dX9_lay_4 : decode cX9_lay 4 = .ok (.ifCond .eq 11, 3) := by decide +kernel
theorem dX9_lay_7 : decode cX9_lay 7 = .ok (.iload_n 2, 1) := by decide +kernel
theorem dX9_lay_8 : decode cX9_lay 8 = .ok (.iload_n 3, 1) := by decide +kernel
theorem dX9_lay_9 : decode cX9_lay 9 = .ok (.invokestatic 264, 3) := by decide +kernel
theorem dX9_lay_12 : decode cX9_lay 12 = .ok (.ifCond .ne 6, 3) := by decide +kernel
theorem dX9_lay_15 : decode cX9_lay 15 = .ok (.bipush (-2), 2) := by decide +kernel
theorem dX9_lay_17 : decode cX9_lay 17 = .ok (.ireturn, 1) := by decide +kernel
theorem dX9_lay_18 : decode cX9_lay 18 = .ok (.aload_n 0, 1) := by decide +kernel
theorem dX9_lay_19 : decode cX9_lay 19 = .ok (.getfield 64, 3) := by decide +kernel
theorem dX9_lay_22 : decode cX9_lay 22 = .ok (.aload_n 0, 1) := by decide +kernel
theorem dX9_lay_23 : decode cX9_lay 23 = .ok (.getfield 10, 3) := by decide +kernel
theorem dX9_lay_26 : decode cX9_lay 26 = .ok (.iload_n 2, 1) := by decide +kernel
theorem dX9_lay_27 : decode cX9_lay 27 = .ok (.iload_n 3, 1) := by decide +kernel
theorem dX9_lay_28 : decode cX9_lay 28 = .ok (.invokevirtual 268, 3) := by decide +kernel
theorem dX9_lay_31 : decode cX9_lay 31 = .ok (.aload_n 0, 1) := by decide +kernel
theorem dX9_lay_32 : decode cX9_lay 32 = .ok (.getfield 64, 3) := by decide +kernel
theorem dX9_lay_35 : decode cX9_lay 35 = .ok (.getfield 272, 3) := by decide +kernel
theorem dX9_lay_38 : decode cX9_lay 38 = .ok (.iconst (-1), 1) := by decide +kernel
theorem dX9_lay_39 : decode cX9_lay 39 = .ok (.if_icmp .ne 6, 3) := by decide +kernel
theorem dX9_lay_42 : decode cX9_lay 42 = .ok (.bipush (-3), 2) := by decide +kernel
theorem dX9_lay_44 : decode cX9_lay 44 = .ok (.ireturn, 1) := by decide +kernel
theorem dX9_lay_45 : decode cX9_lay 45 = .ok (.aload_n 0, 1) := by decide +kernel
theorem dX9_lay_46 : decode cX9_lay 46 = .ok (.getfield 24, 3) := by decide +kernel
theorem dX9_lay_49 : decode cX9_lay 49 = .ok (.iload_n 1, 1) := by decide +kernel
theorem dX9_lay_50 : decode cX9_lay 50 = .ok (.aaload, 1) := by decide +kernel
theorem dX9_lay_51 : decode cX9_lay 51 = .ok (.iconst 0, 1) := by decide +kernel
theorem dX9_lay_52 : decode cX9_lay 52 = .ok (.putfield 216, 3) := by decide +kernel
theorem dX9_lay_55 : decode cX9_lay 55 = .ok (.iconst 0, 1) := by decide +kernel
theorem dX9_lay_56 : decode cX9_lay 56 = .ok (.istore 4, 2) := by decide +kernel
theorem dX9_lay_58 : decode cX9_lay 58 = .ok (.iload 4, 2) := by decide +kernel
theorem dX9_lay_60 : decode cX9_lay 60 = .ok (.iload_n 2, 1) := by decide +kernel
theorem dX9_lay_61 : decode cX9_lay 61 = .ok (.if_icmp .ge 37, 3) := by decide +kernel
theorem dX9_lay_64 : decode cX9_lay 64 = .ok (.aload_n 0, 1) := by decide +kernel
theorem dX9_lay_65 : decode cX9_lay 65 = .ok (.getfield 64, 3) := by decide +kernel
theorem dX9_lay_68 : decode cX9_lay 68 = .ok (.getfield 278, 3) := by decide +kernel
theorem dX9_lay_71 : decode cX9_lay 71 = .ok (.iload 4, 2) := by decide +kernel
theorem dX9_lay_73 : decode cX9_lay 73 = .ok (.iaload, 1) := by decide +kernel
theorem dX9_lay_74 : decode cX9_lay 74 = .ok (.istore 5, 2) := by decide +kernel
theorem dX9_lay_76 : decode cX9_lay 76 = .ok (.aload_n 0, 1) := by decide +kernel
theorem dX9_lay_77 : decode cX9_lay 77 = .ok (.getfield 24, 3) := by decide +kernel
theorem dX9_lay_80 : decode cX9_lay 80 = .ok (.iload_n 1, 1) := by decide +kernel
theorem dX9_lay_81 : decode cX9_lay 81 = .ok (.aaload, 1) := by decide +kernel
theorem dX9_lay_82 : decode cX9_lay 82 = .ok (.iload 5, 2) := by decide +kernel
theorem dX9_lay_84 : decode cX9_lay 84 = .ok (.iload 5, 2) := by decide +kernel
theorem dX9_lay_86 : decode cX9_lay 86 = .ok (.iload 5, 2) := by decide +kernel
theorem dX9_lay_88 : decode cX9_lay 88 = .ok (.iload_n 3, 1) := by decide +kernel
theorem dX9_lay_89 : decode cX9_lay 89 = .ok (.invokevirtual 281, 3) := by decide +kernel
theorem dX9_lay_92 : decode cX9_lay 92 = .ok (.iinc 4 1, 3) := by decide +kernel
theorem dX9_lay_95 : decode cX9_lay 95 = .ok (.goto (-37), 3) := by decide +kernel
theorem dX9_lay_98 : decode cX9_lay 98 = .ok (.aload_n 0, 1) := by decide +kernel
theorem dX9_lay_99 : decode cX9_lay 99 = .ok (.getfield 64, 3) := by decide +kernel
theorem dX9_lay_102 : decode cX9_lay 102 = .ok (.getfield 272, 3) := by decide +kernel
theorem dX9_lay_105 : decode cX9_lay 105 = .ok (.ireturn, 1) := by decide +kernel
theorem dX9_wary_0 : decode cX9_wary 0 = .ok (.aload_n 0, 1) := by decide +kernel
theorem dX9_wary_1 : decode cX9_wary 1 = .ok (.getfield 10, 3) := by decide +kernel
theorem dX9_wary_4 : decode cX9_wary 4 = .ok (.invokevirtual 285, 3) := by decide +kernel
theorem dX9_wary_7 : decode cX9_wary 7 = .ok (.ireturn, 1) := by decide +kernel
theorem dX9_careful_0 : decode cX9_careful 0 = .ok (.iload_n 1, 1) := by decide +kernel
theorem dX9_careful_1 : decode cX9_careful 1 = .ok (.iconst 0, 1) := by decide +kernel
theorem dX9_careful_2 : decode cX9_careful 2 = .ok (.bipush 30, 2) := by decide +kernel
theorem dX9_careful_4 : decode cX9_careful 4 = .ok (.invokestatic 108, 3) := by decide +kernel
theorem dX9_careful_7 : decode cX9_careful 7 = .ok (.ifCond .eq 13, 3) := by decide +kernel
theorem dX9_careful_10 : decode cX9_careful 10 = .ok (.iload_n 2, 1) := by decide +kernel
theorem dX9_careful_11 : decode cX9_careful 11 = .ok (.iconst 0, 1) := by decide +kernel
theorem dX9_careful_12 : decode cX9_careful 12 = .ok (.bipush 6, 2) := by decide +kernel
theorem dX9_careful_14 : decode cX9_careful 14 = .ok (.invokestatic 108, 3) := by decide +kernel
theorem dX9_careful_17 : decode cX9_careful 17 = .ok (.ifCond .ne 6, 3) := by decide +kernel
theorem dX9_careful_20 : decode cX9_careful 20 = .ok (.bipush (-2), 2) := by decide +kernel
theorem dX9_careful_22 : decode cX9_careful 22 = .ok (.ireturn, 1) := by decide +kernel
theorem dX9_careful_23 : decode cX9_careful 23 = .ok (.aload_n 0, 1) := by decide +kernel
theorem dX9_careful_24 : decode cX9_careful 24 = .ok (.getfield 16, 3) := by decide +kernel
theorem dX9_careful_27 : decode cX9_careful 27 = .ok (.aload_n 0, 1) := by decide +kernel
theorem dX9_careful_28 : decode cX9_careful 28 = .ok (.getfield 10, 3) := by decide +kernel
theorem dX9_careful_31 : decode cX9_careful 31 = .ok (.invokevirtual 177, 3) := by decide +kernel
theorem dX9_careful_34 : decode cX9_careful 34 = .ok (.iconst 0, 1) := by decide +kernel
theorem dX9_careful_35 : decode cX9_careful 35 = .ok (.istore_n 3, 1) := by decide +kernel
theorem dX9_careful_36 : decode cX9_careful 36 = .ok (.iload_n 3, 1) := by decide +kernel
theorem dX9_careful_37 : decode cX9_careful 37 = .ok (.iload_n 1, 1) := by decide +kernel
theorem dX9_careful_38 : decode cX9_careful 38 = .ok (.if_icmp .ge 16, 3) := by decide +kernel
theorem dX9_careful_41 : decode cX9_careful 41 = .ok (.aload_n 0, 1) := by decide +kernel
theorem dX9_careful_42 : decode cX9_careful 42 = .ok (.getfield 16, 3) := by decide +kernel
theorem dX9_careful_45 : decode cX9_careful 45 = .ok (.invokevirtual 288, 3) := by decide +kernel
theorem dX9_careful_48 : decode cX9_careful 48 = .ok (.iinc 3 1, 3) := by decide +kernel
theorem dX9_careful_51 : decode cX9_careful 51 = .ok (.goto (-15), 3) := by decide +kernel
theorem dX9_careful_54 : decode cX9_careful 54 = .ok (.iload_n 2, 1) := by decide +kernel
theorem dX9_careful_55 : decode cX9_careful 55 = .ok (.tableswitch 81 0 6 #[41, 57, 65, 81, 81, 81, 73], 41) := by decide +kernel
theorem dX9_careful_96 : decode cX9_careful 96 = .ok (.aload_n 0, 1) := by decide +kernel
theorem dX9_careful_97 : decode cX9_careful 97 = .ok (.getfield 16, 3) := by decide +kernel
theorem dX9_careful_100 : decode cX9_careful 100 = .ok (.getfield 252, 3) := by decide +kernel
theorem dX9_careful_103 : decode cX9_careful 103 = .ok (.aload_n 0, 1) := by decide +kernel
theorem dX9_careful_104 : decode cX9_careful 104 = .ok (.getfield 10, 3) := by decide +kernel
theorem dX9_careful_107 : decode cX9_careful 107 = .ok (.getfield 252, 3) := by decide +kernel
theorem dX9_careful_110 : decode cX9_careful 110 = .ok (.isub, 1) := by decide +kernel
theorem dX9_careful_111 : decode cX9_careful 111 = .ok (.ireturn, 1) := by decide +kernel
theorem dX9_careful_112 : decode cX9_careful 112 = .ok (.aload_n 0, 1) := by decide +kernel
theorem dX9_careful_113 : decode cX9_careful 113 = .ok (.getfield 16, 3) := by decide +kernel
theorem dX9_careful_116 : decode cX9_careful 116 = .ok (.invokevirtual 181, 3) := by decide +kernel
theorem dX9_careful_119 : decode cX9_careful 119 = .ok (.ireturn, 1) := by decide +kernel
theorem dX9_careful_120 : decode cX9_careful 120 = .ok (.aload_n 0, 1) := by decide +kernel
theorem dX9_careful_121 : decode cX9_careful 121 = .ok (.getfield 16, 3) := by decide +kernel
theorem dX9_careful_124 : decode cX9_careful 124 = .ok (.invokevirtual 261, 3) := by decide +kernel
theorem dX9_careful_127 : decode cX9_careful 127 = .ok (.ireturn, 1) := by decide +kernel
theorem dX9_careful_128 : decode cX9_careful 128 = .ok (.aload_n 0, 1) := by decide +kernel
theorem dX9_careful_129 : decode cX9_careful 129 = .ok (.getfield 16, 3) := by decide +kernel
theorem dX9_careful_132 : decode cX9_careful 132 = .ok (.invokevirtual 291, 3) := by decide +kernel
theorem dX9_careful_135 : decode cX9_careful 135 = .ok (.ireturn, 1) := by decide +kernel
theorem dX9_careful_136 : decode cX9_careful 136 = .ok (.aload_n 0, 1) := by decide +kernel
theorem dX9_careful_137 : decode cX9_careful 137 = .ok (.getfield 16, 3) := by decide +kernel
theorem dX9_careful_140 : decode cX9_careful 140 = .ok (.getfield 82, 3) := by decide +kernel
theorem dX9_careful_143 : decode cX9_careful 143 = .ok (.iload_n 2, 1) := by decide +kernel
theorem dX9_careful_144 : decode cX9_careful 144 = .ok (.iconst 3, 1) := by decide +kernel
theorem dX9_careful_145 : decode cX9_careful 145 = .ok (.isub, 1) := by decide +kernel
theorem dX9_careful_146 : decode cX9_careful 146 = .ok (.iaload, 1) := by decide +kernel
theorem dX9_careful_147 : decode cX9_careful 147 = .ok (.ireturn, 1) := by decide +kernel
theorem dX9_tells_0 : decode cX9_tells 0 = .ok (.iload_n 1, 1) := by decide +kernel
theorem dX9_tells_1 : decode cX9_tells 1 = .ok (.invokestatic 294, 3) := by decide +kernel
theorem dX9_tells_4 : decode cX9_tells 4 = .ok (.ifCond .eq 19, 3) := by decide +kernel
theorem dX9_tells_7 : decode cX9_tells 7 = .ok (.iload_n 2, 1) := by decide +kernel
theorem dX9_tells_8 : decode cX9_tells 8 = .ok (.invokestatic 75, 3) := by decide +kernel
theorem dX9_tells_11 : decode cX9_tells 11 = .ok (.ifCond .eq 12, 3) := by decide +kernel
theorem dX9_tells_14 : decode cX9_tells 14 = .ok (.iload_n 3, 1) := by decide +kernel
theorem dX9_tells_15 : decode cX9_tells 15 = .ok (.iconst 0, 1) := by decide +kernel
theorem dX9_tells_16 : decode cX9_tells 16 = .ok (.iconst 1, 1) := by decide +kernel
theorem dX9_tells_17 : decode cX9_tells 17 = .ok (.invokestatic 108, 3) := by decide +kernel
theorem dX9_tells_20 : decode cX9_tells 20 = .ok (.ifCond .ne 6, 3) := by decide +kernel
theorem dX9_tells_23 : decode cX9_tells 23 = .ok (.bipush (-2), 2) := by decide +kernel
theorem dX9_tells_25 : decode cX9_tells 25 = .ok (.ireturn, 1) := by decide +kernel
theorem dX9_tells_26 : decode cX9_tells 26 = .ok (.aload_n 0, 1) := by decide +kernel
theorem dX9_tells_27 : decode cX9_tells 27 = .ok (.getfield 70, 3) := by decide +kernel
theorem dX9_tells_30 : decode cX9_tells 30 = .ok (.iload_n 1, 1) := by decide +kernel
theorem dX9_tells_31 : decode cX9_tells 31 = .ok (.aaload, 1) := by decide +kernel
theorem dX9_tells_32 : decode cX9_tells 32 = .ok (.invokevirtual 297, 3) := by decide +kernel
theorem dX9_tells_35 : decode cX9_tells 35 = .ok (.ifCond .eq 6, 3) := by decide +kernel
theorem dX9_tells_38 : decode cX9_tells 38 = .ok (.bipush (-11), 2) := by decide +kernel
theorem dX9_tells_40 : decode cX9_tells 40 = .ok (.ireturn, 1) := by decide +kernel
theorem dX9_tells_41 : decode cX9_tells 41 = .ok (.aload_n 0, 1) := by decide +kernel
theorem dX9_tells_42 : decode cX9_tells 42 = .ok (.getfield 70, 3) := by decide +kernel
theorem dX9_tells_45 : decode cX9_tells 45 = .ok (.iload_n 1, 1) := by decide +kernel
theorem dX9_tells_46 : decode cX9_tells 46 = .ok (.aaload, 1) := by decide +kernel
theorem dX9_tells_47 : decode cX9_tells 47 = .ok (.getfield 300, 3) := by decide +kernel
theorem dX9_tells_50 : decode cX9_tells 50 = .ok (.bipush 12, 2) := by decide +kernel
theorem dX9_tells_52 : decode cX9_tells 52 = .ok (.if_icmp .le 6, 3) := by decide +kernel
theorem dX9_tells_55 : decode cX9_tells 55 = .ok (.bipush (-2), 2) := by decide +kernel
theorem dX9_tells_57 : decode cX9_tells 57 = .ok (.ireturn, 1) := by decide +kernel
theorem dX9_tells_58 : decode cX9_tells 58 = .ok (.iload_n 3, 1) := by decide +kernel
theorem dX9_tells_59 : decode cX9_tells 59 = .ok (.ifCond .ne 24, 3) := by decide +kernel
theorem dX9_tells_62 : decode cX9_tells 62 = .ok (.aload_n 0, 1) := by decide +kernel
theorem dX9_tells_63 : decode cX9_tells 63 = .ok (.aload_n 0, 1) := by decide +kernel
theorem dX9_tells_64 : decode cX9_tells 64 = .ok (.getfield 70, 3) := by decide +kernel
theorem dX9_tells_67 : decode cX9_tells 67 = .ok (.iload_n 1, 1) := by decide +kernel
theorem dX9_tells_68 : decode cX9_tells 68 = .ok (.aaload, 1) := by decide +kernel
theorem dX9_tells_69 : decode cX9_tells 69 = .ok (.iload_n 2, 1) := by decide +kernel
theorem dX9_tells_70 : decode cX9_tells 70 = .ok (.aload_n 0, 1) := by decide +kernel
theorem dX9_tells_71 : decode cX9_tells 71 = .ok (.getfield 10, 3) := by decide +kernel
theorem dX9_tells_74 : decode cX9_tells 74 = .ok (.getfield 89, 3) := by decide +kernel
theorem dX9_tells_77 : decode cX9_tells 77 = .ok (.iload_n 2, 1) := by decide +kernel
theorem dX9_tells_78 : decode cX9_tells 78 = .ok (.iaload, 1) := by decide +kernel
theorem dX9_tells_79 : decode cX9_tells 79 = .ok (.invokevirtual 301, 3) := by decide +kernel
theorem dX9_tells_82 : decode cX9_tells 82 = .ok (.ireturn, 1) := by decide +kernel
theorem dX9_tells_83 : decode cX9_tells 83 = .ok (.iconst 0, 1) := by decide +kernel
theorem dX9_tells_84 : decode cX9_tells 84 = .ok (.istore 4, 2) := by decide +kernel
theorem dX9_tells_86 : decode cX9_tells 86 = .ok (.iconst 0, 1) := by decide +kernel
theorem dX9_tells_87 : decode cX9_tells 87 = .ok (.istore 5, 2) := by decide +kernel
theorem dX9_tells_89 : decode cX9_tells 89 = .ok (.iload 5, 2) := by decide +kernel
theorem dX9_tells_91 : decode cX9_tells 91 = .ok (.iconst 4, 1) := by decide +kernel
theorem dX9_tells_92 : decode cX9_tells 92 = .ok (.if_icmp .ge 35, 3) := by decide +kernel
theorem dX9_tells_95 : decode cX9_tells 95 = .ok (.aload_n 0, 1) := by decide +kernel
theorem dX9_tells_96 : decode cX9_tells 96 = .ok (.aload_n 0, 1) := by decide +kernel
theorem dX9_tells_97 : decode cX9_tells 97 = .ok (.getfield 70, 3) := by decide +kernel
theorem dX9_tells_100 : decode cX9_tells 100 = .ok (.iload_n 1, 1) := by decide +kernel
theorem dX9_tells_101 : decode cX9_tells 101 = .ok (.aaload, 1) := by decide +kernel
theorem dX9_tells_102 : decode cX9_tells 102 = .ok (.iload_n 2, 1) := by decide +kernel
theorem dX9_tells_103 : decode cX9_tells 103 = .ok (.iload 5, 2) := by decide +kernel
theorem dX9_tells_105 : decode cX9_tells 105 = .ok (.invokevirtual 301, 3) := by decide +kernel
theorem dX9_tells_108 : decode cX9_tells 108 = .ok (.iconst (-1), 1) := by decide +kernel
theorem dX9_tells_109 : decode cX9_tells 109 = .ok (.if_icmp .ne 12, 3) := by decide +kernel
theorem dX9_tells_112 : decode cX9_tells 112 = .ok (.iload 4, 2) := by decide +kernel
theorem dX9_tells_114 : decode cX9_tells 114 = .ok (.iconst 1, 1) := by decide +kernel
theorem dX9_tells_115 : decode cX9_tells 115 = .ok (.iload 5, 2) := by decide +kernel
theorem dX9_tells_117 : decode cX9_tells 117 = .ok (.ishl, 1) := by decide +kernel
theorem dX9_tells_118 : decode cX9_tells 118 = .ok (.ior, 1) := by decide +kernel
theorem dX9_tells_119 : decode cX9_tells 119 = .ok (.istore 4, 2) := by decide +kernel
theorem dX9_tells_121 : decode cX9_tells 121 = .ok (.iinc 5 1, 3) := by decide +kernel
theorem dX9_tells_124 : decode cX9_tells 124 = .ok (.goto (-35), 3) := by decide +kernel
theorem dX9_tells_127 : decode cX9_tells 127 = .ok (.iload 4, 2) := by decide +kernel
theorem dX9_tells_129 : decode cX9_tells 129 = .ok (.ireturn, 1) := by decide +kernel
theorem dX9_film_0 : decode cX9_film 0 = .ok (.iload_n 1, 1) := by decide +kernel
theorem dX9_film_1 : decode cX9_film 1 = .ok (.invokestatic 294, 3) := by decide +kernel
theorem dX9_film_4 : decode cX9_film 4 = .ok (.ifCond .eq 20, 3) := by decide +kernel
theorem dX9_film_7 : decode cX9_film 7 = .ok (.iload_n 2, 1) := by decide +kernel
theorem dX9_film_8 : decode cX9_film 8 = .ok (.invokestatic 75, 3) := by decide +kernel
theorem dX9_film_11 : decode cX9_film 11 = .ok (.ifCond .eq 13, 3) := by decide +kernel
theorem dX9_film_14 : decode cX9_film 14 = .ok (.iload_n 3, 1) := by decide +kernel
theorem dX9_film_15 : decode cX9_film 15 = .ok (.iconst 0, 1) := by decide +kernel
theorem dX9_film_16 : decode cX9_film 16 = .ok (.bipush 12, 2) := by decide +kernel
theorem dX9_film_18 : decode cX9_film 18 = .ok (.invokestatic 108, 3) := by decide +kernel
theorem dX9_film_21 : decode cX9_film 21 = .ok (.ifCond .ne 6, 3) := by decide +kernel
theorem dX9_film_24 : decode cX9_film 24 = .ok (.bipush (-2), 2) := by decide +kernel
theorem dX9_film_26 : decode cX9_film 26 = .ok (.ireturn, 1) := by decide +kernel
theorem dX9_film_27 : decode cX9_film 27 = .ok (.aload_n 0, 1) := by decide +kernel
theorem dX9_film_28 : decode cX9_film 28 = .ok (.getfield 70, 3) := by decide +kernel
theorem dX9_film_31 : decode cX9_film 31 = .ok (.iload_n 1, 1) := by decide +kernel
theorem dX9_film_32 : decode cX9_film 32 = .ok (.aaload, 1) := by decide +kernel
theorem dX9_film_33 : decode cX9_film 33 = .ok (.iconst 0, 1) := by decide +kernel
theorem dX9_film_34 : decode cX9_film 34 = .ok (.iload_n 3, 1) := by decide +kernel
theorem dX9_film_35 : decode cX9_film 35 = .ok (.invokevirtual 305, 3) := by decide +kernel
theorem dX9_film_38 : decode cX9_film 38 = .ok (.aload_n 0, 1) := by decide +kernel
theorem dX9_film_39 : decode cX9_film 39 = .ok (.getfield 16, 3) := by decide +kernel
theorem dX9_film_42 : decode cX9_film 42 = .ok (.aload_n 0, 1) := by decide +kernel
theorem dX9_film_43 : decode cX9_film 43 = .ok (.getfield 10, 3) := by decide +kernel
theorem dX9_film_46 : decode cX9_film 46 = .ok (.invokevirtual 177, 3) := by decide +kernel
theorem dX9_film_49 : decode cX9_film 49 = .ok (.iconst 0, 1) := by decide +kernel
theorem dX9_film_50 : decode cX9_film 50 = .ok (.istore 4, 2) := by decide +kernel
theorem dX9_film_52 : decode cX9_film 52 = .ok (.iload 4, 2) := by decide +kernel
theorem dX9_film_54 : decode cX9_film 54 = .ok (.iload_n 3, 1) := by decide +kernel
theorem dX9_film_55 : decode cX9_film 55 = .ok (.if_icmp .ge 36, 3) := by decide +kernel
theorem dX9_film_58 : decode cX9_film 58 = .ok (.aload_n 0, 1) := by decide +kernel
theorem dX9_film_59 : decode cX9_film 59 = .ok (.getfield 16, 3) := by decide +kernel
theorem dX9_film_62 : decode cX9_film 62 = .ok (.invokevirtual 188, 3) := by decide +kernel
theorem dX9_film_65 : decode cX9_film 65 = .ok (.aload_n 0, 1) := by decide +kernel
theorem dX9_film_66 : decode cX9_film 66 = .ok (.getfield 70, 3) := by decide +kernel
theorem dX9_film_69 : decode cX9_film 69 = .ok (.iload_n 1, 1) := by decide +kernel
theorem dX9_film_70 : decode cX9_film 70 = .ok (.aaload, 1) := by decide +kernel
theorem dX9_film_71 : decode cX9_film 71 = .ok (.iload 4, 2) := by decide +kernel
theorem dX9_film_73 : decode cX9_film 73 = .ok (.aload_n 0, 1) := by decide +kernel
theorem dX9_film_74 : decode cX9_film 74 = .ok (.getfield 16, 3) := by decide +kernel
theorem dX9_film_77 : decode cX9_film 77 = .ok (.getfield 82, 3) := by decide +kernel
theorem dX9_film_80 : decode cX9_film 80 = .ok (.iload_n 2, 1) := by decide +kernel
theorem dX9_film_81 : decode cX9_film 81 = .ok (.iaload, 1) := by decide +kernel
theorem dX9_film_82 : decode cX9_film 82 = .ok (.invokevirtual 309, 3) := by decide +kernel
theorem dX9_film_85 : decode cX9_film 85 = .ok (.iinc 4 1, 3) := by decide +kernel
theorem dX9_film_88 : decode cX9_film 88 = .ok (.goto (-36), 3) := by decide +kernel
theorem dX9_film_91 : decode cX9_film 91 = .ok (.iload_n 3, 1) := by decide +kernel
theorem dX9_film_92 : decode cX9_film 92 = .ok (.ireturn, 1) := by decide +kernel
theorem dX9_drawn_0 : decode cX9_drawn 0 = .ok (.iload_n 2, 1) := by decide +kernel
theorem dX9_drawn_1 : decode cX9_drawn 1 = .ok (.iconst 0, 1) := by decide +kernel
theorem dX9_drawn_2 : decode cX9_drawn 2 = .ok (.bipush 40, 2) := by decide +kernel
theorem dX9_drawn_4 : decode cX9_drawn 4 = .ok (.invokestatic 108, 3) := by decide +kernel
theorem dX9_drawn_7 : decode cX9_drawn 7 = .ok (.ifCond .eq 12, 3) := by decide +kernel
theorem dX9_drawn_10 : decode cX9_drawn 10 = .ok (.iload_n 3, 1) := by decide +kernel
theorem dX9_drawn_11 : decode cX9_drawn 11 = .ok (.iconst 0, 1) := by decide +kernel
theorem dX9_drawn_12 : decode cX9_drawn 12 = .ok (.iconst 3, 1) := by decide +kernel
theorem dX9_drawn_13 : decode cX9_drawn 13 = .ok (.invokestatic 108, 3) := by decide +kernel
theorem dX9_drawn_16 : decode cX9_drawn 16 = .ok (.ifCond .ne 6, 3) := by decide +kernel
theorem dX9_drawn_19 : decode cX9_drawn 19 = .ok (.bipush (-2), 2) := by decide +kernel
theorem dX9_drawn_21 : decode cX9_drawn 21 = .ok (.ireturn, 1) := by decide +kernel
theorem dX9_drawn_22 : decode cX9_drawn 22 = .ok (.aload_n 0, 1) := by decide +kernel
theorem dX9_drawn_23 : decode cX9_drawn 23 = .ok (.getfield 16, 3) := by decide +kernel
theorem dX9_drawn_26 : decode cX9_drawn 26 = .ok (.aload_n 0, 1) := by decide +kernel
theorem dX9_drawn_27 : decode cX9_drawn 27 = .ok (.getfield 10, 3) := by decide +kernel
theorem dX9_drawn_30 : decode cX9_drawn 30 = .ok (.invokevirtual 177, 3) := by decide +kernel
theorem dX9_drawn_33 : decode cX9_drawn 33 = .ok (.iload_n 1, 1) := by decide +kernel
theorem dX9_drawn_34 : decode cX9_drawn 34 = .ok (.istore 4, 2) := by decide +kernel
theorem dX9_drawn_36 : decode cX9_drawn 36 = .ok (.iconst 0, 1) := by decide +kernel
theorem dX9_drawn_37 : decode cX9_drawn 37 = .ok (.istore 5, 2) := by decide +kernel
theorem dX9_drawn_39 : decode cX9_drawn 39 = .ok (.iload 5, 2) := by decide +kernel
theorem dX9_drawn_41 : decode cX9_drawn 41 = .ok (.iload_n 2, 1) := by decide +kernel
theorem dX9_drawn_42 : decode cX9_drawn 42 = .ok (.if_icmp .ge 51, 3) := by decide +kernel
theorem dX9_drawn_45 : decode cX9_drawn 45 = .ok (.iload 4, 2) := by decide +kernel
theorem dX9_drawn_47 : decode cX9_drawn 47 = .ok (.ldc_w 312, 3) := by decide +kernel
theorem dX9_drawn_50 : decode cX9_drawn 50 = .ok (.imul, 1) := by decide +kernel
theorem dX9_drawn_51 : decode cX9_drawn 51 = .ok (.sipush 12345, 3) := by decide +kernel
theorem dX9_drawn_54 : decode cX9_drawn 54 = .ok (.iadd, 1) := by decide +kernel
theorem dX9_drawn_55 : decode cX9_drawn 55 = .ok (.istore 4, 2) := by decide +kernel
theorem dX9_drawn_57 : decode cX9_drawn 57 = .ok (.aload_n 0, 1) := by decide +kernel
theorem dX9_drawn_58 : decode cX9_drawn 58 = .ok (.getfield 16, 3) := by decide +kernel
theorem dX9_drawn_61 : decode cX9_drawn 61 = .ok (.getfield 89, 3) := by decide +kernel
theorem dX9_drawn_64 : decode cX9_drawn 64 = .ok (.iload 4, 2) := by decide +kernel
theorem dX9_drawn_66 : decode cX9_drawn 66 = .ok (.bipush 9, 2) := by decide +kernel
theorem dX9_drawn_68 : decode cX9_drawn 68 = .ok (.iushr, 1) := by decide +kernel
theorem dX9_drawn_69 : decode cX9_drawn 69 = .ok (.iconst 3, 1) := by decide +kernel
theorem dX9_drawn_70 : decode cX9_drawn 70 = .ok (.irem, 1) := by decide +kernel
theorem dX9_drawn_71 : decode cX9_drawn 71 = .ok (.iload 4, 2) := by decide +kernel
theorem dX9_drawn_73 : decode cX9_drawn 73 = .ok (.bipush 20, 2) := by decide +kernel
theorem dX9_drawn_75 : decode cX9_drawn 75 = .ok (.iushr, 1) := by decide +kernel
theorem dX9_drawn_76 : decode cX9_drawn 76 = .ok (.iconst 4, 1) := by decide +kernel
theorem dX9_drawn_77 : decode cX9_drawn 77 = .ok (.irem, 1) := by decide +kernel
theorem dX9_drawn_78 : decode cX9_drawn 78 = .ok (.iastore, 1) := by decide +kernel
theorem dX9_drawn_79 : decode cX9_drawn 79 = .ok (.aload_n 0, 1) := by decide +kernel
theorem dX9_drawn_80 : decode cX9_drawn 80 = .ok (.getfield 16, 3) := by decide +kernel
theorem dX9_drawn_83 : decode cX9_drawn 83 = .ok (.invokevirtual 173, 3) := by decide +kernel
theorem dX9_drawn_86 : decode cX9_drawn 86 = .ok (.pop, 1) := by decide +kernel
theorem dX9_drawn_87 : decode cX9_drawn 87 = .ok (.iinc 5 1, 3) := by decide +kernel
theorem dX9_drawn_90 : decode cX9_drawn 90 = .ok (.goto (-51), 3) := by decide +kernel
theorem dX9_drawn_93 : decode cX9_drawn 93 = .ok (.iload_n 3, 1) := by decide +kernel
theorem dX9_drawn_94 : decode cX9_drawn 94 = .ok (.tableswitch 58 0 2 #[26, 42, 50], 26) := by decide +kernel
theorem dX9_drawn_120 : decode cX9_drawn 120 = .ok (.aload_n 0, 1) := by decide +kernel
theorem dX9_drawn_121 : decode cX9_drawn 121 = .ok (.getfield 16, 3) := by decide +kernel
theorem dX9_drawn_124 : decode cX9_drawn 124 = .ok (.getfield 252, 3) := by decide +kernel
theorem dX9_drawn_127 : decode cX9_drawn 127 = .ok (.aload_n 0, 1) := by decide +kernel
theorem dX9_drawn_128 : decode cX9_drawn 128 = .ok (.getfield 10, 3) := by decide +kernel
theorem dX9_drawn_131 : decode cX9_drawn 131 = .ok (.getfield 252, 3) := by decide +kernel
theorem dX9_drawn_134 : decode cX9_drawn 134 = .ok (.isub, 1) := by decide +kernel
theorem dX9_drawn_135 : decode cX9_drawn 135 = .ok (.ireturn, 1) := by decide +kernel
theorem dX9_drawn_136 : decode cX9_drawn 136 = .ok (.aload_n 0, 1) := by decide +kernel
theorem dX9_drawn_137 : decode cX9_drawn 137 = .ok (.getfield 16, 3) := by decide +kernel
theorem dX9_drawn_140 : decode cX9_drawn 140 = .ok (.invokevirtual 181, 3) := by decide +kernel
theorem dX9_drawn_143 : decode cX9_drawn 143 = .ok (.ireturn, 1) := by decide +kernel
theorem dX9_drawn_144 : decode cX9_drawn 144 = .ok (.aload_n 0, 1) := by decide +kernel
theorem dX9_drawn_145 : decode cX9_drawn 145 = .ok (.getfield 16, 3) := by decide +kernel
theorem dX9_drawn_148 : decode cX9_drawn 148 = .ok (.invokevirtual 261, 3) := by decide +kernel
theorem dX9_drawn_151 : decode cX9_drawn 151 = .ok (.ireturn, 1) := by decide +kernel
theorem dX9_drawn_152 : decode cX9_drawn 152 = .ok (.aload_n 0, 1) := by decide +kernel
theorem dX9_drawn_153 : decode cX9_drawn 153 = .ok (.getfield 16, 3) := by decide +kernel
theorem dX9_drawn_156 : decode cX9_drawn 156 = .ok (.invokevirtual 195, 3) := by decide +kernel
theorem dX9_drawn_159 : decode cX9_drawn 159 = .ok (.ireturn, 1) := by decide +kernel
theorem dX9_image_0 : decode cX9_image 0 = .ok (.aload_n 0, 1) := by decide +kernel
theorem dX9_image_1 : decode cX9_image 1 = .ok (.getfield 19, 3) := by decide +kernel
theorem dX9_image_4 : decode cX9_image 4 = .ok (.aload_n 0, 1) := by decide +kernel
theorem dX9_image_5 : decode cX9_image 5 = .ok (.getfield 10, 3) := by decide +kernel
theorem dX9_image_8 : decode cX9_image 8 = .ok (.invokevirtual 177, 3) := by decide +kernel
theorem dX9_image_11 : decode cX9_image 11 = .ok (.iconst 0, 1) := by decide +kernel
theorem dX9_image_12 : decode cX9_image 12 = .ok (.istore_n 1, 1) := by decide +kernel
theorem dX9_image_13 : decode cX9_image 13 = .ok (.iload_n 1, 1) := by decide +kernel
theorem dX9_image_14 : decode cX9_image 14 = .ok (.iconst 4, 1) := by decide +kernel
theorem dX9_image_15 : decode cX9_image 15 = .ok (.if_icmp .ge 24, 3) := by decide +kernel
theorem dX9_image_18 : decode cX9_image 18 = .ok (.aload_n 0, 1) := by decide +kernel
theorem dX9_image_19 : decode cX9_image 19 = .ok (.getfield 28, 3) := by decide +kernel
theorem dX9_image_22 : decode cX9_image 22 = .ok (.iload_n 1, 1) := by decide +kernel
theorem dX9_image_23 : decode cX9_image 23 = .ok (.aaload, 1) := by decide +kernel
theorem dX9_image_24 : decode cX9_image 24 = .ok (.aload_n 0, 1) := by decide +kernel
theorem dX9_image_25 : decode cX9_image 25 = .ok (.getfield 24, 3) := by decide +kernel
theorem dX9_image_28 : decode cX9_image 28 = .ok (.iload_n 1, 1) := by decide +kernel
theorem dX9_image_29 : decode cX9_image 29 = .ok (.aaload, 1) := by decide +kernel
theorem dX9_image_30 : decode cX9_image 30 = .ok (.invokevirtual 213, 3) := by decide +kernel
theorem dX9_image_33 : decode cX9_image 33 = .ok (.iinc 1 1, 3) := by decide +kernel
theorem dX9_image_36 : decode cX9_image 36 = .ok (.goto (-23), 3) := by decide +kernel
theorem dX9_image_39 : decode cX9_image 39 = .ok (.aload_n 0, 1) := by decide +kernel
theorem dX9_image_40 : decode cX9_image 40 = .ok (.iconst 1, 1) := by decide +kernel
theorem dX9_image_41 : decode cX9_image 41 = .ok (.putfield 31, 3) := by decide +kernel
theorem dX9_image_44 : decode cX9_image 44 = .ok (.aload_n 0, 1) := by decide +kernel
theorem dX9_image_45 : decode cX9_image 45 = .ok (.getfield 10, 3) := by decide +kernel
theorem dX9_image_48 : decode cX9_image 48 = .ok (.getfield 164, 3) := by decide +kernel
theorem dX9_image_51 : decode cX9_image 51 = .ok (.ireturn, 1) := by decide +kernel
theorem dX9_back_0 : decode cX9_back 0 = .ok (.aload_n 0, 1) := by decide +kernel
theorem dX9_back_1 : decode cX9_back 1 = .ok (.getfield 31, 3) := by decide +kernel
theorem dX9_back_4 : decode cX9_back 4 = .ok (.ifCond .ne 6, 3) := by decide +kernel
theorem dX9_back_7 : decode cX9_back 7 = .ok (.bipush (-3), 2) := by decide +kernel
theorem dX9_back_9 : decode cX9_back 9 = .ok (.ireturn, 1) := by decide +kernel
theorem dX9_back_10 : decode cX9_back 10 = .ok (.aload_n 0, 1) := by decide +kernel
theorem dX9_back_11 : decode cX9_back 11 = .ok (.getfield 10, 3) := by decide +kernel
theorem dX9_back_14 : decode cX9_back 14 = .ok (.aload_n 0, 1) := by decide +kernel
theorem dX9_back_15 : decode cX9_back 15 = .ok (.getfield 19, 3) := by decide +kernel
theorem dX9_back_18 : decode cX9_back 18 = .ok (.invokevirtual 177, 3) := by decide +kernel
theorem dX9_back_21 : decode cX9_back 21 = .ok (.iconst 0, 1) := by decide +kernel
theorem dX9_back_22 : decode cX9_back 22 = .ok (.istore_n 1, 1) := by decide +kernel
theorem dX9_back_23 : decode cX9_back 23 = .ok (.iload_n 1, 1) := by decide +kernel
theorem dX9_back_24 : decode cX9_back 24 = .ok (.iconst 4, 1) := by decide +kernel
theorem dX9_back_25 : decode cX9_back 25 = .ok (.if_icmp .ge 24, 3) := by decide +kernel
theorem dX9_back_28 : decode cX9_back 28 = .ok (.aload_n 0, 1) := by decide +kernel
theorem dX9_back_29 : decode cX9_back 29 = .ok (.getfield 24, 3) := by decide +kernel
theorem dX9_back_32 : decode cX9_back 32 = .ok (.iload_n 1, 1) := by decide +kernel
theorem dX9_back_33 : decode cX9_back 33 = .ok (.aaload, 1) := by decide +kernel
theorem dX9_back_34 : decode cX9_back 34 = .ok (.aload_n 0, 1) := by decide +kernel
theorem dX9_back_35 : decode cX9_back 35 = .ok (.getfield 28, 3) := by decide +kernel
theorem dX9_back_38 : decode cX9_back 38 = .ok (.iload_n 1, 1) := by decide +kernel
theorem dX9_back_39 : decode cX9_back 39 = .ok (.aaload, 1) := by decide +kernel
theorem dX9_back_40 : decode cX9_back 40 = .ok (.invokevirtual 213, 3) := by decide +kernel
theorem dX9_back_43 : decode cX9_back 43 = .ok (.iinc 1 1, 3) := by decide +kernel
theorem dX9_back_46 : decode cX9_back 46 = .ok (.goto (-23), 3) := by decide +kernel
theorem dX9_back_49 : decode cX9_back 49 = .ok (.aload_n 0, 1) := by decide +kernel
theorem dX9_back_50 : decode cX9_back 50 = .ok (.getfield 10, 3) := by decide +kernel
theorem dX9_back_53 : decode cX9_back 53 = .ok (.getfield 164, 3) := by decide +kernel
theorem dX9_back_56 : decode cX9_back 56 = .ok (.ireturn, 1) := by decide +kernel
theorem dX9_loads_0 : decode cX9_loads 0 = .ok (.iload_n 1, 1) := by decide +kernel
theorem dX9_loads_1 : decode cX9_loads 1 = .ok (.invokestatic 294, 3) := by decide +kernel
theorem dX9_loads_4 : decode cX9_loads 4 = .ok (.ifCond .eq 21, 3) := by decide +kernel
theorem dX9_loads_7 : decode cX9_loads 7 = .ok (.iload_n 2, 1) := by decide +kernel
theorem dX9_loads_8 : decode cX9_loads 8 = .ok (.invokestatic 313, 3) := by decide +kernel
theorem dX9_loads_11 : decode cX9_loads 11 = .ok (.ifCond .eq 14, 3) := by decide +kernel
theorem dX9_loads_14 : decode cX9_loads 14 = .ok (.iload 4, 2) := by decide +kernel
theorem dX9_loads_16 : decode cX9_loads 16 = .ok (.iconst 0, 1) := by decide +kernel
theorem dX9_loads_17 : decode cX9_loads 17 = .ok (.bipush 8, 2) := by decide +kernel
theorem dX9_loads_19 : decode cX9_loads 19 = .ok (.invokestatic 108, 3) := by decide +kernel
theorem dX9_loads_22 : decode cX9_loads 22 = .ok (.ifCond .ne 6, 3) := by decide +kernel
theorem dX9_loads_25 : decode cX9_loads 25 = .ok (.bipush (-2), 2) := by decide +kernel
theorem dX9_loads_27 : decode cX9_loads 27 = .ok (.ireturn, 1) := by decide +kernel
theorem dX9_loads_28 : decode cX9_loads 28 = .ok (.aload_n 0, 1) := by decide +kernel
theorem dX9_loads_29 : decode cX9_loads 29 = .ok (.getfield 70, 3) := by decide +kernel
theorem dX9_loads_32 : decode cX9_loads 32 = .ok (.iload_n 1, 1) := by decide +kernel
theorem dX9_loads_33 : decode cX9_loads 33 = .ok (.aaload, 1) := by decide +kernel
theorem dX9_loads_34 : decode cX9_loads 34 = .ok (.astore 5, 2) := by decide +kernel
theorem dX9_loads_36 : decode cX9_loads 36 = .ok (.aload 5, 2) := by decide +kernel
theorem dX9_loads_38 : decode cX9_loads 38 = .ok (.invokevirtual 297, 3) := by decide +kernel
theorem dX9_loads_41 : decode cX9_loads 41 = .ok (.ifCond .eq 6, 3) := by decide +kernel
theorem dX9_loads_44 : decode cX9_loads 44 = .ok (.bipush (-11), 2) := by decide +kernel
theorem dX9_loads_46 : decode cX9_loads 46 = .ok (.ireturn, 1) := by decide +kernel
theorem dX9_loads_47 : decode cX9_loads 47 = .ok (.aload 5, 2) := by decide +kernel
theorem dX9_loads_49 : decode cX9_loads 49 = .ok (.getfield 316, 3) := by decide +kernel
theorem dX9_loads_52 : decode cX9_loads 52 = .ok (.iload_n 2, 1) := by decide +kernel
theorem dX9_loads_53 : decode cX9_loads 53 = .ok (.if_icmp .eq 6, 3) := by decide +kernel
theorem dX9_loads_56 : decode cX9_loads 56 = .ok (.bipush (-13), 2) := by decide +kernel
theorem dX9_loads_58 : decode cX9_loads 58 = .ok (.ireturn, 1) := by decide +kernel
theorem dX9_loads_59 : decode cX9_loads 59 = .ok (.iconst 0, 1) := by decide +kernel
theorem dX9_loads_60 : decode cX9_loads 60 = .ok (.istore 6, 2) := by decide +kernel
theorem dX9_loads_62 : decode cX9_loads 62 = .ok (.iload_n 3, 1) := by decide +kernel
theorem dX9_loads_63 : decode cX9_loads 63 = .ok (.istore 7, 2) := by decide +kernel
theorem dX9_loads_65 : decode cX9_loads 65 = .ok (.iconst 0, 1) := by decide +kernel
theorem dX9_loads_66 : decode cX9_loads 66 = .ok (.istore 8, 2) := by decide +kernel
theorem dX9_loads_68 : decode cX9_loads 68 = .ok (.iload 8, 2) := by decide +kernel
theorem dX9_loads_70 : decode cX9_loads 70 = .ok (.iload 4, 2) := by decide +kernel
theorem dX9_loads_72 : decode cX9_loads 72 = .ok (.if_icmp .ge 64, 3) := by decide +kernel
theorem dX9_loads_75 : decode cX9_loads 75 = .ok (.aload 5, 2) := by decide +kernel
theorem dX9_loads_77 : decode cX9_loads 77 = .ok (.iload 7, 2) := by decide +kernel
theorem dX9_loads_79 : decode cX9_loads 79 = .ok (.iconst 3, 1) := by decide +kernel
theorem dX9_loads_80 : decode cX9_loads 80 = .ok (.invokevirtual 319, 3) := by decide +kernel
theorem dX9_loads_83 : decode cX9_loads 83 = .ok (.ifCond .ne 6, 3) := by decide +kernel
theorem dX9_loads_86 : decode cX9_loads 86 = .ok (.bipush (-12), 2) := by decide +kernel
theorem dX9_loads_88 : decode cX9_loads 88 = .ok (.ireturn, 1) := by decide +kernel
theorem dX9_loads_89 : decode cX9_loads 89 = .ok (.aload_n 0, 1) := by decide +kernel
theorem dX9_loads_90 : decode cX9_loads 90 = .ok (.aload 5, 2) := by decide +kernel
theorem dX9_loads_92 : decode cX9_loads 92 = .ok (.getfield 322, 3) := by decide +kernel
theorem dX9_loads_95 : decode cX9_loads 95 = .ok (.iload 7, 2) := by decide +kernel
theorem dX9_loads_97 : decode cX9_loads 97 = .ok (.iaload, 1) := by decide +kernel
theorem dX9_loads_98 : decode cX9_loads 98 = .ok (.aload 5, 2) := by decide +kernel
theorem dX9_loads_100 : decode cX9_loads 100 = .ok (.getfield 322, 3) := by decide +kernel
theorem dX9_loads_103 : decode cX9_loads 103 = .ok (.iload 7, 2) := by decide +kernel
theorem dX9_loads_105 : decode cX9_loads 105 = .ok (.iconst 1, 1) := by decide +kernel
theorem dX9_loads_106 : decode cX9_loads 106 = .ok (.iadd, 1) := by decide +kernel
theorem dX9_loads_107 : decode cX9_loads 107 = .ok (.iaload, 1) := by decide +kernel
theorem dX9_loads_108 : decode cX9_loads 108 = .ok (.aload 5, 2) := by decide +kernel
theorem dX9_loads_110 : decode cX9_loads 110 = .ok (.getfield 322, 3) := by decide +kernel
theorem dX9_loads_113 : decode cX9_loads 113 = .ok (.iload 7, 2) := by decide +kernel
theorem dX9_loads_115 : decode cX9_loads 115 = .ok (.iconst 2, 1) := by decide +kernel
theorem dX9_loads_116 : decode cX9_loads 116 = .ok (.iadd, 1) := by decide +kernel
theorem dX9_loads_117 : decode cX9_loads 117 = .ok (.iaload, 1) := by decide +kernel
theorem dX9_loads_118 : decode cX9_loads 118 = .ok (.invokevirtual 325, 3) := by decide +kernel
theorem dX9_loads_121 : decode cX9_loads 121 = .ok (.ifCond .lt 6, 3) := by decide +kernel
theorem dX9_loads_124 : decode cX9_loads 124 = .ok (.iinc 6 1, 3) := by decide +kernel
theorem dX9_loads_127 : decode cX9_loads 127 = .ok (.iinc 7 3, 3) := by decide +kernel
theorem dX9_loads_130 : decode cX9_loads 130 = .ok (.iinc 8 1, 3) := by decide +kernel
theorem dX9_loads_133 : decode cX9_loads 133 = .ok (.goto (-65), 3) := by decide +kernel
theorem dX9_loads_136 : decode cX9_loads 136 = .ok (.iload 6, 2) := by decide +kernel
theorem dX9_loads_138 : decode cX9_loads 138 = .ok (.ireturn, 1) := by decide +kernel
theorem dX9_count_0 : decode cX9_count 0 = .ok (.iload_n 1, 1) := by decide +kernel
theorem dX9_count_1 : decode cX9_count 1 = .ok (.tableswitch 96 0 6 #[43, 51, 59, 67, 75, 83, 91], 43) := by decide +kernel
theorem dX9_count_44 : decode cX9_count 44 = .ok (.aload_n 0, 1) := by decide +kernel
theorem dX9_count_45 : decode cX9_count 45 = .ok (.getfield 10, 3) := by decide +kernel
theorem dX9_count_48 : decode cX9_count 48 = .ok (.getfield 164, 3) := by decide +kernel
theorem dX9_count_51 : decode cX9_count 51 = .ok (.ireturn, 1) := by decide +kernel
theorem dX9_count_52 : decode cX9_count 52 = .ok (.aload_n 0, 1) := by decide +kernel
theorem dX9_count_53 : decode cX9_count 53 = .ok (.getfield 10, 3) := by decide +kernel
theorem dX9_count_56 : decode cX9_count 56 = .ok (.getfield 252, 3) := by decide +kernel
theorem dX9_count_59 : decode cX9_count 59 = .ok (.ireturn, 1) := by decide +kernel
theorem dX9_count_60 : decode cX9_count 60 = .ok (.aload_n 0, 1) := by decide +kernel
theorem dX9_count_61 : decode cX9_count 61 = .ok (.getfield 10, 3) := by decide +kernel
theorem dX9_count_64 : decode cX9_count 64 = .ok (.getfield 170, 3) := by decide +kernel
theorem dX9_count_67 : decode cX9_count 67 = .ok (.ireturn, 1) := by decide +kernel
theorem dX9_count_68 : decode cX9_count 68 = .ok (.aload_n 0, 1) := by decide +kernel
theorem dX9_count_69 : decode cX9_count 69 = .ok (.getfield 38, 3) := by decide +kernel
theorem dX9_count_72 : decode cX9_count 72 = .ok (.getfield 202, 3) := by decide +kernel
theorem dX9_count_75 : decode cX9_count 75 = .ok (.ireturn, 1) := by decide +kernel
theorem dX9_count_76 : decode cX9_count 76 = .ok (.aload_n 0, 1) := by decide +kernel
theorem dX9_count_77 : decode cX9_count 77 = .ok (.getfield 10, 3) := by decide +kernel
theorem dX9_count_80 : decode cX9_count 80 = .ok (.invokevirtual 181, 3) := by decide +kernel
theorem dX9_count_83 : decode cX9_count 83 = .ok (.ireturn, 1) := by decide +kernel
theorem dX9_count_84 : decode cX9_count 84 = .ok (.aload_n 0, 1) := by decide +kernel
theorem dX9_count_85 : decode cX9_count 85 = .ok (.getfield 10, 3) := by decide +kernel
theorem dX9_count_88 : decode cX9_count 88 = .ok (.invokevirtual 261, 3) := by decide +kernel
theorem dX9_count_91 : decode cX9_count 91 = .ok (.ireturn, 1) := by decide +kernel
theorem dX9_count_92 : decode cX9_count 92 = .ok (.aload_n 0, 1) := by decide +kernel
theorem dX9_count_93 : decode cX9_count 93 = .ok (.invokevirtual 328, 3) := by decide +kernel
theorem dX9_count_96 : decode cX9_count 96 = .ok (.ireturn, 1) := by decide +kernel
theorem dX9_count_97 : decode cX9_count 97 = .ok (.bipush (-2), 2) := by decide +kernel
theorem dX9_count_99 : decode cX9_count 99 = .ok (.ireturn, 1) := by decide +kernel
theorem dX9_sheet_0 : decode cX9_sheet 0 = .ok (.iload_n 1, 1) := by decide +kernel
theorem dX9_sheet_1 : decode cX9_sheet 1 = .ok (.invokestatic 294, 3) := by decide +kernel
theorem dX9_sheet_4 : decode cX9_sheet 4 = .ok (.ifCond .eq 15, 3) := by decide +kernel
theorem dX9_sheet_7 : decode cX9_sheet 7 = .ok (.iload_n 2, 1) := by decide +kernel
theorem dX9_sheet_8 : decode cX9_sheet 8 = .ok (.iconst (-1), 1) := by decide +kernel
theorem dX9_sheet_9 : decode cX9_sheet 9 = .ok (.if_icmp .eq 13, 3) := by decide +kernel
theorem dX9_sheet_12 : decode cX9_sheet 12 = .ok (.iload_n 2, 1) := by decide +kernel
theorem dX9_sheet_13 : decode cX9_sheet 13 = .ok (.invokestatic 313, 3) := by decide +kernel
theorem dX9_sheet_16 : decode cX9_sheet 16 = .ok (.ifCond .ne 6, 3) := by decide +kernel
theorem dX9_sheet_19 : decode cX9_sheet 19 = .ok (.bipush (-2), 2) := by decide +kernel
theorem dX9_sheet_21 : decode cX9_sheet 21 = .ok (.ireturn, 1) := by decide +kernel
theorem dX9_sheet_22 : decode cX9_sheet 22 = .ok (.iload_n 2, 1) := by decide +kernel
theorem dX9_sheet_23 : decode cX9_sheet 23 = .ok (.iconst (-1), 1) := by decide +kernel
theorem dX9_sheet_24 : decode cX9_sheet 24 = .ok (.if_icmp .ne 16, 3) := by decide +kernel
theorem dX9_sheet_27 : decode cX9_sheet 27 = .ok (.aload_n 0, 1) := by decide +kernel
theorem dX9_sheet_28 : decode cX9_sheet 28 = .ok (.getfield 70, 3) := by decide +kernel
theorem dX9_sheet_31 : decode cX9_sheet 31 = .ok (.iload_n 1, 1) := by decide +kernel
theorem dX9_sheet_32 : decode cX9_sheet 32 = .ok (.aaload, 1) := by decide +kernel
theorem dX9_sheet_33 : decode cX9_sheet 33 = .ok (.iconst (-1), 1) := by decide +kernel
theorem dX9_sheet_34 : decode cX9_sheet 34 = .ok (.iconst 0, 1) := by decide +kernel
theorem dX9_sheet_35 : decode cX9_sheet 35 = .ok (.invokevirtual 305, 3) := by decide +kernel
theorem dX9_sheet_38 : decode cX9_sheet 38 = .ok (.iconst 1, 1) := by decide +kernel
theorem dX9_sheet_39 : decode cX9_sheet 39 = .ok (.ireturn, 1) := by decide +kernel
theorem dX9_sheet_40 : decode cX9_sheet 40 = .ok (.iload_n 3, 1) := by decide +kernel
theorem dX9_sheet_41 : decode cX9_sheet 41 = .ok (.bipush 40, 2) := by decide +kernel
theorem dX9_sheet_43 : decode cX9_sheet 43 = .ok (.if_icmp .le 6, 3) := by decide +kernel
theorem dX9_sheet_46 : decode cX9_sheet 46 = .ok (.bipush (-2), 2) := by decide +kernel
theorem dX9_sheet_48 : decode cX9_sheet 48 = .ok (.ireturn, 1) := by decide +kernel
theorem dX9_sheet_49 : decode cX9_sheet 49 = .ok (.iload_n 3, 1) := by decide +kernel
theorem dX9_sheet_50 : decode cX9_sheet 50 = .ok (.ifCond .ge 6, 3) := by decide +kernel
theorem dX9_sheet_53 : decode cX9_sheet 53 = .ok (.bipush (-14), 2) := by decide +kernel
theorem dX9_sheet_55 : decode cX9_sheet 55 = .ok (.ireturn, 1) := by decide +kernel
theorem dX9_sheet_56 : decode cX9_sheet 56 = .ok (.aload_n 0, 1) := by decide +kernel
theorem dX9_sheet_57 : decode cX9_sheet 57 = .ok (.getfield 70, 3) := by decide +kernel
theorem dX9_sheet_60 : decode cX9_sheet 60 = .ok (.iload_n 1, 1) := by decide +kernel
theorem dX9_sheet_61 : decode cX9_sheet 61 = .ok (.aaload, 1) := by decide +kernel
theorem dX9_sheet_62 : decode cX9_sheet 62 = .ok (.iload_n 2, 1) := by decide +kernel
theorem dX9_sheet_63 : decode cX9_sheet 63 = .ok (.iload_n 3, 1) := by decide +kernel
theorem dX9_sheet_64 : decode cX9_sheet 64 = .ok (.invokevirtual 305, 3) := by decide +kernel
theorem dX9_sheet_67 : decode cX9_sheet 67 = .ok (.iconst 1, 1) := by decide +kernel
theorem dX9_sheet_68 : decode cX9_sheet 68 = .ok (.ireturn, 1) := by decide +kernel
theorem dX9_put_0 : decode cX9_put 0 = .ok (.iload_n 1, 1) := by decide +kernel
theorem dX9_put_1 : decode cX9_put 1 = .ok (.invokestatic 294, 3) := by decide +kernel
theorem dX9_put_4 : decode cX9_put 4 = .ok (.ifCond .ne 6, 3) := by decide +kernel
theorem dX9_put_7 : decode cX9_put 7 = .ok (.bipush (-2), 2) := by decide +kernel
theorem dX9_put_9 : decode cX9_put 9 = .ok (.ireturn, 1) := by decide +kernel
theorem dX9_put_10 : decode cX9_put 10 = .ok (.aload_n 0, 1) := by decide +kernel
theorem dX9_put_11 : decode cX9_put 11 = .ok (.getfield 70, 3) := by decide +kernel
theorem dX9_put_14 : decode cX9_put 14 = .ok (.iload_n 1, 1) := by decide +kernel
theorem dX9_put_15 : decode cX9_put 15 = .ok (.aaload, 1) := by decide +kernel
theorem dX9_put_16 : decode cX9_put 16 = .ok (.invokevirtual 297, 3) := by decide +kernel
theorem dX9_put_19 : decode cX9_put 19 = .ok (.ifCond .eq 6, 3) := by decide +kernel
theorem dX9_put_22 : decode cX9_put 22 = .ok (.bipush (-11), 2) := by decide +kernel
theorem dX9_put_24 : decode cX9_put 24 = .ok (.ireturn, 1) := by decide +kernel
theorem dX9_put_25 : decode cX9_put 25 = .ok (.aload_n 0, 1) := by decide +kernel
theorem dX9_put_26 : decode cX9_put 26 = .ok (.getfield 70, 3) := by decide +kernel
theorem dX9_put_29 : decode cX9_put 29 = .ok (.iload_n 1, 1) := by decide +kernel
theorem dX9_put_30 : decode cX9_put 30 = .ok (.aaload, 1) := by decide +kernel
theorem dX9_put_31 : decode cX9_put 31 = .ok (.iload_n 2, 1) := by decide +kernel
theorem dX9_put_32 : decode cX9_put 32 = .ok (.iconst 1, 1) := by decide +kernel
theorem dX9_put_33 : decode cX9_put 33 = .ok (.invokevirtual 319, 3) := by decide +kernel
theorem dX9_put_36 : decode cX9_put 36 = .ok (.ifCond .ne 6, 3) := by decide +kernel
theorem dX9_put_39 : decode cX9_put 39 = .ok (.bipush (-12), 2) := by decide +kernel
theorem dX9_put_41 : decode cX9_put 41 = .ok (.ireturn, 1) := by decide +kernel
theorem dX9_put_42 : decode cX9_put 42 = .ok (.aload_n 0, 1) := by decide +kernel
theorem dX9_put_43 : decode cX9_put 43 = .ok (.getfield 70, 3) := by decide +kernel
theorem dX9_put_46 : decode cX9_put 46 = .ok (.iload_n 1, 1) := by decide +kernel
theorem dX9_put_47 : decode cX9_put 47 = .ok (.aaload, 1) := by decide +kernel
theorem dX9_put_48 : decode cX9_put 48 = .ok (.iload_n 2, 1) := by decide +kernel
theorem dX9_put_49 : decode cX9_put 49 = .ok (.iload_n 3, 1) := by decide +kernel
theorem dX9_put_50 : decode cX9_put 50 = .ok (.invokevirtual 309, 3) := by decide +kernel
theorem dX9_put_53 : decode cX9_put 53 = .ok (.iconst 1, 1) := by decide +kernel
theorem dX9_put_54 : decode cX9_put 54 = .ok (.ireturn, 1) := by decide +kernel
theorem dX9_copy_0 : decode cX9_copy 0 = .ok (.iload_n 1, 1) := by decide +kernel
theorem dX9_copy_1 : decode cX9_copy 1 = .ok (.invokestatic 294, 3) := by decide +kernel
theorem dX9_copy_4 : decode cX9_copy 4 = .ok (.ifCond .eq 10, 3) := by decide +kernel
theorem dX9_copy_7 : decode cX9_copy 7 = .ok (.iload_n 3, 1) := by decide +kernel
theorem dX9_copy_8 : decode cX9_copy 8 = .ok (.invokestatic 294, 3) := by decide +kernel
theorem dX9_copy_11 : decode cX9_copy 11 = .ok (.ifCond .ne 6, 3) := by decide +kernel
theorem dX9_copy_14 : decode cX9_copy 14 = .ok (.bipush (-2), 2) := by decide +kernel
theorem dX9_copy_16 : decode cX9_copy 16 = .ok (.ireturn, 1) := by decide +kernel
theorem dX9_copy_17 : decode cX9_copy 17 = .ok (.aload_n 0, 1) := by decide +kernel
theorem dX9_copy_18 : decode cX9_copy 18 = .ok (.getfield 70, 3) := by decide +kernel
theorem dX9_copy_21 : decode cX9_copy 21 = .ok (.iload_n 1, 1) := by decide +kernel
theorem dX9_copy_22 : decode cX9_copy 22 = .ok (.aaload, 1) := by decide +kernel
theorem dX9_copy_23 : decode cX9_copy 23 = .ok (.astore 6, 2) := by decide +kernel
theorem dX9_copy_25 : decode cX9_copy 25 = .ok (.aload_n 0, 1) := by decide +kernel
theorem dX9_copy_26 : decode cX9_copy 26 = .ok (.getfield 70, 3) := by decide +kernel
theorem dX9_copy_29 : decode cX9_copy 29 = .ok (.iload_n 3, 1) := by decide +kernel
theorem dX9_copy_30 : decode cX9_copy 30 = .ok (.aaload, 1) := by decide +kernel
theorem dX9_copy_31 : decode cX9_copy 31 = .ok (.astore 7, 2) := by decide +kernel
theorem dX9_copy_33 : decode cX9_copy 33 = .ok (.aload 6, 2) := by decide +kernel
theorem dX9_copy_35 : decode cX9_copy 35 = .ok (.invokevirtual 297, 3) := by decide +kernel
theorem dX9_copy_38 : decode cX9_copy 38 = .ok (.ifCond .ne 11, 3) := by decide +kernel
theorem dX9_copy_41 : decode cX9_copy 41 = .ok (.aload 7, 2) := by decide +kernel
theorem dX9_copy_43 : decode cX9_copy 43 = .ok (.invokevirtual 297, 3) := by decide +kernel
theorem dX9_copy_46 : decode cX9_copy 46 = .ok (.ifCond .eq 6, 3) := by decide +kernel
theorem dX9_copy_49 : decode cX9_copy 49 = .ok (.bipush (-11), 2) := by decide +kernel
theorem dX9_copy_51 : decode cX9_copy 51 = .ok (.ireturn, 1) := by decide +kernel
theorem dX9_copy_52 : decode cX9_copy 52 = .ok (.aload 6, 2) := by decide +kernel
theorem dX9_copy_54 : decode cX9_copy 54 = .ok (.getfield 316, 3) := by decide +kernel
theorem dX9_copy_57 : decode cX9_copy 57 = .ok (.aload 7, 2) := by decide +kernel
theorem dX9_copy_59 : decode cX9_copy 59 = .ok (.getfield 316, 3) := by decide +kernel
theorem dX9_copy_62 : decode cX9_copy 62 = .ok (.if_icmp .eq 6, 3) := by decide +kernel
theorem dX9_copy_65 : decode cX9_copy 65 = .ok (.bipush (-13), 2) := by decide +kernel
theorem dX9_copy_67 : decode cX9_copy 67 = .ok (.ireturn, 1) := by decide +kernel
theorem dX9_copy_68 : decode cX9_copy 68 = .ok (.aload 6, 2) := by decide +kernel
theorem dX9_copy_70 : decode cX9_copy 70 = .ok (.iload_n 2, 1) := by decide +kernel
theorem dX9_copy_71 : decode cX9_copy 71 = .ok (.iload 5, 2) := by decide +kernel
theorem dX9_copy_73 : decode cX9_copy 73 = .ok (.invokevirtual 319, 3) := by decide +kernel
theorem dX9_copy_76 : decode cX9_copy 76 = .ok (.ifCond .eq 15, 3) := by decide +kernel
theorem dX9_copy_79 : decode cX9_copy 79 = .ok (.aload 7, 2) := by decide +kernel
theorem dX9_copy_81 : decode cX9_copy 81 = .ok (.iload 4, 2) := by decide +kernel
theorem dX9_copy_83 : decode cX9_copy 83 = .ok (.iload 5, 2) := by decide +kernel
theorem dX9_copy_85 : decode cX9_copy 85 = .ok (.invokevirtual 319, 3) := by decide +kernel
theorem dX9_copy_88 : decode cX9_copy 88 = .ok (.ifCond .ne 6, 3) := by decide +kernel
theorem dX9_copy_91 : decode cX9_copy 91 = .ok (.bipush (-12), 2) := by decide +kernel
theorem dX9_copy_93 : decode cX9_copy 93 = .ok (.ireturn, 1) := by decide +kernel
theorem dX9_copy_94 : decode cX9_copy 94 = .ok (.aload 6, 2) := by decide +kernel
theorem dX9_copy_96 : decode cX9_copy 96 = .ok (.getfield 322, 3) := by decide +kernel
theorem dX9_copy_99 : decode cX9_copy 99 = .ok (.iload_n 2, 1) := by decide +kernel
theorem dX9_copy_100 : decode cX9_copy 100 = .ok (.aload 7, 2) := by decide +kernel
theorem dX9_copy_102 : decode cX9_copy 102 = .ok (.getfield 322, 3) := by decide +kernel
theorem dX9_copy_105 : decode cX9_copy 105 = .ok (.iload 4, 2) := by decide +kernel
theorem dX9_copy_107 : decode cX9_copy 107 = .ok (.iload 5, 2) := by decide +kernel
theorem dX9_copy_109 : decode cX9_copy 109 = .ok (.invokestatic 331, 3) := by decide +kernel
theorem dX9_copy_112 : decode cX9_copy 112 = .ok (.iload 5, 2) := by decide +kernel
theorem dX9_copy_114 : decode cX9_copy 114 = .ok (.ireturn, 1) := by decide +kernel
theorem dX9_firstOtherwise_0 : decode cX9_firstOtherwise 0 = .ok (.aload_n 0, 1) := by decide +kernel
theorem dX9_firstOtherwise_1 : decode cX9_firstOtherwise 1 = .ok (.getfield 16, 3) := by decide +kernel
theorem dX9_firstOtherwise_4 : decode cX9_firstOtherwise 4 = .ok (.aload_n 0, 1) := by decide +kernel
theorem dX9_firstOtherwise_5 : decode cX9_firstOtherwise 5 = .ok (.getfield 10, 3) := by decide +kernel
theorem dX9_firstOtherwise_8 : decode cX9_firstOtherwise 8 = .ok (.invokevirtual 177, 3) := by decide +kernel
theorem dX9_firstOtherwise_11 : decode cX9_firstOtherwise 11 = .ok (.aload_n 0, 1) := by decide +kernel
theorem dX9_firstOtherwise_12 : decode cX9_firstOtherwise 12 = .ok (.getfield 16, 3) := by decide +kernel
theorem dX9_firstOtherwise_15 : decode cX9_firstOtherwise 15 = .ok (.getfield 89, 3) := by decide +kernel
theorem dX9_firstOtherwise_18 : decode cX9_firstOtherwise 18 = .ok (.iload_n 2, 1) := by decide +kernel
theorem dX9_firstOtherwise_19 : decode cX9_firstOtherwise 19 = .ok (.iload_n 3, 1) := by decide +kernel
theorem dX9_firstOtherwise_20 : decode cX9_firstOtherwise 20 = .ok (.iastore, 1) := by decide +kernel
theorem dX9_firstOtherwise_21 : decode cX9_firstOtherwise 21 = .ok (.iconst 0, 1) := by decide +kernel
theorem dX9_firstOtherwise_22 : decode cX9_firstOtherwise 22 = .ok (.istore 4, 2) := by decide +kernel
theorem dX9_firstOtherwise_24 : decode cX9_firstOtherwise 24 = .ok (.iload 4, 2) := by decide +kernel
theorem dX9_firstOtherwise_26 : decode cX9_firstOtherwise 26 = .ok (.aload_n 1, 1) := by decide +kernel
theorem dX9_firstOtherwise_27 : decode cX9_firstOtherwise 27 = .ok (.getfield 300, 3) := by decide +kernel
theorem dX9_firstOtherwise_30 : decode cX9_firstOtherwise 30 = .ok (.if_icmp .ge 38, 3) := by decide +kernel
theorem dX9_firstOtherwise_33 : decode cX9_firstOtherwise 33 = .ok (.aload_n 0, 1) := by decide +kernel
theorem dX9_firstOtherwise_34 : decode cX9_firstOtherwise 34 = .ok (.getfield 16, 3) := by decide +kernel
theorem dX9_firstOtherwise_37 : decode cX9_firstOtherwise 37 = .ok (.invokevirtual 188, 3) := by decide +kernel
theorem dX9_firstOtherwise_40 : decode cX9_firstOtherwise 40 = .ok (.aload_n 0, 1) := by decide +kernel
theorem dX9_firstOtherwise_41 : decode cX9_firstOtherwise 41 = .ok (.getfield 16, 3) := by decide +kernel
theorem dX9_firstOtherwise_44 : decode cX9_firstOtherwise 44 = .ok (.getfield 82, 3) := by decide +kernel
theorem dX9_firstOtherwise_47 : decode cX9_firstOtherwise 47 = .ok (.iload_n 2, 1) := by decide +kernel
theorem dX9_firstOtherwise_48 : decode cX9_firstOtherwise 48 = .ok (.iaload, 1) := by decide +kernel
theorem dX9_firstOtherwise_49 : decode cX9_firstOtherwise 49 = .ok (.aload_n 1, 1) := by decide +kernel
theorem dX9_firstOtherwise_50 : decode cX9_firstOtherwise 50 = .ok (.getfield 322, 3) := by decide +kernel
theorem dX9_firstOtherwise_53 : decode cX9_firstOtherwise 53 = .ok (.iload 4, 2) := by decide +kernel
theorem dX9_firstOtherwise_55 : decode cX9_firstOtherwise 55 = .ok (.iaload, 1) := by decide +kernel
theorem dX9_firstOtherwise_56 : decode cX9_firstOtherwise 56 = .ok (.if_icmp .eq 6, 3) := by decide +kernel
theorem dX9_firstOtherwise_59 : decode cX9_firstOtherwise 59 = .ok (.iload 4, 2) := by decide +kernel
theorem dX9_firstOtherwise_61 : decode cX9_firstOtherwise 61 = .ok (.ireturn, 1) := by decide +kernel
theorem dX9_firstOtherwise_62 : decode cX9_firstOtherwise 62 = .ok (.iinc 4 1, 3) := by decide +kernel
theorem dX9_firstOtherwise_65 : decode cX9_firstOtherwise 65 = .ok (.goto (-41), 3) := by decide +kernel
theorem dX9_firstOtherwise_68 : decode cX9_firstOtherwise 68 = .ok (.iconst (-1), 1) := by decide +kernel
theorem dX9_firstOtherwise_69 : decode cX9_firstOtherwise 69 = .ok (.ireturn, 1) := by decide +kernel
theorem dX9_bitsOfCourses_0 : decode cX9_bitsOfCourses 0 = .ok (.iconst 0, 1) := by decide +kernel
theorem dX9_bitsOfCourses_1 : decode cX9_bitsOfCourses 1 = .ok (.istore_n 1, 1) := by decide +kernel
theorem dX9_bitsOfCourses_2 : decode cX9_bitsOfCourses 2 = .ok (.iconst 0, 1) := by decide +kernel
theorem dX9_bitsOfCourses_3 : decode cX9_bitsOfCourses 3 = .ok (.istore_n 2, 1) := by decide +kernel
theorem dX9_bitsOfCourses_4 : decode cX9_bitsOfCourses 4 = .ok (.iload_n 2, 1) := by decide +kernel
theorem dX9_bitsOfCourses_5 : decode cX9_bitsOfCourses 5 = .ok (.iconst 4, 1) := by decide +kernel
theorem dX9_bitsOfCourses_6 : decode cX9_bitsOfCourses 6 = .ok (.if_icmp .ge 27, 3) := by decide +kernel
theorem dX9_bitsOfCourses_9 : decode cX9_bitsOfCourses 9 = .ok (.aload_n 0, 1) := by decide +kernel
theorem dX9_bitsOfCourses_10 : decode cX9_bitsOfCourses 10 = .ok (.getfield 24, 3) := by decide +kernel
theorem dX9_bitsOfCourses_13 : decode cX9_bitsOfCourses 13 = .ok (.iload_n 2, 1) := by decide +kernel
theorem dX9_bitsOfCourses_14 : decode cX9_bitsOfCourses 14 = .ok (.aaload, 1) := by decide +kernel
theorem dX9_bitsOfCourses_15 : decode cX9_bitsOfCourses 15 = .ok (.invokevirtual 219, 3) := by decide +kernel
theorem dX9_bitsOfCourses_18 : decode cX9_bitsOfCourses 18 = .ok (.ifCond .ne 9, 3) := by decide +kernel
theorem dX9_bitsOfCourses_21 : decode cX9_bitsOfCourses 21 = .ok (.iload_n 1, 1) := by decide +kernel
theorem dX9_bitsOfCourses_22 : decode cX9_bitsOfCourses 22 = .ok (.iconst 1, 1) := by decide +kernel
theorem dX9_bitsOfCourses_23 : decode cX9_bitsOfCourses 23 = .ok (.iload_n 2, 1) := by decide +kernel
theorem dX9_bitsOfCourses_24 : decode cX9_bitsOfCourses 24 = .ok (.ishl, 1) := by decide +kernel
theorem dX9_bitsOfCourses_25 : decode cX9_bitsOfCourses 25 = .ok (.ior, 1) := by decide +kernel
theorem dX9_bitsOfCourses_26 : decode cX9_bitsOfCourses 26 = .ok (.istore_n 1, 1) := by decide +kernel
theorem dX9_bitsOfCourses_27 : decode cX9_bitsOfCourses 27 = .ok (.iinc 2 1, 3) := by decide +kernel
theorem dX9_bitsOfCourses_30 : decode cX9_bitsOfCourses 30 = .ok (.goto (-26), 3) := by decide +kernel
theorem dX9_bitsOfCourses_33 : decode cX9_bitsOfCourses 33 = .ok (.iload_n 1, 1) := by decide +kernel
theorem dX9_bitsOfCourses_34 : decode cX9_bitsOfCourses 34 = .ok (.ireturn, 1) := by decide +kernel
theorem dX9_isLoad_0 : decode cX9_isLoad 0 = .ok (.iload_n 1, 1) := by decide +kernel
theorem dX9_isLoad_1 : decode cX9_isLoad 1 = .ok (.iconst 0, 1) := by decide +kernel
theorem dX9_isLoad_2 : decode cX9_isLoad 2 = .ok (.aload_n 0, 1) := by decide +kernel
theorem dX9_isLoad_3 : decode cX9_isLoad 3 = .ok (.getfield 10, 3) := by decide +kernel
theorem dX9_isLoad_6 : decode cX9_isLoad 6 = .ok (.getfield 164, 3) := by decide +kernel
theorem dX9_isLoad_9 : decode cX9_isLoad 9 = .ok (.iconst 1, 1) := by decide +kernel
theorem dX9_isLoad_10 : decode cX9_isLoad 10 = .ok (.isub, 1) := by decide +kernel
theorem dX9_isLoad_11 : decode cX9_isLoad 11 = .ok (.invokestatic 108, 3) := by decide +kernel
theorem dX9_isLoad_14 : decode cX9_isLoad 14 = .ok (.ireturn, 1) := by decide +kernel
theorem dX9_isWithin_0 : decode cX9_isWithin 0 = .ok (.iload_n 0, 1) := by decide +kernel
theorem dX9_isWithin_1 : decode cX9_isWithin 1 = .ok (.iload_n 1, 1) := by decide +kernel
theorem dX9_isWithin_2 : decode cX9_isWithin 2 = .ok (.if_icmp .lt 12, 3) := by decide +kernel
theorem dX9_isWithin_5 : decode cX9_isWithin 5 = .ok (.iload_n 0, 1) := by decide +kernel
theorem dX9_isWithin_6 : decode cX9_isWithin 6 = .ok (.iload_n 2, 1) := by decide +kernel
theorem dX9_isWithin_7 : decode cX9_isWithin 7 = .ok (.if_icmp .gt 7, 3) := by decide +kernel
theorem dX9_isWithin_10 : decode cX9_isWithin 10 = .ok (.iconst 1, 1) := by decide +kernel
theorem dX9_isWithin_11 : decode cX9_isWithin 11 = .ok (.goto 4, 3) := by decide +kernel
theorem dX9_isWithin_14 : decode cX9_isWithin 14 = .ok (.iconst 0, 1) := by decide +kernel
theorem dX9_isWithin_15 : decode cX9_isWithin 15 = .ok (.ireturn, 1) := by decide +kernel
theorem dX9_isZone_0 : decode cX9_isZone 0 = .ok (.iload_n 0, 1) := by decide +kernel
theorem dX9_isZone_1 : decode cX9_isZone 1 = .ok (.iconst 0, 1) := by decide +kernel
theorem dX9_isZone_2 : decode cX9_isZone 2 = .ok (.iconst 2, 1) := by decide +kernel
theorem dX9_isZone_3 : decode cX9_isZone 3 = .ok (.invokestatic 108, 3) := by decide +kernel
theorem dX9_isZone_6 : decode cX9_isZone 6 = .ok (.ireturn, 1) := by decide +kernel
theorem dX9_isHeat_0 : decode cX9_isHeat 0 = .ok (.iload_n 0, 1) := by decide +kernel
theorem dX9_isHeat_1 : decode cX9_isHeat 1 = .ok (.iconst 0, 1) := by decide +kernel
theorem dX9_isHeat_2 : decode cX9_isHeat 2 = .ok (.sipush 1300, 3) := by decide +kernel
theorem dX9_isHeat_5 : decode cX9_isHeat 5 = .ok (.invokestatic 108, 3) := by decide +kernel
theorem dX9_isHeat_8 : decode cX9_isHeat 8 = .ok (.ireturn, 1) := by decide +kernel
theorem dX9_isSetting_0 : decode cX9_isSetting 0 = .ok (.iload_n 0, 1) := by decide +kernel
theorem dX9_isSetting_1 : decode cX9_isSetting 1 = .ok (.iconst 0, 1) := by decide +kernel
theorem dX9_isSetting_2 : decode cX9_isSetting 2 = .ok (.iconst 3, 1) := by decide +kernel
theorem dX9_isSetting_3 : decode cX9_isSetting 3 = .ok (.invokestatic 108, 3) := by decide +kernel
theorem dX9_isSetting_6 : decode cX9_isSetting 6 = .ok (.ireturn, 1) := by decide +kernel
theorem dX9_isKind_0 : decode cX9_isKind 0 = .ok (.iload_n 0, 1) := by decide +kernel
theorem dX9_isKind_1 : decode cX9_isKind 1 = .ok (.iconst 0, 1) := by decide +kernel
theorem dX9_isKind_2 : decode cX9_isKind 2 = .ok (.iconst 5, 1) := by decide +kernel
theorem dX9_isKind_3 : decode cX9_isKind 3 = .ok (.invokestatic 108, 3) := by decide +kernel
theorem dX9_isKind_6 : decode cX9_isKind 6 = .ok (.ireturn, 1) := by decide +kernel
theorem dX9_isCourse_0 : decode cX9_isCourse 0 = .ok (.iload_n 0, 1) := by decide +kernel
theorem dX9_isCourse_1 : decode cX9_isCourse 1 = .ok (.iconst 0, 1) := by decide +kernel
theorem dX9_isCourse_2 : decode cX9_isCourse 2 = .ok (.iconst 3, 1) := by decide +kernel
theorem dX9_isCourse_3 : decode cX9_isCourse 3 = .ok (.invokestatic 108, 3) := by decide +kernel
theorem dX9_isCourse_6 : decode cX9_isCourse 6 = .ok (.ireturn, 1) := by decide +kernel
theorem dX9_isSheet_0 : decode cX9_isSheet 0 = .ok (.iload_n 0, 1) := by decide +kernel
theorem dX9_isSheet_1 : decode cX9_isSheet 1 = .ok (.iconst 0, 1) := by decide +kernel
theorem dX9_isSheet_2 : decode cX9_isSheet 2 = .ok (.iconst 3, 1) := by decide +kernel
theorem dX9_isSheet_3 : decode cX9_isSheet 3 = .ok (.invokestatic 108, 3) := by decide +kernel
theorem dX9_isSheet_6 : decode cX9_isSheet 6 = .ok (.ireturn, 1) := by decide +kernel
theorem dX9_isSort_0 : decode cX9_isSort 0 = .ok (.iload_n 0, 1) := by decide +kernel
theorem dX9_isSort_1 : decode cX9_isSort 1 = .ok (.ifCond .eq 8, 3) := by decide +kernel
theorem dX9_isSort_4 : decode cX9_isSort 4 = .ok (.iload_n 0, 1) := by decide +kernel
theorem dX9_isSort_5 : decode cX9_isSort 5 = .ok (.iconst 1, 1) := by decide +kernel
theorem dX9_isSort_6 : decode cX9_isSort 6 = .ok (.if_icmp .ne 7, 3) := by decide +kernel
theorem dX9_isSort_9 : decode cX9_isSort 9 = .ok (.iconst 1, 1) := by decide +kernel
theorem dX9_isSort_10 : decode cX9_isSort 10 = .ok (.goto 4, 3) := by decide +kernel
theorem dX9_isSort_13 : decode cX9_isSort 13 = .ok (.iconst 0, 1) := by decide +kernel
theorem dX9_isSort_14 : decode cX9_isSort 14 = .ok (.ireturn, 1) := by decide +kernel
theorem dX9_isPlan_0 : decode cX9_isPlan 0 = .ok (.iload_n 0, 1) := by decide +kernel
theorem dX9_isPlan_1 : decode cX9_isPlan 1 = .ok (.iconst 1, 1) := by decide +kernel
theorem dX9_isPlan_2 : decode cX9_isPlan 2 = .ok (.iconst 4, 1) := by decide +kernel
theorem dX9_isPlan_3 : decode cX9_isPlan 3 = .ok (.invokestatic 108, 3) := by decide +kernel
theorem dX9_isPlan_6 : decode cX9_isPlan 6 = .ok (.ifCond .eq 17, 3) := by decide +kernel
theorem dX9_isPlan_9 : decode cX9_isPlan 9 = .ok (.iload_n 1, 1) := by decide +kernel
theorem dX9_isPlan_10 : decode cX9_isPlan 10 = .ok (.iconst 1, 1) := by decide +kernel
theorem dX9_isPlan_11 : decode cX9_isPlan 11 = .ok (.bipush 6, 2) := by decide +kernel
theorem dX9_isPlan_13 : decode cX9_isPlan 13 = .ok (.invokestatic 108, 3) := by decide +kernel
theorem dX9_isPlan_16 : decode cX9_isPlan 16 = .ok (.ifCond .eq 7, 3) := by decide +kernel
theorem dX9_isPlan_19 : decode cX9_isPlan 19 = .ok (.iconst 1, 1) := by decide +kernel
theorem dX9_isPlan_20 : decode cX9_isPlan 20 = .ok (.goto 4, 3) := by decide +kernel
theorem dX9_isPlan_23 : decode cX9_isPlan 23 = .ok (.iconst 0, 1) := by decide +kernel
theorem dX9_isPlan_24 : decode cX9_isPlan 24 = .ok (.ireturn, 1) := by decide +kernel
theorem dX9_byteOf_0 : decode cX9_byteOf 0 = .ok (.lload_n 0, 1) := by decide +kernel
theorem dX9_byteOf_1 : decode cX9_byteOf 1 = .ok (.bipush 8, 2) := by decide +kernel
theorem dX9_byteOf_3 : decode cX9_byteOf 3 = .ok (.iload_n 2, 1) := by decide +kernel
theorem dX9_byteOf_4 : decode cX9_byteOf 4 = .ok (.imul, 1) := by decide +kernel
theorem dX9_byteOf_5 : decode cX9_byteOf 5 = .ok (.lushr, 1) := by decide +kernel
theorem dX9_byteOf_6 : decode cX9_byteOf 6 = .ok (.ldc2_w 337, 3) := by decide +kernel
theorem dX9_byteOf_9 : decode cX9_byteOf 9 = .ok (.land, 1) := by decide +kernel
theorem dX9_byteOf_10 : decode cX9_byteOf 10 = .ok (.l2i, 1) := by decide +kernel
theorem dX9_byteOf_11 : decode cX9_byteOf 11 = .ok (.ireturn, 1) := by decide +kernel
theorem dX10_init_0 : decode cX10_init 0 = .ok (.aload_n 0, 1) := by decide +kernel
theorem dX10_init_1 : decode cX10_init 1 = .ok (.invokespecial 1, 3) := by decide +kernel
theorem dX10_init_4 : decode cX10_init 4 = .ok (.aload_n 0, 1) := by decide +kernel
theorem dX10_init_5 : decode cX10_init 5 = .ok (.iconst 3, 1) := by decide +kernel
theorem dX10_init_6 : decode cX10_init 6 = .ok (.newarray .int, 2) := by decide +kernel
theorem dX10_init_8 : decode cX10_init 8 = .ok (.dup, 1) := by decide +kernel
theorem dX10_init_9 : decode cX10_init 9 = .ok (.iconst 0, 1) := by decide +kernel
theorem dX10_init_10 : decode cX10_init 10 = .ok (.bipush 20, 2) := by decide +kernel
theorem dX10_init_12 : decode cX10_init 12 = .ok (.iastore, 1) := by decide +kernel
theorem dX10_init_13 : decode cX10_init 13 = .ok (.dup, 1) := by decide +kernel
theorem dX10_init_14 : decode cX10_init 14 = .ok (.iconst 1, 1) := by decide +kernel
theorem dX10_init_15 : decode cX10_init 15 = .ok (.bipush 20, 2) := by decide +kernel
theorem dX10_init_17 : decode cX10_init 17 = .ok (.iastore, 1) := by decide +kernel
theorem dX10_init_18 : decode cX10_init 18 = .ok (.dup, 1) := by decide +kernel
theorem dX10_init_19 : decode cX10_init 19 = .ok (.iconst 2, 1) := by decide +kernel
theorem dX10_init_20 : decode cX10_init 20 = .ok (.bipush 20, 2) := by decide +kernel
theorem dX10_init_22 : decode cX10_init 22 = .ok (.iastore, 1) := by decide +kernel
theorem dX10_init_23 : decode cX10_init 23 = .ok (.putfield 7, 3) := by decide +kernel
theorem dX10_init_26 : decode cX10_init 26 = .ok (.aload_n 0, 1) := by decide +kernel
theorem dX10_init_27 : decode cX10_init 27 = .ok (.iconst 3, 1) := by decide +kernel
theorem dX10_init_28 : decode cX10_init 28 = .ok (.newarray .int, 2) := by decide +kernel
theorem dX10_init_30 : decode cX10_init 30 = .ok (.putfield 13, 3) := by decide +kernel
theorem dX10_init_33 : decode cX10_init 33 = .ok (.aload_n 0, 1) := by decide +kernel
theorem dX10_init_34 : decode cX10_init 34 = .ok (.bipush 8, 2) := by decide +kernel
theorem dX10_init_36 : decode cX10_init 36 = .ok (.newarray .int, 2) := by decide +kernel
theorem dX10_init_38 : decode cX10_init 38 = .ok (.putfield 16, 3) := by decide +kernel
theorem dX10_init_41 : decode cX10_init 41 = .ok (.aload_n 0, 1) := by decide +kernel
theorem dX10_init_42 : decode cX10_init 42 = .ok (.bipush 8, 2) := by decide +kernel
theorem dX10_init_44 : decode cX10_init 44 = .ok (.newarray .int, 2) := by decide +kernel
theorem dX10_init_46 : decode cX10_init 46 = .ok (.putfield 19, 3) := by decide +kernel
theorem dX10_init_49 : decode cX10_init 49 = .ok (.aload_n 0, 1) := by decide +kernel
theorem dX10_init_50 : decode cX10_init 50 = .ok (.bipush 8, 2) := by decide +kernel
theorem dX10_init_52 : decode cX10_init 52 = .ok (.newarray .int, 2) := by decide +kernel
theorem dX10_init_54 : decode cX10_init 54 = .ok (.putfield 22, 3) := by decide +kernel
theorem dX10_init_57 : decode cX10_init 57 = .ok (.aload_n 0, 1) := by decide +kernel
theorem dX10_init_58 : decode cX10_init 58 = .ok (.bipush 8, 2) := by decide +kernel
theorem dX10_init_60 : decode cX10_init 60 = .ok (.newarray .int, 2) := by decide +kernel
theorem dX10_init_62 : decode cX10_init 62 = .ok (.putfield 25, 3) := by decide +kernel
theorem dX10_init_65 : decode cX10_init 65 = .ok (.aload_n 0, 1) := by decide +kernel
theorem dX10_init_66 : decode cX10_init 66 = .ok (.bipush 8, 2) := by decide +kernel
theorem dX10_init_68 : decode cX10_init 68 = .ok (.newarray .int, 2) := by decide +kernel
theorem dX10_init_70 : decode cX10_init 70 = .ok (.putfield 28, 3) := by decide +kernel
theorem dX10_init_73 : decode cX10_init 73 = .ok (.aload_n 0, 1) := by decide +kernel
theorem dX10_init_74 : decode cX10_init 74 = .ok (.iconst 4, 1) := by decide +kernel
theorem dX10_init_75 : decode cX10_init 75 = .ok (.newarray .int, 2) := by decide +kernel
theorem dX10_init_77 : decode cX10_init 77 = .ok (.putfield 31, 3) := by decide +kernel
theorem dX10_init_80 : decode cX10_init 80 = .ok (.aload_n 0, 1) := by decide +kernel
theorem dX10_init_81 : decode cX10_init 81 = .ok (.bipush 24, 2) := by decide +kernel
theorem dX10_init_83 : decode cX10_init 83 = .ok (.newarray .int, 2) := by decide +kernel
theorem dX10_init_85 : decode cX10_init 85 = .ok (.putfield 34, 3) := by decide +kernel
theorem dX10_init_88 : decode cX10_init 88 = .ok (.aload_n 0, 1) := by decide +kernel
theorem dX10_init_89 : decode cX10_init 89 = .ok (.bipush 72, 2) := by decide +kernel
theorem dX10_init_91 : decode cX10_init 91 = .ok (.newarray .int, 2) := by decide +kernel
theorem dX10_init_93 : decode cX10_init 93 = .ok (.putfield 37, 3) := by decide +kernel
theorem dX10_init_96 : decode cX10_init 96 = .ok (.aload_n 0, 1) := by decide +kernel
theorem dX10_init_97 : decode cX10_init 97 = .ok (.bipush 120, 2) := by decide +kernel
theorem dX10_init_99 : decode cX10_init 99 = .ok (.newarray .int, 2) := by decide +kernel
theorem dX10_init_101 : decode cX10_init 101 = .ok (.putfield 40, 3) := by decide +kernel
theorem dX10_init_104 : decode cX10_init 104 = .ok (.aload_n 0, 1) := by decide +kernel
theorem dX10_init_105 : decode cX10_init 105 = .ok (.iconst 4, 1) := by decide +kernel
theorem dX10_init_106 : decode cX10_init 106 = .ok (.newarray .int, 2) := by decide +kernel
theorem dX10_init_108 : decode cX10_init 108 = .ok (.dup, 1) := by decide +kernel
theorem dX10_init_109 : decode cX10_init 109 = .ok (.iconst 0, 1) := by decide +kernel
theorem dX10_init_110 : decode cX10_init 110 = .ok (.iconst (-1), 1) := by decide +kernel
theorem dX10_init_111 : decode cX10_init 111 = .ok (.iastore, 1) := by decide +kernel
theorem dX10_init_112 : decode cX10_init 112 = .ok (.dup, 1) := by decide +kernel
theorem dX10_init_113 : decode cX10_init 113 = .ok (.iconst 1, 1) := by decide +kernel
theorem dX10_init_114 : decode cX10_init 114 = .ok (.iconst (-1), 1) := by decide +kernel
theorem dX10_init_115 : decode cX10_init 115 = .ok (.iastore, 1) := by decide +kernel
theorem dX10_init_116 : decode cX10_init 116 = .ok (.dup, 1) := by decide +kernel
theorem dX10_init_117 : decode cX10_init 117 = .ok (.iconst 2, 1) := by decide +kernel
theorem dX10_init_118 : decode cX10_init 118 = .ok (.iconst (-1), 1) := by decide +kernel
theorem dX10_init_119 : decode cX10_init 119 = .ok (.iastore, 1) := by decide +kernel
theorem dX10_init_120 : decode cX10_init 120 = .ok (.dup, 1) := by decide +kernel
theorem dX10_init_121 : decode cX10_init 121 = .ok (.iconst 3, 1) := by decide +kernel
theorem dX10_init_122 : decode cX10_init 122 = .ok (.iconst (-1), 1) := by decide +kernel
theorem dX10_init_123 : decode cX10_init 123 = .ok (.iastore, 1) := by decide +kernel
theorem dX10_init_124 : decode cX10_init 124 = .ok (.putfield 43, 3) := by decide +kernel
theorem dX10_init_127 : decode cX10_init 127 = .ok (.aload_n 0, 1) := by decide +kernel
theorem dX10_init_128 : decode cX10_init 128 = .ok (.iconst 4, 1) := by decide +kernel
theorem dX10_init_129 : decode cX10_init 129 = .ok (.newarray .int, 2) := by decide +kernel
theorem dX10_init_131 : decode cX10_init 131 = .ok (.putfield 46, 3) := by decide +kernel
theorem dX10_init_134 : decode cX10_init 134 = .ok (.aload_n 0, 1) := by decide +kernel
theorem dX10_init_135 : decode cX10_init 135 = .ok (.sipush 160, 3) := by decide +kernel
theorem dX10_init_138 : decode cX10_init 138 = .ok (.newarray .int, 2) := by decide +kernel
theorem dX10_init_140 : decode cX10_init 140 = .ok (.putfield 49, 3) := by decide +kernel
theorem dX10_init_143 : decode cX10_init 143 = .ok (.aload_n 0, 1) := by decide +kernel
theorem dX10_init_144 : decode cX10_init 144 = .ok (.bipush 40, 2) := by decide +kernel
theorem dX10_init_146 : decode cX10_init 146 = .ok (.newarray .int, 2) := by decide +kernel
theorem dX10_init_148 : decode cX10_init 148 = .ok (.putfield 52, 3) := by decide +kernel
theorem dX10_init_151 : decode cX10_init 151 = .ok (.aload_n 0, 1) := by decide +kernel
theorem dX10_init_152 : decode cX10_init 152 = .ok (.iconst 3, 1) := by decide +kernel
theorem dX10_init_153 : decode cX10_init 153 = .ok (.newarray .int, 2) := by decide +kernel
theorem dX10_init_155 : decode cX10_init 155 = .ok (.putfield 55, 3) := by decide +kernel
theorem dX10_init_158 : decode cX10_init 158 = .ok (.aload_n 0, 1) := by decide +kernel
theorem dX10_init_159 : decode cX10_init 159 = .ok (.iconst 3, 1) := by decide +kernel
theorem dX10_init_160 : decode cX10_init 160 = .ok (.newarray .int, 2) := by decide +kernel
theorem dX10_init_162 : decode cX10_init 162 = .ok (.putfield 58, 3) := by decide +kernel
theorem dX10_init_165 : decode cX10_init 165 = .ok (.aload_n 0, 1) := by decide +kernel
theorem dX10_init_166 : decode cX10_init 166 = .ok (.iconst 3, 1) := by decide +kernel
theorem dX10_init_167 : decode cX10_init 167 = .ok (.newarray .int, 2) := by decide +kernel
theorem dX10_init_169 : decode cX10_init 169 = .ok (.putfield 61, 3) := by decide +kernel
theorem dX10_init_172 : decode cX10_init 172 = .ok (.aload_n 0, 1) := by decide +kernel
theorem dX10_init_173 : decode cX10_init 173 = .ok (.bipush 8, 2) := by decide +kernel
theorem dX10_init_175 : decode cX10_init 175 = .ok (.newarray .int, 2) := by decide +kernel
theorem dX10_init_177 : decode cX10_init 177 = .ok (.putfield 64, 3) := by decide +kernel
theorem dX10_init_180 : decode cX10_init 180 = .ok (.aload_n 0, 1) := by decide +kernel
theorem dX10_init_181 : decode cX10_init 181 = .ok (.bipush 8, 2) := by decide +kernel
theorem dX10_init_183 : decode cX10_init 183 = .ok (.newarray .int, 2) := by decide +kernel
theorem dX10_init_185 : decode cX10_init 185 = .ok (.putfield 67, 3) := by decide +kernel
theorem dX10_init_188 : decode cX10_init 188 = .ok (.aload_n 0, 1) := by decide +kernel
theorem dX10_init_189 : decode cX10_init 189 = .ok (.bipush 6, 2) := by decide +kernel
theorem dX10_init_191 : decode cX10_init 191 = .ok (.newarray .int, 2) := by decide +kernel
theorem dX10_init_193 : decode cX10_init 193 = .ok (.putfield 70, 3) := by decide +kernel
theorem dX10_init_196 : decode cX10_init 196 = .ok (.aload_n 0, 1) := by decide +kernel
theorem dX10_init_197 : decode cX10_init 197 = .ok (.bipush 18, 2) := by decide +kernel
theorem dX10_init_199 : decode cX10_init 199 = .ok (.newarray .int, 2) := by decide +kernel
theorem dX10_init_201 : decode cX10_init 201 = .ok (.putfield 73, 3) := by decide +kernel
theorem dX10_init_204 : decode cX10_init 204 = .ok (.aload_n 0, 1) := by decide +kernel
theorem dX10_init_205 : decode cX10_init 205 = .ok (.bipush 120, 2) := by decide +kernel
theorem dX10_init_207 : decode cX10_init 207 = .ok (.newarray .int, 2) := by decide +kernel
theorem dX10_init_209 : decode cX10_init 209 = .ok (.putfield 76, 3) := by decide +kernel
theorem dX10_init_212 : decode cX10_init 212 = .ok (.aload_n 0, 1) := by decide +kernel
theorem dX10_init_213 : decode cX10_init 213 = .ok (.sipush 160, 3) := by decide +kernel
theorem dX10_init_216 : decode cX10_init 216 = .ok (.newarray .int, 2) := by decide +kernel
theorem dX10_init_218 : decode cX10_init 218 = .ok (.putfield 79, 3) := by decide +kernel
theorem dX10_init_221 : decode cX10_init 221 = .ok (.return_, 1) := by decide +kernel
theorem dX10_isIn_0 : decode cX10_isIn 0 = .ok (.iload_n 0, 1) := by decide +kernel
theorem dX10_isIn_1 : decode cX10_isIn 1 = .ok (.iload_n 1, 1) := by decide +kernel
theorem dX10_isIn_2 : decode cX10_isIn 2 = .ok (.if_icmp .lt 12, 3) := by decide +kernel
theorem dX10_isIn_5 : decode cX10_isIn 5 = .ok (.iload_n 0, 1) := by decide +kernel
theorem dX10_isIn_6 : decode cX10_isIn 6 = .ok (.iload_n 2, 1) := by decide +kernel
theorem dX10_isIn_7 : decode cX10_isIn 7 = .ok (.if_icmp .gt 7, 3) := by decide +kernel
theorem dX10_isIn_10 : decode cX10_isIn 10 = .ok (.iconst 1, 1) := by decide +kernel
theorem dX10_isIn_11 : decode cX10_isIn 11 = .ok (.goto 4, 3) := by decide +kernel
theorem dX10_isIn_14 : decode cX10_isIn 14 = .ok (.iconst 0, 1) := by decide +kernel
theorem dX10_isIn_15 : decode cX10_isIn 15 = .ok (.ireturn, 1) := by decide +kernel
theorem dX10_isZone_0 : decode cX10_isZone 0 = .ok (.iload_n 0, 1) := by decide +kernel
theorem dX10_isZone_1 : decode cX10_isZone 1 = .ok (.iconst 0, 1) := by decide +kernel
theorem dX10_isZone_2 : decode cX10_isZone 2 = .ok (.iconst 2, 1) := by decide +kernel
theorem dX10_isZone_3 : decode cX10_isZone 3 = .ok (.invokestatic 82, 3) := by decide +kernel
theorem dX10_isZone_6 : decode cX10_isZone 6 = .ok (.ireturn, 1) := by decide +kernel
theorem dX10_isSetting_0 : decode cX10_isSetting 0 = .ok (.iload_n 0, 1) := by decide +kernel
theorem dX10_isSetting_1 : decode cX10_isSetting 1 = .ok (.iconst 0, 1) := by decide +kernel
theorem dX10_isSetting_2 : decode cX10_isSetting 2 = .ok (.iconst 3, 1) := by decide +kernel
theorem dX10_isSetting_3 : decode cX10_isSetting 3 = .ok (.invokestatic 82, 3) := by decide +kernel
theorem dX10_isSetting_6 : decode cX10_isSetting 6 = .ok (.ireturn, 1) := by decide +kernel
theorem dX10_isHeat_0 : decode cX10_isHeat 0 = .ok (.iload_n 0, 1) := by decide +kernel
theorem dX10_isHeat_1 : decode cX10_isHeat 1 = .ok (.iconst 0, 1) := by decide +kernel
theorem dX10_isHeat_2 : decode cX10_isHeat 2 = .ok (.sipush 1300, 3) := by decide +kernel
theorem dX10_isHeat_5 : decode cX10_isHeat 5 = .ok (.invokestatic 82, 3) := by decide +kernel
theorem dX10_isHeat_8 : decode cX10_isHeat 8 = .ok (.ireturn, 1) := by decide +kernel
theorem dX10_isLoad_0 : decode cX10_isLoad 0 = .ok (.iload_n 1, 1) := by decide +kernel
theorem dX10_isLoad_1 : decode cX10_isLoad 1 = .ok (.iconst 0, 1) := by decide +kernel
theorem dX10_isLoad_2 : decode cX10_isLoad 2 = .ok (.aload_n 0, 1) := by decide +kernel
theorem dX10_isLoad_3 : decode cX10_isLoad 3 = .ok (.getfield 86, 3) := by decide +kernel
theorem dX10_isLoad_6 : decode cX10_isLoad 6 = .ok (.iconst 1, 1) := by decide +kernel
theorem dX10_isLoad_7 : decode cX10_isLoad 7 = .ok (.isub, 1) := by decide +kernel
theorem dX10_isLoad_8 : decode cX10_isLoad 8 = .ok (.invokestatic 82, 3) := by decide +kernel
theorem dX10_isLoad_11 : decode cX10_isLoad 11 = .ok (.ireturn, 1) := by decide +kernel
theorem dX10_isCourse_0 : decode cX10_isCourse 0 = .ok (.iload_n 0, 1) := by decide +kernel
theorem dX10_isCourse_1 : decode cX10_isCourse 1 = .ok (.iconst 0, 1) := by decide +kernel
theorem dX10_isCourse_2 : decode cX10_isCourse 2 = .ok (.iconst 3, 1) := by decide +kernel
theorem dX10_isCourse_3 : decode cX10_isCourse 3 = .ok (.invokestatic 82, 3) := by decide +kernel
theorem dX10_isCourse_6 : decode cX10_isCourse 6 = .ok (.ireturn, 1) := by decide +kernel
theorem dX10_givesAt_0 : decode cX10_givesAt 0 = .ok (.iload_n 0, 1) := by decide +kernel
theorem dX10_givesAt_1 : decode cX10_givesAt 1 = .ok (.tableswitch 64 1 3 #[27, 39, 51], 27) := by decide +kernel
theorem dX10_givesAt_28 : decode cX10_givesAt 28 = .ok (.iconst 0, 1) := by decide +kernel
theorem dX10_givesAt_29 : decode cX10_givesAt 29 = .ok (.bipush 60, 2) := by decide +kernel
theorem dX10_givesAt_31 : decode cX10_givesAt 31 = .ok (.iload_n 1, 1) := by decide +kernel
theorem dX10_givesAt_32 : decode cX10_givesAt 32 = .ok (.bipush 20, 2) := by decide +kernel
theorem dX10_givesAt_34 : decode cX10_givesAt 34 = .ok (.idiv, 1) := by decide +kernel
theorem dX10_givesAt_35 : decode cX10_givesAt 35 = .ok (.isub, 1) := by decide +kernel
theorem dX10_givesAt_36 : decode cX10_givesAt 36 = .ok (.invokestatic 90, 3) := by decide +kernel
theorem dX10_givesAt_39 : decode cX10_givesAt 39 = .ok (.ireturn, 1) := by decide +kernel
theorem dX10_givesAt_40 : decode cX10_givesAt 40 = .ok (.iconst 0, 1) := by decide +kernel
theorem dX10_givesAt_41 : decode cX10_givesAt 41 = .ok (.bipush 120, 2) := by decide +kernel
theorem dX10_givesAt_43 : decode cX10_givesAt 43 = .ok (.iload_n 1, 1) := by decide +kernel
theorem dX10_givesAt_44 : decode cX10_givesAt 44 = .ok (.bipush 15, 2) := by decide +kernel
theorem dX10_givesAt_46 : decode cX10_givesAt 46 = .ok (.idiv, 1) := by decide +kernel
theorem dX10_givesAt_47 : decode cX10_givesAt 47 = .ok (.isub, 1) := by decide +kernel
theorem dX10_givesAt_48 : decode cX10_givesAt 48 = .ok (.invokestatic 90, 3) := by decide +kernel
theorem dX10_givesAt_51 : decode cX10_givesAt 51 = .ok (.ireturn, 1) := by decide +kernel
theorem dX10_givesAt_52 : decode cX10_givesAt 52 = .ok (.iconst 0, 1) := by decide +kernel
theorem dX10_givesAt_53 : decode cX10_givesAt 53 = .ok (.sipush 200, 3) := by decide +kernel
theorem dX10_givesAt_56 : decode cX10_givesAt 56 = .ok (.iload_n 1, 1) := by decide +kernel
theorem dX10_givesAt_57 : decode cX10_givesAt 57 = .ok (.bipush 10, 2) := by decide +kernel
theorem dX10_givesAt_59 : decode cX10_givesAt 59 = .ok (.idiv, 1) := by decide +kernel
theorem dX10_givesAt_60 : decode cX10_givesAt 60 = .ok (.isub, 1) := by decide +kernel
theorem dX10_givesAt_61 : decode cX10_givesAt 61 = .ok (.invokestatic 90, 3) := by decide +kernel
theorem dX10_givesAt_64 : decode cX10_givesAt 64 = .ok (.ireturn, 1) := by decide +kernel
theorem dX10_givesAt_65 : decode cX10_givesAt 65 = .ok (.iconst 0, 1) := by decide +kernel
theorem dX10_givesAt_66 : decode cX10_givesAt 66 = .ok (.ireturn, 1) := by decide +kernel
theorem dX10_burns_0 : decode cX10_burns 0 = .ok (.iload_n 0, 1) := by decide +kernel
theorem dX10_burns_1 : decode cX10_burns 1 = .ok (.ifCond .ne 7, 3) := by decide +kernel
theorem dX10_burns_4 : decode cX10_burns 4 = .ok (.iconst 0, 1) := by decide +kernel
theorem dX10_burns_5 : decode cX10_burns 5 = .ok (.goto 23, 3) := by decide +kernel
theorem dX10_burns_8 : decode cX10_burns 8 = .ok (.iload_n 0, 1) := by decide +kernel
theorem dX10_burns_9 : decode cX10_burns 9 = .ok (.iconst 1, 1) := by decide +kernel
theorem dX10_burns_10 : decode cX10_burns 10 = .ok (.if_icmp .ne 7, 3) := by decide +kernel
theorem dX10_burns_13 : decode cX10_burns 13 = .ok (.iconst 1, 1) := by decide +kernel
theorem dX10_burns_14 : decode cX10_burns 14 = .ok (.goto 14, 3) := by decide +kernel
theorem dX10_burns_17 : decode cX10_burns 17 = .ok (.iload_n 0, 1) := by decide +kernel
theorem dX10_burns_18 : decode cX10_burns 18 = .ok (.iconst 2, 1) := by decide +kernel
theorem dX10_burns_19 : decode cX10_burns 19 = .ok (.if_icmp .ne 7, 3) := by decide +kernel
theorem dX10_burns_22 : decode cX10_burns 22 = .ok (.iconst 3, 1) := by decide +kernel
theorem dX10_burns_23 : decode cX10_burns 23 = .ok (.goto 5, 3) := by decide +kernel
theorem dX10_burns_26 : decode cX10_burns 26 = .ok (.bipush 6, 2) := by decide +kernel
theorem dX10_burns_28 : decode cX10_burns 28 = .ok (.ireturn, 1) := by decide +kernel
theorem dX10_burning_0 : decode cX10_burning 0 = .ok (.aload_n 0, 1) := by decide +kernel
theorem dX10_burning_1 : decode cX10_burning 1 = .ok (.getfield 13, 3) := by decide +kernel
theorem dX10_burning_4 : decode cX10_burning 4 = .ok (.iconst 0, 1) := by decide +kernel
theorem dX10_burning_5 : decode cX10_burning 5 = .ok (.iaload, 1) := by decide +kernel
theorem dX10_burning_6 : decode cX10_burning 6 = .ok (.invokestatic 96, 3) := by decide +kernel
theorem dX10_burning_9 : decode cX10_burning 9 = .ok (.aload_n 0, 1) := by decide +kernel
theorem dX10_burning_10 : decode cX10_burning 10 = .ok (.getfield 13, 3) := by decide +kernel
theorem dX10_burning_13 : decode cX10_burning 13 = .ok (.iconst 1, 1) := by decide +kernel
theorem dX10_burning_14 : decode cX10_burning 14 = .ok (.iaload, 1) := by decide +kernel
theorem dX10_burning_15 : decode cX10_burning 15 = .ok (.invokestatic 96, 3) := by decide +kernel
theorem dX10_burning_18 : decode cX10_burning 18 = .ok (.iadd, 1) := by decide +kernel
theorem dX10_burning_19 : decode cX10_burning 19 = .ok (.aload_n 0, 1) := by decide +kernel
theorem dX10_burning_20 : decode cX10_burning 20 = .ok (.getfield 13, 3) := by decide +kernel
theorem dX10_burning_23 : decode cX10_burning 23 = .ok (.iconst 2, 1) := by decide +kernel
theorem dX10_burning_24 : decode cX10_burning 24 = .ok (.iaload, 1) := by decide +kernel
theorem dX10_burning_25 : decode cX10_burning 25 = .ok (.invokestatic 96, 3) := by decide +kernel
theorem dX10_burning_28 : decode cX10_burning 28 = .ok (.iadd, 1) := by decide +kernel
theorem dX10_burning_29 : decode cX10_burning 29 = .ok (.ireturn, 1) := by decide +kernel
theorem dX10_risesFrom_0 : decode cX10_risesFrom 0 = .ok (.aload_n 0, 1) := by decide +kernel
theorem dX10_risesFrom_1 : decode cX10_risesFrom 1 = .ok (.getfield 16, 3) := by decide +kernel
theorem dX10_risesFrom_4 : decode cX10_risesFrom 4 = .ok (.iload_n 1, 1) := by decide +kernel
theorem dX10_risesFrom_5 : decode cX10_risesFrom 5 = .ok (.iaload, 1) := by decide +kernel
theorem dX10_risesFrom_6 : decode cX10_risesFrom 6 = .ok (.tableswitch 89 1 5 #[34, 89, 47, 74, 47], 34) := by decide +kernel
theorem dX10_risesFrom_40 : decode cX10_risesFrom 40 = .ok (.bipush 120, 2) := by decide +kernel
theorem dX10_risesFrom_42 : decode cX10_risesFrom 42 = .ok (.bipush 8, 2) := by decide +kernel
theorem dX10_risesFrom_44 : decode cX10_risesFrom 44 = .ok (.aload_n 0, 1) := by decide +kernel
theorem dX10_risesFrom_45 : decode cX10_risesFrom 45 = .ok (.getfield 19, 3) := by decide +kernel
theorem dX10_risesFrom_48 : decode cX10_risesFrom 48 = .ok (.iload_n 1, 1) := by decide +kernel
theorem dX10_risesFrom_49 : decode cX10_risesFrom 49 = .ok (.iaload, 1) := by decide +kernel
theorem dX10_risesFrom_50 : decode cX10_risesFrom 50 = .ok (.imul, 1) := by decide +kernel
theorem dX10_risesFrom_51 : decode cX10_risesFrom 51 = .ok (.isub, 1) := by decide +kernel
theorem dX10_risesFrom_52 : decode cX10_risesFrom 52 = .ok (.ireturn, 1) := by decide +kernel
theorem dX10_risesFrom_53 : decode cX10_risesFrom 53 = .ok (.bipush 120, 2) := by decide +kernel
theorem dX10_risesFrom_55 : decode cX10_risesFrom 55 = .ok (.bipush 8, 2) := by decide +kernel
theorem dX10_risesFrom_57 : decode cX10_risesFrom 57 = .ok (.aload_n 0, 1) := by decide +kernel
theorem dX10_risesFrom_58 : decode cX10_risesFrom 58 = .ok (.getfield 19, 3) := by decide +kernel
theorem dX10_risesFrom_61 : decode cX10_risesFrom 61 = .ok (.iload_n 1, 1) := by decide +kernel
theorem dX10_risesFrom_62 : decode cX10_risesFrom 62 = .ok (.iaload, 1) := by decide +kernel
theorem dX10_risesFrom_63 : decode cX10_risesFrom 63 = .ok (.imul, 1) := by decide +kernel
theorem dX10_risesFrom_64 : decode cX10_risesFrom 64 = .ok (.isub, 1) := by decide +kernel
theorem dX10_risesFrom_65 : decode cX10_risesFrom 65 = .ok (.iload_n 2, 1) := by decide +kernel
theorem dX10_risesFrom_66 : decode cX10_risesFrom 66 = .ok (.sipush 600, 3) := by decide +kernel
theorem dX10_risesFrom_69 : decode cX10_risesFrom 69 = .ok (.if_icmp .lt 8, 3) := by decide +kernel
theorem dX10_risesFrom_72 : decode cX10_risesFrom 72 = .ok (.bipush 30, 2) := by decide +kernel
theorem dX10_risesFrom_74 : decode cX10_risesFrom 74 = .ok (.goto 4, 3) := by decide +kernel
theorem dX10_risesFrom_77 : decode cX10_risesFrom 77 = .ok (.iconst 0, 1) := by decide +kernel
theorem dX10_risesFrom_78 : decode cX10_risesFrom 78 = .ok (.isub, 1) := by decide +kernel
theorem dX10_risesFrom_79 : decode cX10_risesFrom 79 = .ok (.ireturn, 1) := by decide +kernel
theorem dX10_risesFrom_80 : decode cX10_risesFrom 80 = .ok (.iload_n 2, 1) := by decide +kernel
theorem dX10_risesFrom_81 : decode cX10_risesFrom 81 = .ok (.sipush 200, 3) := by decide +kernel
theorem dX10_risesFrom_84 : decode cX10_risesFrom 84 = .ok (.if_icmp .ge 8, 3) := by decide +kernel
theorem dX10_risesFrom_87 : decode cX10_risesFrom 87 = .ok (.bipush 40, 2) := by decide +kernel
theorem dX10_risesFrom_89 : decode cX10_risesFrom 89 = .ok (.goto 5, 3) := by decide +kernel
theorem dX10_risesFrom_92 : decode cX10_risesFrom 92 = .ok (.bipush 120, 2) := by decide +kernel
theorem dX10_risesFrom_94 : decode cX10_risesFrom 94 = .ok (.ireturn, 1) := by decide +kernel
theorem dX10_risesFrom_95 : decode cX10_risesFrom 95 = .ok (.bipush 120, 2) := by decide +kernel
theorem dX10_risesFrom_97 : decode cX10_risesFrom 97 = .ok (.ireturn, 1) := by decide +kernel
theorem dX10_fallsOf_0 : decode cX10_fallsOf 0 = .ok (.aload_n 0, 1) := by decide +kernel
theorem dX10_fallsOf_1 : decode cX10_fallsOf 1 = .ok (.getfield 16, 3) := by decide +kernel
theorem dX10_fallsOf_4 : decode cX10_fallsOf 4 = .ok (.iload_n 1, 1) := by decide +kernel
theorem dX10_fallsOf_5 : decode cX10_fallsOf 5 = .ok (.iaload, 1) := by decide +kernel
theorem dX10_fallsOf_6 : decode cX10_fallsOf 6 = .ok (.tableswitch 32 2 4 #[26, 29, 26], 26) := by decide +kernel
theorem dX10_fallsOf_32 : decode cX10_fallsOf 32 = .ok (.bipush 40, 2) := by decide +kernel
theorem dX10_fallsOf_34 : decode cX10_fallsOf 34 = .ok (.ireturn, 1) := by decide +kernel
theorem dX10_fallsOf_35 : decode cX10_fallsOf 35 = .ok (.bipush 60, 2) := by decide +kernel
theorem dX10_fallsOf_37 : decode cX10_fallsOf 37 = .ok (.ireturn, 1) := by decide +kernel
theorem dX10_fallsOf_38 : decode cX10_fallsOf 38 = .ok (.bipush 80, 2) := by decide +kernel
theorem dX10_fallsOf_40 : decode cX10_fallsOf 40 = .ok (.ireturn, 1) := by decide +kernel
theorem dX10_topOf_0 : decode cX10_topOf 0 = .ok (.aload_n 0, 1) := by decide +kernel
theorem dX10_topOf_1 : decode cX10_topOf 1 = .ok (.getfield 16, 3) := by decide +kernel
theorem dX10_topOf_4 : decode cX10_topOf 4 = .ok (.iload_n 1, 1) := by decide +kernel
theorem dX10_topOf_5 : decode cX10_topOf 5 = .ok (.iaload, 1) := by decide +kernel
theorem dX10_topOf_6 : decode cX10_topOf 6 = .ok (.tableswitch 38 2 5 #[30, 34, 30, 34], 30) := by decide +kernel
theorem dX10_topOf_36 : decode cX10_topOf 36 = .ok (.sipush 900, 3) := by decide +kernel
theorem dX10_topOf_39 : decode cX10_topOf 39 = .ok (.ireturn, 1) := by decide +kernel
theorem dX10_topOf_40 : decode cX10_topOf 40 = .ok (.sipush 1000, 3) := by decide +kernel
theorem dX10_topOf_43 : decode cX10_topOf 43 = .ok (.ireturn, 1) := by decide +kernel
theorem dX10_topOf_44 : decode cX10_topOf 44 = .ok (.sipush 800, 3) := by decide +kernel
theorem dX10_topOf_47 : decode cX10_topOf 47 = .ok (.ireturn, 1) := by decide +kernel
theorem dX10_needOf_0 : decode cX10_needOf 0 = .ok (.aload_n 0, 1) := by decide +kernel
theorem dX10_needOf_1 : decode cX10_needOf 1 = .ok (.getfield 16, 3) := by decide +kernel
theorem dX10_needOf_4 : decode cX10_needOf 4 = .ok (.iload_n 1, 1) := by decide +kernel
theorem dX10_needOf_5 : decode cX10_needOf 5 = .ok (.iaload, 1) := by decide +kernel
theorem dX10_needOf_6 : decode cX10_needOf 6 = .ok (.iconst 2, 1) := by decide +kernel
theorem dX10_needOf_7 : decode cX10_needOf 7 = .ok (.if_icmp .ne 16, 3) := by decide +kernel
theorem dX10_needOf_10 : decode cX10_needOf 10 = .ok (.iconst 2, 1) := by decide +kernel
theorem dX10_needOf_11 : decode cX10_needOf 11 = .ok (.aload_n 0, 1) := by decide +kernel
theorem dX10_needOf_12 : decode cX10_needOf 12 = .ok (.getfield 19, 3) := by decide +kernel
theorem dX10_needOf_15 : decode cX10_needOf 15 = .ok (.iload_n 1, 1) := by decide +kernel
theorem dX10_needOf_16 : decode cX10_needOf 16 = .ok (.iaload, 1) := by decide +kernel
theorem dX10_needOf_17 : decode cX10_needOf 17 = .ok (.iconst 2, 1) := by decide +kernel
theorem dX10_needOf_18 : decode cX10_needOf 18 = .ok (.idiv, 1) := by decide +kernel
theorem dX10_needOf_19 : decode cX10_needOf 19 = .ok (.iadd, 1) := by decide +kernel
theorem dX10_needOf_20 : decode cX10_needOf 20 = .ok (.goto 27, 3) := by decide +kernel
theorem dX10_needOf_23 : decode cX10_needOf 23 = .ok (.aload_n 0, 1) := by decide +kernel
theorem dX10_needOf_24 : decode cX10_needOf 24 = .ok (.getfield 16, 3) := by decide +kernel
theorem dX10_needOf_27 : decode cX10_needOf 27 = .ok (.iload_n 1, 1) := by decide +kernel
theorem dX10_needOf_28 : decode cX10_needOf 28 = .ok (.iaload, 1) := by decide +kernel
theorem dX10_needOf_29 : decode cX10_needOf 29 = .ok (.iconst 4, 1) := by decide +kernel
theorem dX10_needOf_30 : decode cX10_needOf 30 = .ok (.if_icmp .ne 16, 3) := by decide +kernel
theorem dX10_needOf_33 : decode cX10_needOf 33 = .ok (.iconst 1, 1) := by decide +kernel
theorem dX10_needOf_34 : decode cX10_needOf 34 = .ok (.aload_n 0, 1) := by decide +kernel
theorem dX10_needOf_35 : decode cX10_needOf 35 = .ok (.getfield 19, 3) := by decide +kernel
theorem dX10_needOf_38 : decode cX10_needOf 38 = .ok (.iload_n 1, 1) := by decide +kernel
theorem dX10_needOf_39 : decode cX10_needOf 39 = .ok (.iaload, 1) := by decide +kernel
theorem dX10_needOf_40 : decode cX10_needOf 40 = .ok (.iconst 2, 1) := by decide +kernel
theorem dX10_needOf_41 : decode cX10_needOf 41 = .ok (.idiv, 1) := by decide +kernel
theorem dX10_needOf_42 : decode cX10_needOf 42 = .ok (.iadd, 1) := by decide +kernel
theorem dX10_needOf_43 : decode cX10_needOf 43 = .ok (.goto 4, 3) := by decide +kernel
theorem dX10_needOf_46 : decode cX10_needOf 46 = .ok (.iconst 2, 1) := by decide +kernel
theorem dX10_needOf_47 : decode cX10_needOf 47 = .ok (.ireturn, 1) := by decide +kernel
theorem dX10_meltsOf_0 : decode cX10_meltsOf 0 = .ok (.aload_n 0, 1) := by decide +kernel
theorem dX10_meltsOf_1 : decode cX10_meltsOf 1 = .ok (.iload_n 1, 1) := by decide +kernel
theorem dX10_meltsOf_2 : decode cX10_meltsOf 2 = .ok (.invokevirtual 100, 3) := by decide +kernel
theorem dX10_meltsOf_5 : decode cX10_meltsOf 5 = .ok (.aload_n 0, 1) := by decide +kernel
theorem dX10_meltsOf_6 : decode cX10_meltsOf 6 = .ok (.getfield 16, 3) := by decide +kernel
theorem dX10_meltsOf_9 : decode cX10_meltsOf 9 = .ok (.iload_n 1, 1) := by decide +kernel
theorem dX10_meltsOf_10 : decode cX10_meltsOf 10 = .ok (.iaload, 1) := by decide +kernel
theorem dX10_meltsOf_11 : decode cX10_meltsOf 11 = .ok (.iconst 5, 1) := by decide +kernel
theorem dX10_meltsOf_12 : decode cX10_meltsOf 12 = .ok (.if_icmp .ne 9, 3) := by decide +kernel
theorem dX10_meltsOf_15 : decode cX10_meltsOf 15 = .ok (.sipush 500, 3) := by decide +kernel
theorem dX10_meltsOf_18 : decode cX10_meltsOf 18 = .ok (.goto 6, 3) := by decide +kernel
theorem dX10_meltsOf_21 : decode cX10_meltsOf 21 = .ok (.sipush 300, 3) := by decide +kernel
theorem dX10_meltsOf_24 : decode cX10_meltsOf 24 = .ok (.iadd, 1) := by decide +kernel
theorem dX10_meltsOf_25 : decode cX10_meltsOf 25 = .ok (.ireturn, 1) := by decide +kernel
theorem dX10_massOf_0 : decode cX10_massOf 0 = .ok (.aload_n 0, 1) := by decide +kernel
theorem dX10_massOf_1 : decode cX10_massOf 1 = .ok (.getfield 16, 3) := by decide +kernel
theorem dX10_massOf_4 : decode cX10_massOf 4 = .ok (.iload_n 1, 1) := by decide +kernel
theorem dX10_massOf_5 : decode cX10_massOf 5 = .ok (.iaload, 1) := by decide +kernel
theorem dX10_massOf_6 : decode cX10_massOf 6 = .ok (.tableswitch 50 0 4 #[34, 50, 41, 50, 41], 34) := by decide +kernel
theorem dX10_massOf_40 : decode cX10_massOf 40 = .ok (.aload_n 0, 1) := by decide +kernel
theorem dX10_massOf_41 : decode cX10_massOf 41 = .ok (.getfield 19, 3) := by decide +kernel
theorem dX10_massOf_44 : decode cX10_massOf 44 = .ok (.iload_n 1, 1) := by decide +kernel
theorem dX10_massOf_45 : decode cX10_massOf 45 = .ok (.iaload, 1) := by decide +kernel
theorem dX10_massOf_46 : decode cX10_massOf 46 = .ok (.ireturn, 1) := by decide +kernel
theorem dX10_massOf_47 : decode cX10_massOf 47 = .ok (.iconst 2, 1) := by decide +kernel
theorem dX10_massOf_48 : decode cX10_massOf 48 = .ok (.aload_n 0, 1) := by decide +kernel
theorem dX10_massOf_49 : decode cX10_massOf 49 = .ok (.getfield 19, 3) := by decide +kernel
theorem dX10_massOf_52 : decode cX10_massOf 52 = .ok (.iload_n 1, 1) := by decide +kernel
theorem dX10_massOf_53 : decode cX10_massOf 53 = .ok (.iaload, 1) := by decide +kernel
theorem dX10_massOf_54 : decode cX10_massOf 54 = .ok (.imul, 1) := by decide +kernel
theorem dX10_massOf_55 : decode cX10_massOf 55 = .ok (.ireturn, 1) := by decide +kernel
theorem dX10_massOf_56 : decode cX10_massOf 56 = .ok (.aload_n 0, 1) := by decide +kernel
theorem dX10_massOf_57 : decode cX10_massOf 57 = .ok (.getfield 19, 3) := by decide +kernel
theorem dX10_massOf_60 : decode cX10_massOf 60 = .ok (.iload_n 1, 1) := by decide +kernel
theorem dX10_massOf_61 : decode cX10_massOf 61 = .ok (.iaload, 1) := by decide +kernel
theorem dX10_massOf_62 : decode cX10_massOf 62 = .ok (.iconst 2, 1) := by decide +kernel
theorem dX10_massOf_63 : decode cX10_massOf 63 = .ok (.idiv, 1) := by decide +kernel
theorem dX10_massOf_64 : decode cX10_massOf 64 = .ok (.ireturn, 1) := by decide +kernel
theorem dX10_massIn_0 : decode cX10_massIn 0 = .ok (.iconst 0, 1) := by decide +kernel
theorem dX10_massIn_1 : decode cX10_massIn 1 = .ok (.istore_n 2, 1) := by decide +kernel
theorem dX10_massIn_2 : decode cX10_massIn 2 = .ok (.iconst 0, 1) := by decide +kernel
theorem dX10_massIn_3 : decode cX10_massIn 3 = .ok (.istore_n 3, 1) := by decide +kernel
theorem dX10_massIn_4 : decode cX10_massIn 4 = .ok (.iload_n 3, 1) := by decide +kernel
theorem dX10_massIn_5 : decode cX10_massIn 5 = .ok (.aload_n 0, 1) := by decide +kernel
theorem dX10_massIn_6 : decode cX10_massIn 6 = .ok (.getfield 86, 3) := by decide +kernel
theorem dX10_massIn_9 : decode cX10_massIn 9 = .ok (.if_icmp .ge 31, 3) := by decide +kernel
theorem dX10_massIn_12 : decode cX10_massIn 12 = .ok (.iload_n 2, 1) := by decide +kernel
theorem dX10_massIn_13 : decode cX10_massIn 13 = .ok (.aload_n 0, 1) := by decide +kernel
theorem dX10_massIn_14 : decode cX10_massIn 14 = .ok (.getfield 22, 3) := by decide +kernel
theorem dX10_massIn_17 : decode cX10_massIn 17 = .ok (.iload_n 3, 1) := by decide +kernel
theorem dX10_massIn_18 : decode cX10_massIn 18 = .ok (.iaload, 1) := by decide +kernel
theorem dX10_massIn_19 : decode cX10_massIn 19 = .ok (.iload_n 1, 1) := by decide +kernel
theorem dX10_massIn_20 : decode cX10_massIn 20 = .ok (.if_icmp .ne 11, 3) := by decide +kernel
theorem dX10_massIn_23 : decode cX10_massIn 23 = .ok (.aload_n 0, 1) := by decide +kernel
theorem dX10_massIn_24 : decode cX10_massIn 24 = .ok (.iload_n 3, 1) := by decide +kernel
theorem dX10_massIn_25 : decode cX10_massIn 25 = .ok (.invokevirtual 103, 3) := by decide +kernel
theorem dX10_massIn_28 : decode cX10_massIn 28 = .ok (.goto 4, 3) := by decide +kernel
theorem dX10_massIn_31 : decode cX10_massIn 31 = .ok (.iconst 0, 1) := by decide +kernel
theorem dX10_massIn_32 : decode cX10_massIn 32 = .ok (.iadd, 1) := by decide +kernel
theorem dX10_massIn_33 : decode cX10_massIn 33 = .ok (.istore_n 2, 1) := by decide +kernel
theorem dX10_massIn_34 : decode cX10_massIn 34 = .ok (.iinc 3 1, 3) := by decide +kernel
theorem dX10_massIn_37 : decode cX10_massIn 37 = .ok (.goto (-33), 3) := by decide +kernel
theorem dX10_massIn_40 : decode cX10_massIn 40 = .ok (.iload_n 2, 1) := by decide +kernel
theorem dX10_massIn_41 : decode cX10_massIn 41 = .ok (.ireturn, 1) := by decide +kernel
theorem dX10_reckons_0 : decode cX10_reckons 0 = .ok (.iconst 0, 1) := by decide +kernel
theorem dX10_reckons_1 : decode cX10_reckons 1 = .ok (.istore_n 1, 1) := by decide +kernel
theorem dX10_reckons_2 : decode cX10_reckons 2 = .ok (.iload_n 1, 1) := by decide +kernel
theorem dX10_reckons_3 : decode cX10_reckons 3 = .ok (.iconst 3, 1) := by decide +kernel
theorem dX10_reckons_4 : decode cX10_reckons 4 = .ok (.if_icmp .ge 107, 3) := by decide +kernel
theorem dX10_reckons_7 : decode cX10_reckons 7 = .ok (.aload_n 0, 1) := by decide +kernel
theorem dX10_reckons_8 : decode cX10_reckons 8 = .ok (.getfield 7, 3) := by decide +kernel
theorem dX10_reckons_11 : decode cX10_reckons 11 = .ok (.iload_n 1, 1) := by decide +kernel
theorem dX10_reckons_12 : decode cX10_reckons 12 = .ok (.iaload, 1) := by decide +kernel
theorem dX10_reckons_13 : decode cX10_reckons 13 = .ok (.istore_n 2, 1) := by decide +kernel
theorem dX10_reckons_14 : decode cX10_reckons 14 = .ok (.iload_n 2, 1) := by decide +kernel
theorem dX10_reckons_15 : decode cX10_reckons 15 = .ok (.aload_n 0, 1) := by decide +kernel
theorem dX10_reckons_16 : decode cX10_reckons 16 = .ok (.getfield 13, 3) := by decide +kernel
theorem dX10_reckons_19 : decode cX10_reckons 19 = .ok (.iload_n 1, 1) := by decide +kernel
theorem dX10_reckons_20 : decode cX10_reckons 20 = .ok (.iaload, 1) := by decide +kernel
theorem dX10_reckons_21 : decode cX10_reckons 21 = .ok (.iload_n 2, 1) := by decide +kernel
theorem dX10_reckons_22 : decode cX10_reckons 22 = .ok (.invokestatic 106, 3) := by decide +kernel
theorem dX10_reckons_25 : decode cX10_reckons 25 = .ok (.bipush 10, 2) := by decide +kernel
theorem dX10_reckons_27 : decode cX10_reckons 27 = .ok (.imul, 1) := by decide +kernel
theorem dX10_reckons_28 : decode cX10_reckons 28 = .ok (.bipush 10, 2) := by decide +kernel
theorem dX10_reckons_30 : decode cX10_reckons 30 = .ok (.aload_n 0, 1) := by decide +kernel
theorem dX10_reckons_31 : decode cX10_reckons 31 = .ok (.iload_n 1, 1) := by decide +kernel
theorem dX10_reckons_32 : decode cX10_reckons 32 = .ok (.invokevirtual 109, 3) := by decide +kernel
theorem dX10_reckons_35 : decode cX10_reckons 35 = .ok (.iadd, 1) := by decide +kernel
theorem dX10_reckons_36 : decode cX10_reckons 36 = .ok (.idiv, 1) := by decide +kernel
theorem dX10_reckons_37 : decode cX10_reckons 37 = .ok (.iadd, 1) := by decide +kernel
theorem dX10_reckons_38 : decode cX10_reckons 38 = .ok (.iload_n 2, 1) := by decide +kernel
theorem dX10_reckons_39 : decode cX10_reckons 39 = .ok (.bipush 20, 2) := by decide +kernel
theorem dX10_reckons_41 : decode cX10_reckons 41 = .ok (.isub, 1) := by decide +kernel
theorem dX10_reckons_42 : decode cX10_reckons 42 = .ok (.bipush 40, 2) := by decide +kernel
theorem dX10_reckons_44 : decode cX10_reckons 44 = .ok (.idiv, 1) := by decide +kernel
theorem dX10_reckons_45 : decode cX10_reckons 45 = .ok (.isub, 1) := by decide +kernel
theorem dX10_reckons_46 : decode cX10_reckons 46 = .ok (.istore_n 3, 1) := by decide +kernel
theorem dX10_reckons_47 : decode cX10_reckons 47 = .ok (.iload_n 1, 1) := by decide +kernel
theorem dX10_reckons_48 : decode cX10_reckons 48 = .ok (.ifCond .le 19, 3) := by decide +kernel
theorem dX10_reckons_51 : decode cX10_reckons 51 = .ok (.iload_n 3, 1) := by decide +kernel
theorem dX10_reckons_52 : decode cX10_reckons 52 = .ok (.aload_n 0, 1) := by decide +kernel
theorem dX10_reckons_53 : decode cX10_reckons 53 = .ok (.getfield 7, 3) := by decide +kernel
theorem dX10_reckons_56 : decode cX10_reckons 56 = .ok (.iload_n 1, 1) := by decide +kernel
theorem dX10_reckons_57 : decode cX10_reckons 57 = .ok (.iconst 1, 1) := by decide +kernel
theorem dX10_reckons_58 : decode cX10_reckons 58 = .ok (.isub, 1) := by decide +kernel
theorem dX10_reckons_59 : decode cX10_reckons 59 = .ok (.iaload, 1) := by decide +kernel
theorem dX10_reckons_60 : decode cX10_reckons 60 = .ok (.iload_n 2, 1) := by decide +kernel
theorem dX10_reckons_61 : decode cX10_reckons 61 = .ok (.isub, 1) := by decide +kernel
theorem dX10_reckons_62 : decode cX10_reckons 62 = .ok (.bipush 8, 2) := by decide +kernel
theorem dX10_reckons_64 : decode cX10_reckons 64 = .ok (.idiv, 1) := by decide +kernel
theorem dX10_reckons_65 : decode cX10_reckons 65 = .ok (.iadd, 1) := by decide +kernel
theorem dX10_reckons_66 : decode cX10_reckons 66 = .ok (.istore_n 3, 1) := by decide +kernel
theorem dX10_reckons_67 : decode cX10_reckons 67 = .ok (.iload_n 1, 1) := by decide +kernel
theorem dX10_reckons_68 : decode cX10_reckons 68 = .ok (.iconst 2, 1) := by decide +kernel
theorem dX10_reckons_69 : decode cX10_reckons 69 = .ok (.if_icmp .ge 19, 3) := by decide +kernel
theorem dX10_reckons_72 : decode cX10_reckons 72 = .ok (.iload_n 3, 1) := by decide +kernel
theorem dX10_reckons_73 : decode cX10_reckons 73 = .ok (.aload_n 0, 1) := by decide +kernel
theorem dX10_reckons_74 : decode cX10_reckons 74 = .ok (.getfield 7, 3) := by decide +kernel
theorem dX10_reckons_77 : decode cX10_reckons 77 = .ok (.iload_n 1, 1) := by decide +kernel
theorem dX10_reckons_78 : decode cX10_reckons 78 = .ok (.iconst 1, 1) := by decide +kernel
theorem dX10_reckons_79 : decode cX10_reckons 79 = .ok (.iadd, 1) := by decide +kernel
theorem dX10_reckons_80 : decode cX10_reckons 80 = .ok (.iaload, 1) := by decide +kernel
theorem dX10_reckons_81 : decode cX10_reckons 81 = .ok (.iload_n 2, 1) := by decide +kernel
theorem dX10_reckons_82 : decode cX10_reckons 82 = .ok (.isub, 1) := by decide +kernel
theorem dX10_reckons_83 : decode cX10_reckons 83 = .ok (.bipush 8, 2) := by decide +kernel
theorem dX10_reckons_85 : decode cX10_reckons 85 = .ok (.idiv, 1) := by decide +kernel
theorem dX10_reckons_86 : decode cX10_reckons 86 = .ok (.iadd, 1) := by decide +kernel
theorem dX10_reckons_87 : decode cX10_reckons 87 = .ok (.istore_n 3, 1) := by decide +kernel
theorem dX10_reckons_88 : decode cX10_reckons 88 = .ok (.aload_n 0, 1) := by decide +kernel
theorem dX10_reckons_89 : decode cX10_reckons 89 = .ok (.getfield 55, 3) := by decide +kernel
theorem dX10_reckons_92 : decode cX10_reckons 92 = .ok (.iload_n 1, 1) := by decide +kernel
theorem dX10_reckons_93 : decode cX10_reckons 93 = .ok (.iconst 0, 1) := by decide +kernel
theorem dX10_reckons_94 : decode cX10_reckons 94 = .ok (.sipush 1300, 3) := by decide +kernel
theorem dX10_reckons_97 : decode cX10_reckons 97 = .ok (.iload_n 3, 1) := by decide +kernel
theorem dX10_reckons_98 : decode cX10_reckons 98 = .ok (.invokestatic 112, 3) := by decide +kernel
theorem dX10_reckons_101 : decode cX10_reckons 101 = .ok (.invokestatic 90, 3) := by decide +kernel
theorem dX10_reckons_104 : decode cX10_reckons 104 = .ok (.iastore, 1) := by decide +kernel
theorem dX10_reckons_105 : decode cX10_reckons 105 = .ok (.iinc 1 1, 3) := by decide +kernel
theorem dX10_reckons_108 : decode cX10_reckons 108 = .ok (.goto (-106), 3) := by decide +kernel
theorem dX10_reckons_111 : decode cX10_reckons 111 = .ok (.return_, 1) := by decide +kernel
theorem dX10_isSpoiled_0 : decode cX10_isSpoiled 0 = .ok (.aload_n 0, 1) := by decide +kernel
theorem dX10_isSpoiled_1 : decode cX10_isSpoiled 1 = .ok (.getfield 28, 3) := by decide +kernel
theorem dX10_isSpoiled_4 : decode cX10_isSpoiled 4 = .ok (.iload_n 1, 1) := by decide +kernel
theorem dX10_isSpoiled_5 : decode cX10_isSpoiled 5 = .ok (.iaload, 1) := by decide +kernel
theorem dX10_isSpoiled_6 : decode cX10_isSpoiled 6 = .ok (.iconst 2, 1) := by decide +kernel
theorem dX10_isSpoiled_7 : decode cX10_isSpoiled 7 = .ok (.if_icmp .lt 7, 3) := by decide +kernel
theorem dX10_isSpoiled_10 : decode cX10_isSpoiled 10 = .ok (.iconst 1, 1) := by decide +kernel
theorem dX10_isSpoiled_11 : decode cX10_isSpoiled 11 = .ok (.goto 4, 3) := by decide +kernel
theorem dX10_isSpoiled_14 : decode cX10_isSpoiled 14 = .ok (.iconst 0, 1) := by decide +kernel
theorem dX10_isSpoiled_15 : decode cX10_isSpoiled 15 = .ok (.ireturn, 1) := by decide +kernel
theorem dX10_harm_0 : decode cX10_harm 0 = .ok (.aload_n 0, 1) := by decide +kernel
theorem dX10_harm_1 : decode cX10_harm 1 = .ok (.getfield 7, 3) := by decide +kernel
theorem dX10_harm_4 : decode cX10_harm 4 = .ok (.aload_n 0, 1) := by decide +kernel
theorem dX10_harm_5 : decode cX10_harm 5 = .ok (.getfield 22, 3) := by decide +kernel
theorem dX10_harm_8 : decode cX10_harm 8 = .ok (.iload_n 1, 1) := by decide +kernel
theorem dX10_harm_9 : decode cX10_harm 9 = .ok (.iaload, 1) := by decide +kernel
theorem dX10_harm_10 : decode cX10_harm 10 = .ok (.iaload, 1) := by decide +kernel
theorem dX10_harm_11 : decode cX10_harm 11 = .ok (.istore_n 2, 1) := by decide +kernel
theorem dX10_harm_12 : decode cX10_harm 12 = .ok (.aload_n 0, 1) := by decide +kernel
theorem dX10_harm_13 : decode cX10_harm 13 = .ok (.getfield 55, 3) := by decide +kernel
theorem dX10_harm_16 : decode cX10_harm 16 = .ok (.aload_n 0, 1) := by decide +kernel
theorem dX10_harm_17 : decode cX10_harm 17 = .ok (.getfield 22, 3) := by decide +kernel
theorem dX10_harm_20 : decode cX10_harm 20 = .ok (.iload_n 1, 1) := by decide +kernel
theorem dX10_harm_21 : decode cX10_harm 21 = .ok (.iaload, 1) := by decide +kernel
theorem dX10_harm_22 : decode cX10_harm 22 = .ok (.iaload, 1) := by decide +kernel
theorem dX10_harm_23 : decode cX10_harm 23 = .ok (.istore_n 3, 1) := by decide +kernel
theorem dX10_harm_24 : decode cX10_harm 24 = .ok (.iload_n 3, 1) := by decide +kernel
theorem dX10_harm_25 : decode cX10_harm 25 = .ok (.iload_n 2, 1) := by decide +kernel
theorem dX10_harm_26 : decode cX10_harm 26 = .ok (.isub, 1) := by decide +kernel
theorem dX10_harm_27 : decode cX10_harm 27 = .ok (.aload_n 0, 1) := by decide +kernel
theorem dX10_harm_28 : decode cX10_harm 28 = .ok (.iload_n 1, 1) := by decide +kernel
theorem dX10_harm_29 : decode cX10_harm 29 = .ok (.iload_n 2, 1) := by decide +kernel
theorem dX10_harm_30 : decode cX10_harm 30 = .ok (.invokevirtual 115, 3) := by decide +kernel
theorem dX10_harm_33 : decode cX10_harm 33 = .ok (.if_icmp .gt 14, 3) := by decide +kernel
theorem dX10_harm_36 : decode cX10_harm 36 = .ok (.iload_n 2, 1) := by decide +kernel
theorem dX10_harm_37 : decode cX10_harm 37 = .ok (.iload_n 3, 1) := by decide +kernel
theorem dX10_harm_38 : decode cX10_harm 38 = .ok (.isub, 1) := by decide +kernel
theorem dX10_harm_39 : decode cX10_harm 39 = .ok (.aload_n 0, 1) := by decide +kernel
theorem dX10_harm_40 : decode cX10_harm 40 = .ok (.iload_n 1, 1) := by decide +kernel
theorem dX10_harm_41 : decode cX10_harm 41 = .ok (.invokevirtual 118, 3) := by decide +kernel
theorem dX10_harm_44 : decode cX10_harm 44 = .ok (.if_icmp .le 5, 3) := by decide +kernel
theorem dX10_harm_47 : decode cX10_harm 47 = .ok (.iconst 2, 1) := by decide +kernel
theorem dX10_harm_48 : decode cX10_harm 48 = .ok (.ireturn, 1) := by decide +kernel
theorem dX10_harm_49 : decode cX10_harm 49 = .ok (.iload_n 3, 1) := by decide +kernel
theorem dX10_harm_50 : decode cX10_harm 50 = .ok (.aload_n 0, 1) := by decide +kernel
theorem dX10_harm_51 : decode cX10_harm 51 = .ok (.iload_n 1, 1) := by decide +kernel
theorem dX10_harm_52 : decode cX10_harm 52 = .ok (.invokevirtual 121, 3) := by decide +kernel
theorem dX10_harm_55 : decode cX10_harm 55 = .ok (.if_icmp .le 7, 3) := by decide +kernel
theorem dX10_harm_58 : decode cX10_harm 58 = .ok (.iconst 3, 1) := by decide +kernel
theorem dX10_harm_59 : decode cX10_harm 59 = .ok (.goto 4, 3) := by decide +kernel
theorem dX10_harm_62 : decode cX10_harm 62 = .ok (.iconst 0, 1) := by decide +kernel
theorem dX10_harm_63 : decode cX10_harm 63 = .ok (.ireturn, 1) := by decide +kernel
theorem dX10_troubles_0 : decode cX10_troubles 0 = .ok (.aload_n 0, 1) := by decide +kernel
theorem dX10_troubles_1 : decode cX10_troubles 1 = .ok (.invokevirtual 124, 3) := by decide +kernel
theorem dX10_troubles_4 : decode cX10_troubles 4 = .ok (.iconst 0, 1) := by decide +kernel
theorem dX10_troubles_5 : decode cX10_troubles 5 = .ok (.istore_n 1, 1) := by decide +kernel
theorem dX10_troubles_6 : decode cX10_troubles 6 = .ok (.iconst 0, 1) := by decide +kernel
theorem dX10_troubles_7 : decode cX10_troubles 7 = .ok (.istore_n 2, 1) := by decide +kernel
theorem dX10_troubles_8 : decode cX10_troubles 8 = .ok (.iload_n 2, 1) := by decide +kernel
theorem dX10_troubles_9 : decode cX10_troubles 9 = .ok (.aload_n 0, 1) := by decide +kernel
theorem dX10_troubles_10 : decode cX10_troubles 10 = .ok (.getfield 86, 3) := by decide +kernel
theorem dX10_troubles_13 : decode cX10_troubles 13 = .ok (.if_icmp .ge 35, 3) := by decide +kernel
theorem dX10_troubles_16 : decode cX10_troubles 16 = .ok (.iload_n 1, 1) := by decide +kernel
theorem dX10_troubles_17 : decode cX10_troubles 17 = .ok (.aload_n 0, 1) := by decide +kernel
theorem dX10_troubles_18 : decode cX10_troubles 18 = .ok (.iload_n 2, 1) := by decide +kernel
theorem dX10_troubles_19 : decode cX10_troubles 19 = .ok (.invokevirtual 127, 3) := by decide +kernel
theorem dX10_troubles_22 : decode cX10_troubles 22 = .ok (.ifCond .ne 17, 3) := by decide +kernel
theorem dX10_troubles_25 : decode cX10_troubles 25 = .ok (.aload_n 0, 1) := by decide +kernel
theorem dX10_troubles_26 : decode cX10_troubles 26 = .ok (.iload_n 2, 1) := by decide +kernel
theorem dX10_troubles_27 : decode cX10_troubles 27 = .ok (.invokevirtual 131, 3) := by decide +kernel
theorem dX10_troubles_30 : decode cX10_troubles 30 = .ok (.ifCond .le 9, 3) := by decide +kernel
theorem dX10_troubles_33 : decode cX10_troubles 33 = .ok (.iconst 1, 1) := by decide +kernel
theorem dX10_troubles_34 : decode cX10_troubles 34 = .ok (.iload_n 2, 1) := by decide +kernel
theorem dX10_troubles_35 : decode cX10_troubles 35 = .ok (.ishl, 1) := by decide +kernel
theorem dX10_troubles_36 : decode cX10_troubles 36 = .ok (.goto 4, 3) := by decide +kernel
theorem dX10_troubles_39 : decode cX10_troubles 39 = .ok (.iconst 0, 1) := by decide +kernel
theorem dX10_troubles_40 : decode cX10_troubles 40 = .ok (.ior, 1) := by decide +kernel
theorem dX10_troubles_41 : decode cX10_troubles 41 = .ok (.istore_n 1, 1) := by decide +kernel
theorem dX10_troubles_42 : decode cX10_troubles 42 = .ok (.iinc 2 1, 3) := by decide +kernel
theorem dX10_troubles_45 : decode cX10_troubles 45 = .ok (.goto (-37), 3) := by decide +kernel
theorem dX10_troubles_48 : decode cX10_troubles 48 = .ok (.iload_n 1, 1) := by decide +kernel
theorem dX10_troubles_49 : decode cX10_troubles 49 = .ok (.ireturn, 1) := by decide +kernel
theorem dX10_goes_0 : decode cX10_goes 0 = .ok (.aload_n 0, 1) := by decide +kernel
theorem dX10_goes_1 : decode cX10_goes 1 = .ok (.invokevirtual 124, 3) := by decide +kernel
theorem dX10_goes_4 : decode cX10_goes 4 = .ok (.iconst 0, 1) := by decide +kernel
theorem dX10_goes_5 : decode cX10_goes 5 = .ok (.istore_n 1, 1) := by decide +kernel
theorem dX10_goes_6 : decode cX10_goes 6 = .ok (.iconst 0, 1) := by decide +kernel
theorem dX10_goes_7 : decode cX10_goes 7 = .ok (.istore_n 2, 1) := by decide +kernel
theorem dX10_goes_8 : decode cX10_goes 8 = .ok (.iload_n 2, 1) := by decide +kernel
theorem dX10_goes_9 : decode cX10_goes 9 = .ok (.aload_n 0, 1) := by decide +kernel
theorem dX10_goes_10 : decode cX10_goes 10 = .ok (.getfield 86, 3) := by decide +kernel
theorem dX10_goes_13 : decode cX10_goes 13 = .ok (.if_icmp .ge 114, 3) := by decide +kernel
theorem dX10_goes_16 : decode cX10_goes 16 = .ok (.aload_n 0, 1) := by decide +kernel
theorem dX10_goes_17 : decode cX10_goes 17 = .ok (.iload_n 2, 1) := by decide +kernel
theorem dX10_goes_18 : decode cX10_goes 18 = .ok (.invokevirtual 127, 3) := by decide +kernel
theorem dX10_goes_21 : decode cX10_goes 21 = .ok (.ifCond .eq 6, 3) := by decide +kernel
theorem dX10_goes_24 : decode cX10_goes 24 = .ok (.goto 97, 3) := by decide +kernel
theorem dX10_goes_27 : decode cX10_goes 27 = .ok (.aload_n 0, 1) := by decide +kernel
theorem dX10_goes_28 : decode cX10_goes 28 = .ok (.iload_n 2, 1) := by decide +kernel
theorem dX10_goes_29 : decode cX10_goes 29 = .ok (.invokevirtual 131, 3) := by decide +kernel
theorem dX10_goes_32 : decode cX10_goes 32 = .ok (.istore_n 3, 1) := by decide +kernel
theorem dX10_goes_33 : decode cX10_goes 33 = .ok (.iload_n 3, 1) := by decide +kernel
theorem dX10_goes_34 : decode cX10_goes 34 = .ok (.ifCond .le 19, 3) := by decide +kernel
theorem dX10_goes_37 : decode cX10_goes 37 = .ok (.aload_n 0, 1) := by decide +kernel
theorem dX10_goes_38 : decode cX10_goes 38 = .ok (.getfield 28, 3) := by decide +kernel
theorem dX10_goes_41 : decode cX10_goes 41 = .ok (.iload_n 2, 1) := by decide +kernel
theorem dX10_goes_42 : decode cX10_goes 42 = .ok (.iload_n 3, 1) := by decide +kernel
theorem dX10_goes_43 : decode cX10_goes 43 = .ok (.iastore, 1) := by decide +kernel
theorem dX10_goes_44 : decode cX10_goes 44 = .ok (.iload_n 1, 1) := by decide +kernel
theorem dX10_goes_45 : decode cX10_goes 45 = .ok (.iconst 1, 1) := by decide +kernel
theorem dX10_goes_46 : decode cX10_goes 46 = .ok (.iload_n 2, 1) := by decide +kernel
theorem dX10_goes_47 : decode cX10_goes 47 = .ok (.ishl, 1) := by decide +kernel
theorem dX10_goes_48 : decode cX10_goes 48 = .ok (.ior, 1) := by decide +kernel
theorem dX10_goes_49 : decode cX10_goes 49 = .ok (.istore_n 1, 1) := by decide +kernel
theorem dX10_goes_50 : decode cX10_goes 50 = .ok (.goto 71, 3) := by decide +kernel
theorem dX10_goes_53 : decode cX10_goes 53 = .ok (.aload_n 0, 1) := by decide +kernel
theorem dX10_goes_54 : decode cX10_goes 54 = .ok (.getfield 55, 3) := by decide +kernel
theorem dX10_goes_57 : decode cX10_goes 57 = .ok (.aload_n 0, 1) := by decide +kernel
theorem dX10_goes_58 : decode cX10_goes 58 = .ok (.getfield 22, 3) := by decide +kernel
theorem dX10_goes_61 : decode cX10_goes 61 = .ok (.iload_n 2, 1) := by decide +kernel
theorem dX10_goes_62 : decode cX10_goes 62 = .ok (.iaload, 1) := by decide +kernel
theorem dX10_goes_63 : decode cX10_goes 63 = .ok (.iaload, 1) := by decide +kernel
theorem dX10_goes_64 : decode cX10_goes 64 = .ok (.aload_n 0, 1) := by decide +kernel
theorem dX10_goes_65 : decode cX10_goes 65 = .ok (.iload_n 2, 1) := by decide +kernel
theorem dX10_goes_66 : decode cX10_goes 66 = .ok (.invokevirtual 100, 3) := by decide +kernel
theorem dX10_goes_69 : decode cX10_goes 69 = .ok (.if_icmp .lt 52, 3) := by decide +kernel
theorem dX10_goes_72 : decode cX10_goes 72 = .ok (.aload_n 0, 1) := by decide +kernel
theorem dX10_goes_73 : decode cX10_goes 73 = .ok (.getfield 25, 3) := by decide +kernel
theorem dX10_goes_76 : decode cX10_goes 76 = .ok (.iload_n 2, 1) := by decide +kernel
theorem dX10_goes_77 : decode cX10_goes 77 = .ok (.bipush 99, 2) := by decide +kernel
theorem dX10_goes_79 : decode cX10_goes 79 = .ok (.aload_n 0, 1) := by decide +kernel
theorem dX10_goes_80 : decode cX10_goes 80 = .ok (.getfield 25, 3) := by decide +kernel
theorem dX10_goes_83 : decode cX10_goes 83 = .ok (.iload_n 2, 1) := by decide +kernel
theorem dX10_goes_84 : decode cX10_goes 84 = .ok (.iaload, 1) := by decide +kernel
theorem dX10_goes_85 : decode cX10_goes 85 = .ok (.iconst 1, 1) := by decide +kernel
theorem dX10_goes_86 : decode cX10_goes 86 = .ok (.iadd, 1) := by decide +kernel
theorem dX10_goes_87 : decode cX10_goes 87 = .ok (.invokestatic 112, 3) := by decide +kernel
theorem dX10_goes_90 : decode cX10_goes 90 = .ok (.iastore, 1) := by decide +kernel
theorem dX10_goes_91 : decode cX10_goes 91 = .ok (.aload_n 0, 1) := by decide +kernel
theorem dX10_goes_92 : decode cX10_goes 92 = .ok (.getfield 28, 3) := by decide +kernel
theorem dX10_goes_95 : decode cX10_goes 95 = .ok (.iload_n 2, 1) := by decide +kernel
theorem dX10_goes_96 : decode cX10_goes 96 = .ok (.aload_n 0, 1) := by decide +kernel
theorem dX10_goes_97 : decode cX10_goes 97 = .ok (.getfield 25, 3) := by decide +kernel
theorem dX10_goes_100 : decode cX10_goes 100 = .ok (.iload_n 2, 1) := by decide +kernel
theorem dX10_goes_101 : decode cX10_goes 101 = .ok (.iaload, 1) := by decide +kernel
theorem dX10_goes_102 : decode cX10_goes 102 = .ok (.aload_n 0, 1) := by decide +kernel
theorem dX10_goes_103 : decode cX10_goes 103 = .ok (.iload_n 2, 1) := by decide +kernel
theorem dX10_goes_104 : decode cX10_goes 104 = .ok (.invokevirtual 134, 3) := by decide +kernel
theorem dX10_goes_107 : decode cX10_goes 107 = .ok (.if_icmp .lt 7, 3) := by decide +kernel
theorem dX10_goes_110 : decode cX10_goes 110 = .ok (.iconst 1, 1) := by decide +kernel
theorem dX10_goes_111 : decode cX10_goes 111 = .ok (.goto 9, 3) := by decide +kernel
theorem dX10_goes_114 : decode cX10_goes 114 = .ok (.aload_n 0, 1) := by decide +kernel
theorem dX10_goes_115 : decode cX10_goes 115 = .ok (.getfield 28, 3) := by decide +kernel
theorem dX10_goes_118 : decode cX10_goes 118 = .ok (.iload_n 2, 1) := by decide +kernel
theorem dX10_goes_119 : decode cX10_goes 119 = .ok (.iaload, 1) := by decide +kernel
theorem dX10_goes_120 : decode cX10_goes 120 = .ok (.iastore, 1) := by decide +kernel
theorem dX10_goes_121 : decode cX10_goes 121 = .ok (.iinc 2 1, 3) := by decide +kernel
theorem dX10_goes_124 : decode cX10_goes 124 = .ok (.goto (-116), 3) := by decide +kernel
theorem dX10_goes_127 : decode cX10_goes 127 = .ok (.iconst 0, 1) := by decide +kernel
theorem dX10_goes_128 : decode cX10_goes 128 = .ok (.istore_n 2, 1) := by decide +kernel
theorem dX10_goes_129 : decode cX10_goes 129 = .ok (.iload_n 2, 1) := by decide +kernel
theorem dX10_goes_130 : decode cX10_goes 130 = .ok (.iconst 3, 1) := by decide +kernel
theorem dX10_goes_131 : decode cX10_goes 131 = .ok (.if_icmp .ge 21, 3) := by decide +kernel
theorem dX10_goes_134 : decode cX10_goes 134 = .ok (.aload_n 0, 1) := by decide +kernel
theorem dX10_goes_135 : decode cX10_goes 135 = .ok (.getfield 7, 3) := by decide +kernel
theorem dX10_goes_138 : decode cX10_goes 138 = .ok (.iload_n 2, 1) := by decide +kernel
theorem dX10_goes_139 : decode cX10_goes 139 = .ok (.aload_n 0, 1) := by decide +kernel
theorem dX10_goes_140 : decode cX10_goes 140 = .ok (.getfield 55, 3) := by decide +kernel
theorem dX10_goes_143 : decode cX10_goes 143 = .ok (.iload_n 2, 1) := by decide +kernel
theorem dX10_goes_144 : decode cX10_goes 144 = .ok (.iaload, 1) := by decide +kernel
theorem dX10_goes_145 : decode cX10_goes 145 = .ok (.iastore, 1) := by decide +kernel
theorem dX10_goes_146 : decode cX10_goes 146 = .ok (.iinc 2 1, 3) := by decide +kernel
theorem dX10_goes_149 : decode cX10_goes 149 = .ok (.goto (-20), 3) := by decide +kernel
theorem dX10_goes_152 : decode cX10_goes 152 = .ok (.aload_n 0, 1) := by decide +kernel
theorem dX10_goes_153 : decode cX10_goes 153 = .ok (.dup, 1) := by decide +kernel
theorem dX10_goes_154 : decode cX10_goes 154 = .ok (.getfield 137, 3) := by decide +kernel
theorem dX10_goes_157 : decode cX10_goes 157 = .ok (.aload_n 0, 1) := by decide +kernel
theorem dX10_goes_158 : decode cX10_goes 158 = .ok (.invokevirtual 140, 3) := by decide +kernel
theorem dX10_goes_161 : decode cX10_goes 161 = .ok (.iadd, 1) := by decide +kernel
theorem dX10_goes_162 : decode cX10_goes 162 = .ok (.putfield 137, 3) := by decide +kernel
theorem dX10_goes_165 : decode cX10_goes 165 = .ok (.aload_n 0, 1) := by decide +kernel
theorem dX10_goes_166 : decode cX10_goes 166 = .ok (.dup, 1) := by decide +kernel
theorem dX10_goes_167 : decode cX10_goes 167 = .ok (.getfield 144, 3) := by decide +kernel
theorem dX10_goes_170 : decode cX10_goes 170 = .ok (.iconst 1, 1) := by decide +kernel
theorem dX10_goes_171 : decode cX10_goes 171 = .ok (.iadd, 1) := by decide +kernel
theorem dX10_goes_172 : decode cX10_goes 172 = .ok (.putfield 144, 3) := by decide +kernel
theorem dX10_goes_175 : decode cX10_goes 175 = .ok (.iload_n 1, 1) := by decide +kernel
theorem dX10_goes_176 : decode cX10_goes 176 = .ok (.ireturn, 1) := by decide +kernel
theorem dX10_doneBits_0 : decode cX10_doneBits 0 = .ok (.iconst 0, 1) := by decide +kernel
theorem dX10_doneBits_1 : decode cX10_doneBits 1 = .ok (.istore_n 1, 1) := by decide +kernel
theorem dX10_doneBits_2 : decode cX10_doneBits 2 = .ok (.iconst 0, 1) := by decide +kernel
theorem dX10_doneBits_3 : decode cX10_doneBits 3 = .ok (.istore_n 2, 1) := by decide +kernel
theorem dX10_doneBits_4 : decode cX10_doneBits 4 = .ok (.iload_n 2, 1) := by decide +kernel
theorem dX10_doneBits_5 : decode cX10_doneBits 5 = .ok (.aload_n 0, 1) := by decide +kernel
theorem dX10_doneBits_6 : decode cX10_doneBits 6 = .ok (.getfield 86, 3) := by decide +kernel
theorem dX10_doneBits_9 : decode cX10_doneBits 9 = .ok (.if_icmp .ge 29, 3) := by decide +kernel
theorem dX10_doneBits_12 : decode cX10_doneBits 12 = .ok (.iload_n 1, 1) := by decide +kernel
theorem dX10_doneBits_13 : decode cX10_doneBits 13 = .ok (.aload_n 0, 1) := by decide +kernel
theorem dX10_doneBits_14 : decode cX10_doneBits 14 = .ok (.getfield 28, 3) := by decide +kernel
theorem dX10_doneBits_17 : decode cX10_doneBits 17 = .ok (.iload_n 2, 1) := by decide +kernel
theorem dX10_doneBits_18 : decode cX10_doneBits 18 = .ok (.iaload, 1) := by decide +kernel
theorem dX10_doneBits_19 : decode cX10_doneBits 19 = .ok (.iconst 1, 1) := by decide +kernel
theorem dX10_doneBits_20 : decode cX10_doneBits 20 = .ok (.if_icmp .ne 9, 3) := by decide +kernel
theorem dX10_doneBits_23 : decode cX10_doneBits 23 = .ok (.iconst 1, 1) := by decide +kernel
theorem dX10_doneBits_24 : decode cX10_doneBits 24 = .ok (.iload_n 2, 1) := by decide +kernel
theorem dX10_doneBits_25 : decode cX10_doneBits 25 = .ok (.ishl, 1) := by decide +kernel
theorem dX10_doneBits_26 : decode cX10_doneBits 26 = .ok (.goto 4, 3) := by decide +kernel
theorem dX10_doneBits_29 : decode cX10_doneBits 29 = .ok (.iconst 0, 1) := by decide +kernel
theorem dX10_doneBits_30 : decode cX10_doneBits 30 = .ok (.ior, 1) := by decide +kernel
