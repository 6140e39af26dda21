theorem dX13_highFloor_0 : decode cX13_highFloor 0 = .ok (.aload_n 0, 1) := by decide +kernel
theorem dX13_highFloor_1 : decode cX13_highFloor 1 = .ok (.getfield 31, 3) := by decide +kernel
theorem dX13_highFloor_4 : decode cX13_highFloor 4 = .ok (.iload_n 1, 1) := by decide +kernel
theorem dX13_highFloor_5 : decode cX13_highFloor 5 = .ok (.iaload, 1) := by decide +kernel
theorem dX13_highFloor_6 : decode cX13_highFloor 6 = .ok (.istore_n 2, 1) := by decide +kernel
theorem dX13_highFloor_7 : decode cX13_highFloor 7 = .ok (.iconst 0, 1) := by decide +kernel
theorem dX13_highFloor_8 : decode cX13_highFloor 8 = .ok (.istore_n 3, 1) := by decide +kernel
theorem dX13_highFloor_9 : decode cX13_highFloor 9 = .ok (.iload_n 3, 1) := by decide +kernel
theorem dX13_highFloor_10 : decode cX13_highFloor 10 = .ok (.aload_n 0, 1) := by decide +kernel
theorem dX13_highFloor_11 : decode cX13_highFloor 11 = .ok (.getfield 56, 3) := by decide +kernel
theorem dX13_highFloor_14 : decode cX13_highFloor 14 = .ok (.if_icmp .ge 44, 3) := by decide +kernel
theorem dX13_highFloor_17 : decode cX13_highFloor 17 = .ok (.aload_n 0, 1) := by decide +kernel
theorem dX13_highFloor_18 : decode cX13_highFloor 18 = .ok (.getfield 27, 3) := by decide +kernel
theorem dX13_highFloor_21 : decode cX13_highFloor 21 = .ok (.bipush 32, 2) := by decide +kernel
theorem dX13_highFloor_23 : decode cX13_highFloor 23 = .ok (.iload_n 1, 1) := by decide +kernel
theorem dX13_highFloor_24 : decode cX13_highFloor 24 = .ok (.imul, 1) := by decide +kernel
theorem dX13_highFloor_25 : decode cX13_highFloor 25 = .ok (.iload_n 3, 1) := by decide +kernel
theorem dX13_highFloor_26 : decode cX13_highFloor 26 = .ok (.iadd, 1) := by decide +kernel
theorem dX13_highFloor_27 : decode cX13_highFloor 27 = .ok (.baload, 1) := by decide +kernel
theorem dX13_highFloor_28 : decode cX13_highFloor 28 = .ok (.ifCond .eq 22, 3) := by decide +kernel
theorem dX13_highFloor_31 : decode cX13_highFloor 31 = .ok (.aload_n 0, 1) := by decide +kernel
theorem dX13_highFloor_32 : decode cX13_highFloor 32 = .ok (.getfield 31, 3) := by decide +kernel
theorem dX13_highFloor_35 : decode cX13_highFloor 35 = .ok (.iload_n 3, 1) := by decide +kernel
theorem dX13_highFloor_36 : decode cX13_highFloor 36 = .ok (.iaload, 1) := by decide +kernel
theorem dX13_highFloor_37 : decode cX13_highFloor 37 = .ok (.iload_n 2, 1) := by decide +kernel
theorem dX13_highFloor_38 : decode cX13_highFloor 38 = .ok (.if_icmp .le 12, 3) := by decide +kernel
theorem dX13_highFloor_41 : decode cX13_highFloor 41 = .ok (.aload_n 0, 1) := by decide +kernel
theorem dX13_highFloor_42 : decode cX13_highFloor 42 = .ok (.getfield 31, 3) := by decide +kernel
theorem dX13_highFloor_45 : decode cX13_highFloor 45 = .ok (.iload_n 3, 1) := by decide +kernel
theorem dX13_highFloor_46 : decode cX13_highFloor 46 = .ok (.iaload, 1) := by decide +kernel
theorem dX13_highFloor_47 : decode cX13_highFloor 47 = .ok (.goto 4, 3) := by decide +kernel
theorem dX13_highFloor_50 : decode cX13_highFloor 50 = .ok (.iload_n 2, 1) := by decide +kernel
theorem dX13_highFloor_51 : decode cX13_highFloor 51 = .ok (.istore_n 2, 1) := by decide +kernel
theorem dX13_highFloor_52 : decode cX13_highFloor 52 = .ok (.iinc 3 1, 3) := by decide +kernel
theorem dX13_highFloor_55 : decode cX13_highFloor 55 = .ok (.goto (-46), 3) := by decide +kernel
theorem dX13_highFloor_58 : decode cX13_highFloor 58 = .ok (.iload_n 2, 1) := by decide +kernel
theorem dX13_highFloor_59 : decode cX13_highFloor 59 = .ok (.ireturn, 1) := by decide +kernel
theorem dX13_lowFloor_0 : decode cX13_lowFloor 0 = .ok (.aload_n 0, 1) := by decide +kernel
theorem dX13_lowFloor_1 : decode cX13_lowFloor 1 = .ok (.getfield 31, 3) := by decide +kernel
theorem dX13_lowFloor_4 : decode cX13_lowFloor 4 = .ok (.iload_n 1, 1) := by decide +kernel
theorem dX13_lowFloor_5 : decode cX13_lowFloor 5 = .ok (.iaload, 1) := by decide +kernel
theorem dX13_lowFloor_6 : decode cX13_lowFloor 6 = .ok (.istore_n 2, 1) := by decide +kernel
theorem dX13_lowFloor_7 : decode cX13_lowFloor 7 = .ok (.iconst 0, 1) := by decide +kernel
theorem dX13_lowFloor_8 : decode cX13_lowFloor 8 = .ok (.istore_n 3, 1) := by decide +kernel
theorem dX13_lowFloor_9 : decode cX13_lowFloor 9 = .ok (.iload_n 3, 1) := by decide +kernel
theorem dX13_lowFloor_10 : decode cX13_lowFloor 10 = .ok (.aload_n 0, 1) := by decide +kernel
theorem dX13_lowFloor_11 : decode cX13_lowFloor 11 = .ok (.getfield 56, 3) := by decide +kernel
theorem dX13_lowFloor_14 : decode cX13_lowFloor 14 = .ok (.if_icmp .ge 44, 3) := by decide +kernel
theorem dX13_lowFloor_17 : decode cX13_lowFloor 17 = .ok (.aload_n 0, 1) := by decide +kernel
theorem dX13_lowFloor_18 : decode cX13_lowFloor 18 = .ok (.getfield 27, 3) := by decide +kernel
theorem dX13_lowFloor_21 : decode cX13_lowFloor 21 = .ok (.bipush 32, 2) := by decide +kernel
theorem dX13_lowFloor_23 : decode cX13_lowFloor 23 = .ok (.iload_n 1, 1) := by decide +kernel
theorem dX13_lowFloor_24 : decode cX13_lowFloor 24 = .ok (.imul, 1) := by decide +kernel
theorem dX13_lowFloor_25 : decode cX13_lowFloor 25 = .ok (.iload_n 3, 1) := by decide +kernel
theorem dX13_lowFloor_26 : decode cX13_lowFloor 26 = .ok (.iadd, 1) := by decide +kernel
theorem dX13_lowFloor_27 : decode cX13_lowFloor 27 = .ok (.baload, 1) := by decide +kernel
theorem dX13_lowFloor_28 : decode cX13_lowFloor 28 = .ok (.ifCond .eq 22, 3) := by decide +kernel
theorem dX13_lowFloor_31 : decode cX13_lowFloor 31 = .ok (.aload_n 0, 1) := by decide +kernel
theorem dX13_lowFloor_32 : decode cX13_lowFloor 32 = .ok (.getfield 31, 3) := by decide +kernel
theorem dX13_lowFloor_35 : decode cX13_lowFloor 35 = .ok (.iload_n 3, 1) := by decide +kernel
theorem dX13_lowFloor_36 : decode cX13_lowFloor 36 = .ok (.iaload, 1) := by decide +kernel
theorem dX13_lowFloor_37 : decode cX13_lowFloor 37 = .ok (.iload_n 2, 1) := by decide +kernel
theorem dX13_lowFloor_38 : decode cX13_lowFloor 38 = .ok (.if_icmp .ge 12, 3) := by decide +kernel
theorem dX13_lowFloor_41 : decode cX13_lowFloor 41 = .ok (.aload_n 0, 1) := by decide +kernel
theorem dX13_lowFloor_42 : decode cX13_lowFloor 42 = .ok (.getfield 31, 3) := by decide +kernel
theorem dX13_lowFloor_45 : decode cX13_lowFloor 45 = .ok (.iload_n 3, 1) := by decide +kernel
theorem dX13_lowFloor_46 : decode cX13_lowFloor 46 = .ok (.iaload, 1) := by decide +kernel
theorem dX13_lowFloor_47 : decode cX13_lowFloor 47 = .ok (.goto 4, 3) := by decide +kernel
theorem dX13_lowFloor_50 : decode cX13_lowFloor 50 = .ok (.iload_n 2, 1) := by decide +kernel
theorem dX13_lowFloor_51 : decode cX13_lowFloor 51 = .ok (.istore_n 2, 1) := by decide +kernel
theorem dX13_lowFloor_52 : decode cX13_lowFloor 52 = .ok (.iinc 3 1, 3) := by decide +kernel
theorem dX13_lowFloor_55 : decode cX13_lowFloor 55 = .ok (.goto (-46), 3) := by decide +kernel
theorem dX13_lowFloor_58 : decode cX13_lowFloor 58 = .ok (.iload_n 2, 1) := by decide +kernel
theorem dX13_lowFloor_59 : decode cX13_lowFloor 59 = .ok (.ireturn, 1) := by decide +kernel
theorem dX13_begin_0 : decode cX13_begin 0 = .ok (.aload_n 0, 1) := by decide +kernel
theorem dX13_begin_1 : decode cX13_begin 1 = .ok (.iload_n 1, 1) := by decide +kernel
theorem dX13_begin_2 : decode cX13_begin 2 = .ok (.invokevirtual 62, 3) := by decide +kernel
theorem dX13_begin_5 : decode cX13_begin 5 = .ok (.ifCond .eq 12, 3) := by decide +kernel
theorem dX13_begin_8 : decode cX13_begin 8 = .ok (.iload_n 2, 1) := by decide +kernel
theorem dX13_begin_9 : decode cX13_begin 9 = .ok (.ifCond .lt 8, 3) := by decide +kernel
theorem dX13_begin_12 : decode cX13_begin 12 = .ok (.iload_n 2, 1) := by decide +kernel
theorem dX13_begin_13 : decode cX13_begin 13 = .ok (.iconst 2, 1) := by decide +kernel
theorem dX13_begin_14 : decode cX13_begin 14 = .ok (.if_icmp .le 5, 3) := by decide +kernel
theorem dX13_begin_17 : decode cX13_begin 17 = .ok (.iconst 0, 1) := by decide +kernel
theorem dX13_begin_18 : decode cX13_begin 18 = .ok (.ireturn, 1) := by decide +kernel
theorem dX13_begin_19 : decode cX13_begin 19 = .ok (.aload_n 0, 1) := by decide +kernel
theorem dX13_begin_20 : decode cX13_begin 20 = .ok (.getfield 37, 3) := by decide +kernel
theorem dX13_begin_23 : decode cX13_begin 23 = .ok (.iload_n 1, 1) := by decide +kernel
theorem dX13_begin_24 : decode cX13_begin 24 = .ok (.iaload, 1) := by decide +kernel
theorem dX13_begin_25 : decode cX13_begin 25 = .ok (.ifCond .lt 74, 3) := by decide +kernel
theorem dX13_begin_28 : decode cX13_begin 28 = .ok (.iload_n 2, 1) := by decide +kernel
theorem dX13_begin_29 : decode cX13_begin 29 = .ok (.ifCond .ne 26, 3) := by decide +kernel
theorem dX13_begin_32 : decode cX13_begin 32 = .ok (.aload_n 0, 1) := by decide +kernel
theorem dX13_begin_33 : decode cX13_begin 33 = .ok (.getfield 37, 3) := by decide +kernel
theorem dX13_begin_36 : decode cX13_begin 36 = .ok (.iload_n 1, 1) := by decide +kernel
theorem dX13_begin_37 : decode cX13_begin 37 = .ok (.iaload, 1) := by decide +kernel
theorem dX13_begin_38 : decode cX13_begin 38 = .ok (.ifCond .ne 17, 3) := by decide +kernel
theorem dX13_begin_41 : decode cX13_begin 41 = .ok (.aload_n 0, 1) := by decide +kernel
theorem dX13_begin_42 : decode cX13_begin 42 = .ok (.getfield 40, 3) := by decide +kernel
theorem dX13_begin_45 : decode cX13_begin 45 = .ok (.iload_n 1, 1) := by decide +kernel
theorem dX13_begin_46 : decode cX13_begin 46 = .ok (.iaload, 1) := by decide +kernel
theorem dX13_begin_47 : decode cX13_begin 47 = .ok (.iconst 1, 1) := by decide +kernel
theorem dX13_begin_48 : decode cX13_begin 48 = .ok (.if_icmp .ge 7, 3) := by decide +kernel
theorem dX13_begin_51 : decode cX13_begin 51 = .ok (.iconst 1, 1) := by decide +kernel
theorem dX13_begin_52 : decode cX13_begin 52 = .ok (.goto 4, 3) := by decide +kernel
theorem dX13_begin_55 : decode cX13_begin 55 = .ok (.iconst 0, 1) := by decide +kernel
theorem dX13_begin_56 : decode cX13_begin 56 = .ok (.istore_n 3, 1) := by decide +kernel
theorem dX13_begin_57 : decode cX13_begin 57 = .ok (.aload_n 0, 1) := by decide +kernel
theorem dX13_begin_58 : decode cX13_begin 58 = .ok (.getfield 40, 3) := by decide +kernel
theorem dX13_begin_61 : decode cX13_begin 61 = .ok (.iload_n 1, 1) := by decide +kernel
theorem dX13_begin_62 : decode cX13_begin 62 = .ok (.iload_n 3, 1) := by decide +kernel
theorem dX13_begin_63 : decode cX13_begin 63 = .ok (.ifCond .eq 7, 3) := by decide +kernel
theorem dX13_begin_66 : decode cX13_begin 66 = .ok (.iconst 1, 1) := by decide +kernel
theorem dX13_begin_67 : decode cX13_begin 67 = .ok (.goto 9, 3) := by decide +kernel
theorem dX13_begin_70 : decode cX13_begin 70 = .ok (.aload_n 0, 1) := by decide +kernel
theorem dX13_begin_71 : decode cX13_begin 71 = .ok (.getfield 40, 3) := by decide +kernel
theorem dX13_begin_74 : decode cX13_begin 74 = .ok (.iload_n 1, 1) := by decide +kernel
theorem dX13_begin_75 : decode cX13_begin 75 = .ok (.iaload, 1) := by decide +kernel
theorem dX13_begin_76 : decode cX13_begin 76 = .ok (.iastore, 1) := by decide +kernel
theorem dX13_begin_77 : decode cX13_begin 77 = .ok (.aload_n 0, 1) := by decide +kernel
theorem dX13_begin_78 : decode cX13_begin 78 = .ok (.getfield 43, 3) := by decide +kernel
theorem dX13_begin_81 : decode cX13_begin 81 = .ok (.iload_n 1, 1) := by decide +kernel
theorem dX13_begin_82 : decode cX13_begin 82 = .ok (.iload_n 3, 1) := by decide +kernel
theorem dX13_begin_83 : decode cX13_begin 83 = .ok (.ifCond .eq 7, 3) := by decide +kernel
theorem dX13_begin_86 : decode cX13_begin 86 = .ok (.iconst 0, 1) := by decide +kernel
theorem dX13_begin_87 : decode cX13_begin 87 = .ok (.goto 9, 3) := by decide +kernel
theorem dX13_begin_90 : decode cX13_begin 90 = .ok (.aload_n 0, 1) := by decide +kernel
theorem dX13_begin_91 : decode cX13_begin 91 = .ok (.getfield 43, 3) := by decide +kernel
theorem dX13_begin_94 : decode cX13_begin 94 = .ok (.iload_n 1, 1) := by decide +kernel
theorem dX13_begin_95 : decode cX13_begin 95 = .ok (.iaload, 1) := by decide +kernel
theorem dX13_begin_96 : decode cX13_begin 96 = .ok (.iastore, 1) := by decide +kernel
theorem dX13_begin_97 : decode cX13_begin 97 = .ok (.iload_n 3, 1) := by decide +kernel
theorem dX13_begin_98 : decode cX13_begin 98 = .ok (.ireturn, 1) := by decide +kernel
theorem dX13_begin_99 : decode cX13_begin 99 = .ok (.aload_n 0, 1) := by decide +kernel
theorem dX13_begin_100 : decode cX13_begin 100 = .ok (.getfield 37, 3) := by decide +kernel
theorem dX13_begin_103 : decode cX13_begin 103 = .ok (.iload_n 1, 1) := by decide +kernel
theorem dX13_begin_104 : decode cX13_begin 104 = .ok (.iload_n 2, 1) := by decide +kernel
theorem dX13_begin_105 : decode cX13_begin 105 = .ok (.iastore, 1) := by decide +kernel
theorem dX13_begin_106 : decode cX13_begin 106 = .ok (.aload_n 0, 1) := by decide +kernel
theorem dX13_begin_107 : decode cX13_begin 107 = .ok (.getfield 43, 3) := by decide +kernel
theorem dX13_begin_110 : decode cX13_begin 110 = .ok (.iload_n 1, 1) := by decide +kernel
theorem dX13_begin_111 : decode cX13_begin 111 = .ok (.iconst 0, 1) := by decide +kernel
theorem dX13_begin_112 : decode cX13_begin 112 = .ok (.iastore, 1) := by decide +kernel
theorem dX13_begin_113 : decode cX13_begin 113 = .ok (.aload_n 0, 1) := by decide +kernel
theorem dX13_begin_114 : decode cX13_begin 114 = .ok (.getfield 40, 3) := by decide +kernel
theorem dX13_begin_117 : decode cX13_begin 117 = .ok (.iload_n 1, 1) := by decide +kernel
theorem dX13_begin_118 : decode cX13_begin 118 = .ok (.iload_n 2, 1) := by decide +kernel
theorem dX13_begin_119 : decode cX13_begin 119 = .ok (.iconst 1, 1) := by decide +kernel
theorem dX13_begin_120 : decode cX13_begin 120 = .ok (.if_icmp .ne 7, 3) := by decide +kernel
theorem dX13_begin_123 : decode cX13_begin 123 = .ok (.iconst (-1), 1) := by decide +kernel
theorem dX13_begin_124 : decode cX13_begin 124 = .ok (.goto 4, 3) := by decide +kernel
theorem dX13_begin_127 : decode cX13_begin 127 = .ok (.iconst 1, 1) := by decide +kernel
theorem dX13_begin_128 : decode cX13_begin 128 = .ok (.iastore, 1) := by decide +kernel
theorem dX13_begin_129 : decode cX13_begin 129 = .ok (.aload_n 0, 1) := by decide +kernel
theorem dX13_begin_130 : decode cX13_begin 130 = .ok (.getfield 49, 3) := by decide +kernel
theorem dX13_begin_133 : decode cX13_begin 133 = .ok (.iload_n 1, 1) := by decide +kernel
theorem dX13_begin_134 : decode cX13_begin 134 = .ok (.aload_n 0, 1) := by decide +kernel
theorem dX13_begin_135 : decode cX13_begin 135 = .ok (.getfield 31, 3) := by decide +kernel
theorem dX13_begin_138 : decode cX13_begin 138 = .ok (.iload_n 1, 1) := by decide +kernel
theorem dX13_begin_139 : decode cX13_begin 139 = .ok (.iaload, 1) := by decide +kernel
theorem dX13_begin_140 : decode cX13_begin 140 = .ok (.iastore, 1) := by decide +kernel
theorem dX13_begin_141 : decode cX13_begin 141 = .ok (.aload_n 0, 1) := by decide +kernel
theorem dX13_begin_142 : decode cX13_begin 142 = .ok (.iload_n 1, 1) := by decide +kernel
theorem dX13_begin_143 : decode cX13_begin 143 = .ok (.invokevirtual 76, 3) := by decide +kernel
theorem dX13_begin_146 : decode cX13_begin 146 = .ok (.iconst 4, 1) := by decide +kernel
theorem dX13_begin_147 : decode cX13_begin 147 = .ok (.isub, 1) := by decide +kernel
theorem dX13_begin_148 : decode cX13_begin 148 = .ok (.istore_n 3, 1) := by decide +kernel
theorem dX13_begin_149 : decode cX13_begin 149 = .ok (.aload_n 0, 1) := by decide +kernel
theorem dX13_begin_150 : decode cX13_begin 150 = .ok (.iload_n 1, 1) := by decide +kernel
theorem dX13_begin_151 : decode cX13_begin 151 = .ok (.invokevirtual 80, 3) := by decide +kernel
theorem dX13_begin_154 : decode cX13_begin 154 = .ok (.istore 4, 2) := by decide +kernel
theorem dX13_begin_156 : decode cX13_begin 156 = .ok (.aload_n 0, 1) := by decide +kernel
theorem dX13_begin_157 : decode cX13_begin 157 = .ok (.getfield 46, 3) := by decide +kernel
theorem dX13_begin_160 : decode cX13_begin 160 = .ok (.iload_n 1, 1) := by decide +kernel
theorem dX13_begin_161 : decode cX13_begin 161 = .ok (.iload_n 2, 1) := by decide +kernel
theorem dX13_begin_162 : decode cX13_begin 162 = .ok (.ifCond .ne 26, 3) := by decide +kernel
theorem dX13_begin_165 : decode cX13_begin 165 = .ok (.iload_n 3, 1) := by decide +kernel
theorem dX13_begin_166 : decode cX13_begin 166 = .ok (.aload_n 0, 1) := by decide +kernel
theorem dX13_begin_167 : decode cX13_begin 167 = .ok (.getfield 34, 3) := by decide +kernel
theorem dX13_begin_170 : decode cX13_begin 170 = .ok (.iload_n 1, 1) := by decide +kernel
theorem dX13_begin_171 : decode cX13_begin 171 = .ok (.iaload, 1) := by decide +kernel
theorem dX13_begin_172 : decode cX13_begin 172 = .ok (.if_icmp .le 7, 3) := by decide +kernel
theorem dX13_begin_175 : decode cX13_begin 175 = .ok (.iload_n 3, 1) := by decide +kernel
theorem dX13_begin_176 : decode cX13_begin 176 = .ok (.goto 47, 3) := by decide +kernel
theorem dX13_begin_179 : decode cX13_begin 179 = .ok (.aload_n 0, 1) := by decide +kernel
theorem dX13_begin_180 : decode cX13_begin 180 = .ok (.getfield 34, 3) := by decide +kernel
theorem dX13_begin_183 : decode cX13_begin 183 = .ok (.iload_n 1, 1) := by decide +kernel
theorem dX13_begin_184 : decode cX13_begin 184 = .ok (.iaload, 1) := by decide +kernel
theorem dX13_begin_185 : decode cX13_begin 185 = .ok (.goto 38, 3) := by decide +kernel
theorem dX13_begin_188 : decode cX13_begin 188 = .ok (.iload_n 2, 1) := by decide +kernel
theorem dX13_begin_189 : decode cX13_begin 189 = .ok (.iconst 1, 1) := by decide +kernel
theorem dX13_begin_190 : decode cX13_begin 190 = .ok (.if_icmp .ne 11, 3) := by decide +kernel
theorem dX13_begin_193 : decode cX13_begin 193 = .ok (.aload_n 0, 1) := by decide +kernel
theorem dX13_begin_194 : decode cX13_begin 194 = .ok (.iload_n 1, 1) := by decide +kernel
theorem dX13_begin_195 : decode cX13_begin 195 = .ok (.invokevirtual 83, 3) := by decide +kernel
theorem dX13_begin_198 : decode cX13_begin 198 = .ok (.goto 25, 3) := by decide +kernel
theorem dX13_begin_201 : decode cX13_begin 201 = .ok (.iload 4, 2) := by decide +kernel
theorem dX13_begin_203 : decode cX13_begin 203 = .ok (.aload_n 0, 1) := by decide +kernel
theorem dX13_begin_204 : decode cX13_begin 204 = .ok (.getfield 34, 3) := by decide +kernel
theorem dX13_begin_207 : decode cX13_begin 207 = .ok (.iload_n 1, 1) := by decide +kernel
theorem dX13_begin_208 : decode cX13_begin 208 = .ok (.iaload, 1) := by decide +kernel
theorem dX13_begin_209 : decode cX13_begin 209 = .ok (.if_icmp .ge 8, 3) := by decide +kernel
theorem dX13_begin_212 : decode cX13_begin 212 = .ok (.iload 4, 2) := by decide +kernel
theorem dX13_begin_214 : decode cX13_begin 214 = .ok (.goto 9, 3) := by decide +kernel
theorem dX13_begin_217 : decode cX13_begin 217 = .ok (.aload_n 0, 1) := by decide +kernel
theorem dX13_begin_218 : decode cX13_begin 218 = .ok (.getfield 34, 3) := by decide +kernel
theorem dX13_begin_221 : decode cX13_begin 221 = .ok (.iload_n 1, 1) := by decide +kernel
theorem dX13_begin_222 : decode cX13_begin 222 = .ok (.iaload, 1) := by decide +kernel
theorem dX13_begin_223 : decode cX13_begin 223 = .ok (.iastore, 1) := by decide +kernel
theorem dX13_begin_224 : decode cX13_begin 224 = .ok (.iconst 1, 1) := by decide +kernel
theorem dX13_begin_225 : decode cX13_begin 225 = .ok (.ireturn, 1) := by decide +kernel
theorem dX17_startAll_0 : decode cX17_startAll 0 = .ok (.iconst 0, 1) := by decide +kernel
theorem dX17_startAll_1 : decode cX17_startAll 1 = .ok (.istore_n 3, 1) := by decide +kernel
theorem dX17_startAll_2 : decode cX17_startAll 2 = .ok (.iload_n 3, 1) := by decide +kernel
theorem dX17_startAll_3 : decode cX17_startAll 3 = .ok (.aload_n 0, 1) := by decide +kernel
theorem dX17_startAll_4 : decode cX17_startAll 4 = .ok (.invokevirtual 111, 3) := by decide +kernel
theorem dX17_startAll_7 : decode cX17_startAll 7 = .ok (.if_icmp .ge 41, 3) := by decide +kernel
theorem dX17_startAll_10 : decode cX17_startAll 10 = .ok (.aload_n 0, 1) := by decide +kernel
theorem dX17_startAll_11 : decode cX17_startAll 11 = .ok (.getfield 26, 3) := by decide +kernel
theorem dX17_startAll_14 : decode cX17_startAll 14 = .ok (.getfield 315, 3) := by decide +kernel
theorem dX17_startAll_17 : decode cX17_startAll 17 = .ok (.iload_n 3, 1) := by decide +kernel
theorem dX17_startAll_18 : decode cX17_startAll 18 = .ok (.iaload, 1) := by decide +kernel
theorem dX17_startAll_19 : decode cX17_startAll 19 = .ok (.iload_n 1, 1) := by decide +kernel
theorem dX17_startAll_20 : decode cX17_startAll 20 = .ok (.if_icmp .ne 19, 3) := by decide +kernel
theorem dX17_startAll_23 : decode cX17_startAll 23 = .ok (.aload_n 0, 1) := by decide +kernel
theorem dX17_startAll_24 : decode cX17_startAll 24 = .ok (.getfield 26, 3) := by decide +kernel
theorem dX17_startAll_27 : decode cX17_startAll 27 = .ok (.iload_n 3, 1) := by decide +kernel
theorem dX17_startAll_28 : decode cX17_startAll 28 = .ok (.iload_n 2, 1) := by decide +kernel
theorem dX17_startAll_29 : decode cX17_startAll 29 = .ok (.invokevirtual 318, 3) := by decide +kernel
theorem dX17_startAll_32 : decode cX17_startAll 32 = .ok (.ifCond .eq 7, 3) := by decide +kernel
theorem dX17_startAll_35 : decode cX17_startAll 35 = .ok (.iconst 1, 1) := by decide +kernel
theorem dX17_startAll_36 : decode cX17_startAll 36 = .ok (.goto 4, 3) := by decide +kernel
theorem dX17_startAll_39 : decode cX17_startAll 39 = .ok (.iconst 0, 1) := by decide +kernel
theorem dX17_startAll_40 : decode cX17_startAll 40 = .ok (.istore 4, 2) := by decide +kernel
theorem dX17_startAll_42 : decode cX17_startAll 42 = .ok (.iinc 3 1, 3) := by decide +kernel
theorem dX17_startAll_45 : decode cX17_startAll 45 = .ok (.goto (-43), 3) := by decide +kernel
theorem dX17_startAll_48 : decode cX17_startAll 48 = .ok (.return_, 1) := by decide +kernel
theorem dX17_walks_0 : decode cX17_walks 0 = .ok (.aload_n 0, 1) := by decide +kernel
theorem dX17_walks_1 : decode cX17_walks 1 = .ok (.iload_n 1, 1) := by decide +kernel
theorem dX17_walks_2 : decode cX17_walks 2 = .ok (.i2l, 1) := by decide +kernel
theorem dX17_walks_3 : decode cX17_walks 3 = .ok (.iload_n 2, 1) := by decide +kernel
theorem dX17_walks_4 : decode cX17_walks 4 = .ok (.i2l, 1) := by decide +kernel
theorem dX17_walks_5 : decode cX17_walks 5 = .ok (.invokevirtual 275, 3) := by decide +kernel
theorem dX17_walks_8 : decode cX17_walks 8 = .ok (.aload_n 0, 1) := by decide +kernel
theorem dX17_walks_9 : decode cX17_walks 9 = .ok (.getfield 224, 3) := by decide +kernel
theorem dX17_walks_12 : decode cX17_walks 12 = .ok (.istore_n 3, 1) := by decide +kernel
theorem dX17_walks_13 : decode cX17_walks 13 = .ok (.iconst 0, 1) := by decide +kernel
theorem dX17_walks_14 : decode cX17_walks 14 = .ok (.istore 4, 2) := by decide +kernel
theorem dX17_walks_16 : decode cX17_walks 16 = .ok (.iconst 0, 1) := by decide +kernel
theorem dX17_walks_17 : decode cX17_walks 17 = .ok (.istore 5, 2) := by decide +kernel
theorem dX17_walks_19 : decode cX17_walks 19 = .ok (.iload 5, 2) := by decide +kernel
theorem dX17_walks_21 : decode cX17_walks 21 = .ok (.aload_n 0, 1) := by decide +kernel
theorem dX17_walks_22 : decode cX17_walks 22 = .ok (.getfield 207, 3) := by decide +kernel
theorem dX17_walks_25 : decode cX17_walks 25 = .ok (.if_icmp .ge 66, 3) := by decide +kernel
theorem dX17_walks_28 : decode cX17_walks 28 = .ok (.aload_n 0, 1) := by decide +kernel
theorem dX17_walks_29 : decode cX17_walks 29 = .ok (.aload_n 0, 1) := by decide +kernel
theorem dX17_walks_30 : decode cX17_walks 30 = .ok (.getfield 45, 3) := by decide +kernel
theorem dX17_walks_33 : decode cX17_walks 33 = .ok (.iload 5, 2) := by decide +kernel
theorem dX17_walks_35 : decode cX17_walks 35 = .ok (.iaload, 1) := by decide +kernel
theorem dX17_walks_36 : decode cX17_walks 36 = .ok (.invokevirtual 210, 3) := by decide +kernel
theorem dX17_walks_39 : decode cX17_walks 39 = .ok (.istore 6, 2) := by decide +kernel
theorem dX17_walks_41 : decode cX17_walks 41 = .ok (.aload_n 0, 1) := by decide +kernel
theorem dX17_walks_42 : decode cX17_walks 42 = .ok (.getfield 198, 3) := by decide +kernel
theorem dX17_walks_45 : decode cX17_walks 45 = .ok (.aload_n 0, 1) := by decide +kernel
theorem dX17_walks_46 : decode cX17_walks 46 = .ok (.getfield 201, 3) := by decide +kernel
theorem dX17_walks_49 : decode cX17_walks 49 = .ok (.lcmp, 1) := by decide +kernel
theorem dX17_walks_50 : decode cX17_walks 50 = .ok (.ifCond .gt 35, 3) := by decide +kernel
theorem dX17_walks_53 : decode cX17_walks 53 = .ok (.aload_n 0, 1) := by decide +kernel
theorem dX17_walks_54 : decode cX17_walks 54 = .ok (.aload_n 0, 1) := by decide +kernel
theorem dX17_walks_55 : decode cX17_walks 55 = .ok (.getfield 45, 3) := by decide +kernel
theorem dX17_walks_58 : decode cX17_walks 58 = .ok (.iload 5, 2) := by decide +kernel
theorem dX17_walks_60 : decode cX17_walks 60 = .ok (.iaload, 1) := by decide +kernel
theorem dX17_walks_61 : decode cX17_walks 61 = .ok (.invokevirtual 320, 3) := by decide +kernel
theorem dX17_walks_64 : decode cX17_walks 64 = .ok (.ifCond .eq 5, 3) := by decide +kernel
theorem dX17_walks_67 : decode cX17_walks 67 = .ok (.iconst 0, 1) := by decide +kernel
theorem dX17_walks_68 : decode cX17_walks 68 = .ok (.ireturn, 1) := by decide +kernel
theorem dX17_walks_69 : decode cX17_walks 69 = .ok (.aload_n 0, 1) := by decide +kernel
theorem dX17_walks_70 : decode cX17_walks 70 = .ok (.aload_n 0, 1) := by decide +kernel
theorem dX17_walks_71 : decode cX17_walks 71 = .ok (.getfield 45, 3) := by decide +kernel
theorem dX17_walks_74 : decode cX17_walks 74 = .ok (.iload 5, 2) := by decide +kernel
theorem dX17_walks_76 : decode cX17_walks 76 = .ok (.iaload, 1) := by decide +kernel
theorem dX17_walks_77 : decode cX17_walks 77 = .ok (.iconst 0, 1) := by decide +kernel
theorem dX17_walks_78 : decode cX17_walks 78 = .ok (.invokevirtual 260, 3) := by decide +kernel
theorem dX17_walks_81 : decode cX17_walks 81 = .ok (.istore_n 3, 1) := by decide +kernel
theorem dX17_walks_82 : decode cX17_walks 82 = .ok (.iinc 4 1, 3) := by decide +kernel
theorem dX17_walks_85 : decode cX17_walks 85 = .ok (.iinc 5 1, 3) := by decide +kernel
theorem dX17_walks_88 : decode cX17_walks 88 = .ok (.goto (-69), 3) := by decide +kernel
theorem dX17_walks_91 : decode cX17_walks 91 = .ok (.aload_n 0, 1) := by decide +kernel
theorem dX17_walks_92 : decode cX17_walks 92 = .ok (.getfield 182, 3) := by decide +kernel
theorem dX17_walks_95 : decode cX17_walks 95 = .ok (.iload_n 1, 1) := by decide +kernel
theorem dX17_walks_96 : decode cX17_walks 96 = .ok (.iadd, 1) := by decide +kernel
theorem dX17_walks_97 : decode cX17_walks 97 = .ok (.ldc_w 323, 3) := by decide +kernel
theorem dX17_walks_100 : decode cX17_walks 100 = .ok (.if_icmp .lt 39, 3) := by decide +kernel
theorem dX17_walks_103 : decode cX17_walks 103 = .ok (.aload_n 0, 1) := by decide +kernel
theorem dX17_walks_104 : decode cX17_walks 104 = .ok (.getfield 182, 3) := by decide +kernel
theorem dX17_walks_107 : decode cX17_walks 107 = .ok (.iload_n 1, 1) := by decide +kernel
theorem dX17_walks_108 : decode cX17_walks 108 = .ok (.iadd, 1) := by decide +kernel
theorem dX17_walks_109 : decode cX17_walks 109 = .ok (.ldc_w 324, 3) := by decide +kernel
theorem dX17_walks_112 : decode cX17_walks 112 = .ok (.if_icmp .gt 27, 3) := by decide +kernel
theorem dX17_walks_115 : decode cX17_walks 115 = .ok (.aload_n 0, 1) := by decide +kernel
theorem dX17_walks_116 : decode cX17_walks 116 = .ok (.getfield 185, 3) := by decide +kernel
theorem dX17_walks_119 : decode cX17_walks 119 = .ok (.iload_n 2, 1) := by decide +kernel
theorem dX17_walks_120 : decode cX17_walks 120 = .ok (.iadd, 1) := by decide +kernel
theorem dX17_walks_121 : decode cX17_walks 121 = .ok (.ldc_w 323, 3) := by decide +kernel
theorem dX17_walks_124 : decode cX17_walks 124 = .ok (.if_icmp .lt 15, 3) := by decide +kernel
theorem dX17_walks_127 : decode cX17_walks 127 = .ok (.aload_n 0, 1) := by decide +kernel
theorem dX17_walks_128 : decode cX17_walks 128 = .ok (.getfield 185, 3) := by decide +kernel
theorem dX17_walks_131 : decode cX17_walks 131 = .ok (.iload_n 2, 1) := by decide +kernel
theorem dX17_walks_132 : decode cX17_walks 132 = .ok (.iadd, 1) := by decide +kernel
theorem dX17_walks_133 : decode cX17_walks 133 = .ok (.ldc_w 324, 3) := by decide +kernel
theorem dX17_walks_136 : decode cX17_walks 136 = .ok (.if_icmp .le 5, 3) := by decide +kernel
theorem dX17_walks_139 : decode cX17_walks 139 = .ok (.iconst 0, 1) := by decide +kernel
theorem dX17_walks_140 : decode cX17_walks 140 = .ok (.ireturn, 1) := by decide +kernel
theorem dX17_walks_141 : decode cX17_walks 141 = .ok (.aload_n 0, 1) := by decide +kernel
theorem dX17_walks_142 : decode cX17_walks 142 = .ok (.dup, 1) := by decide +kernel
theorem dX17_walks_143 : decode cX17_walks 143 = .ok (.getfield 182, 3) := by decide +kernel
theorem dX17_walks_146 : decode cX17_walks 146 = .ok (.iload_n 1, 1) := by decide +kernel
theorem dX17_walks_147 : decode cX17_walks 147 = .ok (.iadd, 1) := by decide +kernel
theorem dX17_walks_148 : decode cX17_walks 148 = .ok (.putfield 182, 3) := by decide +kernel
theorem dX17_walks_151 : decode cX17_walks 151 = .ok (.aload_n 0, 1) := by decide +kernel
theorem dX17_walks_152 : decode cX17_walks 152 = .ok (.dup, 1) := by decide +kernel
theorem dX17_walks_153 : decode cX17_walks 153 = .ok (.getfield 185, 3) := by decide +kernel
theorem dX17_walks_156 : decode cX17_walks 156 = .ok (.iload_n 2, 1) := by decide +kernel
theorem dX17_walks_157 : decode cX17_walks 157 = .ok (.iadd, 1) := by decide +kernel
theorem dX17_walks_158 : decode cX17_walks 158 = .ok (.putfield 185, 3) := by decide +kernel
theorem dX17_walks_161 : decode cX17_walks 161 = .ok (.aload_n 0, 1) := by decide +kernel
theorem dX17_walks_162 : decode cX17_walks 162 = .ok (.iload_n 3, 1) := by decide +kernel
theorem dX17_walks_163 : decode cX17_walks 163 = .ok (.putfield 224, 3) := by decide +kernel
theorem dX17_walks_166 : decode cX17_walks 166 = .ok (.iconst 0, 1) := by decide +kernel
theorem dX17_walks_167 : decode cX17_walks 167 = .ok (.istore 5, 2) := by decide +kernel
theorem dX17_walks_169 : decode cX17_walks 169 = .ok (.iload 5, 2) := by decide +kernel
theorem dX17_walks_171 : decode cX17_walks 171 = .ok (.iload 4, 2) := by decide +kernel
theorem dX17_walks_173 : decode cX17_walks 173 = .ok (.if_icmp .ge 80, 3) := by decide +kernel
theorem dX17_walks_176 : decode cX17_walks 176 = .ok (.aload_n 0, 1) := by decide +kernel
theorem dX17_walks_177 : decode cX17_walks 177 = .ok (.aload_n 0, 1) := by decide +kernel
theorem dX17_walks_178 : decode cX17_walks 178 = .ok (.getfield 45, 3) := by decide +kernel
theorem dX17_walks_181 : decode cX17_walks 181 = .ok (.iload 5, 2) := by decide +kernel
theorem dX17_walks_183 : decode cX17_walks 183 = .ok (.iaload, 1) := by decide +kernel
theorem dX17_walks_184 : decode cX17_walks 184 = .ok (.bipush 13, 2) := by decide +kernel
theorem dX17_walks_186 : decode cX17_walks 186 = .ok (.invokevirtual 218, 3) := by decide +kernel
theorem dX17_walks_189 : decode cX17_walks 189 = .ok (.istore 6, 2) := by decide +kernel
theorem dX17_walks_191 : decode cX17_walks 191 = .ok (.iload 6, 2) := by decide +kernel
theorem dX17_walks_193 : decode cX17_walks 193 = .ok (.iconst 2, 1) := by decide +kernel
theorem dX17_walks_194 : decode cX17_walks 194 = .ok (.if_icmp .eq 15, 3) := by decide +kernel
theorem dX17_walks_197 : decode cX17_walks 197 = .ok (.iload 6, 2) := by decide +kernel
theorem dX17_walks_199 : decode cX17_walks 199 = .ok (.iconst 3, 1) := by decide +kernel
theorem dX17_walks_200 : decode cX17_walks 200 = .ok (.if_icmp .eq 9, 3) := by decide +kernel
theorem dX17_walks_203 : decode cX17_walks 203 = .ok (.iload 6, 2) := by decide +kernel
theorem dX17_walks_205 : decode cX17_walks 205 = .ok (.iconst 5, 1) := by decide +kernel
theorem dX17_walks_206 : decode cX17_walks 206 = .ok (.if_icmp .ne 41, 3) := by decide +kernel
theorem dX17_walks_209 : decode cX17_walks 209 = .ok (.aload_n 0, 1) := by decide +kernel
theorem dX17_walks_210 : decode cX17_walks 210 = .ok (.aload_n 0, 1) := by decide +kernel
theorem dX17_walks_211 : decode cX17_walks 211 = .ok (.aload_n 0, 1) := by decide +kernel
theorem dX17_walks_212 : decode cX17_walks 212 = .ok (.getfield 45, 3) := by decide +kernel
theorem dX17_walks_215 : decode cX17_walks 215 = .ok (.iload 5, 2) := by decide +kernel
theorem dX17_walks_217 : decode cX17_walks 217 = .ok (.iaload, 1) := by decide +kernel
theorem dX17_walks_218 : decode cX17_walks 218 = .ok (.bipush 14, 2) := by decide +kernel
theorem dX17_walks_220 : decode cX17_walks 220 = .ok (.invokevirtual 218, 3) := by decide +kernel
theorem dX17_walks_223 : decode cX17_walks 223 = .ok (.iload 6, 2) := by decide +kernel
theorem dX17_walks_225 : decode cX17_walks 225 = .ok (.iconst 2, 1) := by decide +kernel
theorem dX17_walks_226 : decode cX17_walks 226 = .ok (.if_icmp .ne 7, 3) := by decide +kernel
theorem dX17_walks_229 : decode cX17_walks 229 = .ok (.iconst 1, 1) := by decide +kernel
theorem dX17_walks_230 : decode cX17_walks 230 = .ok (.goto 14, 3) := by decide +kernel
theorem dX17_walks_233 : decode cX17_walks 233 = .ok (.iload 6, 2) := by decide +kernel
theorem dX17_walks_235 : decode cX17_walks 235 = .ok (.iconst 3, 1) := by decide +kernel
theorem dX17_walks_236 : decode cX17_walks 236 = .ok (.if_icmp .ne 7, 3) := by decide +kernel
theorem dX17_walks_239 : decode cX17_walks 239 = .ok (.iconst 0, 1) := by decide +kernel
theorem dX17_walks_240 : decode cX17_walks 240 = .ok (.goto 4, 3) := by decide +kernel
theorem dX17_walks_243 : decode cX17_walks 243 = .ok (.iconst 2, 1) := by decide +kernel
theorem dX17_walks_244 : decode cX17_walks 244 = .ok (.invokevirtual 325, 3) := by decide +kernel
theorem dX17_walks_247 : decode cX17_walks 247 = .ok (.iinc 5 1, 3) := by decide +kernel
theorem dX17_walks_250 : decode cX17_walks 250 = .ok (.goto (-81), 3) := by decide +kernel
theorem dX17_walks_253 : decode cX17_walks 253 = .ok (.iconst 1, 1) := by decide +kernel
theorem dX17_walks_254 : decode cX17_walks 254 = .ok (.ireturn, 1) := by decide +kernel
theorem dX17_use_0 : decode cX17_use 0 = .ok (.aload_n 0, 1) := by decide +kernel
theorem dX17_use_1 : decode cX17_use 1 = .ok (.aload_n 0, 1) := by decide +kernel
theorem dX17_use_2 : decode cX17_use 2 = .ok (.getfield 265, 3) := by decide +kernel
theorem dX17_use_5 : decode cX17_use 5 = .ok (.invokestatic 67, 3) := by decide +kernel
theorem dX17_use_8 : decode cX17_use 8 = .ok (.i2l, 1) := by decide +kernel
theorem dX17_use_9 : decode cX17_use 9 = .ok (.aload_n 0, 1) := by decide +kernel
theorem dX17_use_10 : decode cX17_use 10 = .ok (.getfield 265, 3) := by decide +kernel
theorem dX17_use_13 : decode cX17_use 13 = .ok (.invokestatic 272, 3) := by decide +kernel
theorem dX17_use_16 : decode cX17_use 16 = .ok (.i2l, 1) := by decide +kernel
theorem dX17_use_17 : decode cX17_use 17 = .ok (.invokevirtual 275, 3) := by decide +kernel
theorem dX17_use_20 : decode cX17_use 20 = .ok (.aload_n 0, 1) := by decide +kernel
theorem dX17_use_21 : decode cX17_use 21 = .ok (.getfield 207, 3) := by decide +kernel
theorem dX17_use_24 : decode cX17_use 24 = .ok (.ifCond .eq 39, 3) := by decide +kernel
theorem dX17_use_27 : decode cX17_use 27 = .ok (.aload_n 0, 1) := by decide +kernel
theorem dX17_use_28 : decode cX17_use 28 = .ok (.aload_n 0, 1) := by decide +kernel
theorem dX17_use_29 : decode cX17_use 29 = .ok (.getfield 45, 3) := by decide +kernel
theorem dX17_use_32 : decode cX17_use 32 = .ok (.iconst 0, 1) := by decide +kernel
theorem dX17_use_33 : decode cX17_use 33 = .ok (.iaload, 1) := by decide +kernel
theorem dX17_use_34 : decode cX17_use 34 = .ok (.invokevirtual 210, 3) := by decide +kernel
theorem dX17_use_37 : decode cX17_use 37 = .ok (.ifCond .eq 26, 3) := by decide +kernel
theorem dX17_use_40 : decode cX17_use 40 = .ok (.ldc2_w 329, 3) := by decide +kernel
theorem dX17_use_43 : decode cX17_use 43 = .ok (.aload_n 0, 1) := by decide +kernel
theorem dX17_use_44 : decode cX17_use 44 = .ok (.getfield 198, 3) := by decide +kernel
theorem dX17_use_47 : decode cX17_use 47 = .ok (.lmul, 1) := by decide +kernel
theorem dX17_use_48 : decode cX17_use 48 = .ok (.aload_n 0, 1) := by decide +kernel
theorem dX17_use_49 : decode cX17_use 49 = .ok (.getfield 201, 3) := by decide +kernel
theorem dX17_use_52 : decode cX17_use 52 = .ok (.lcmp, 1) := by decide +kernel
theorem dX17_use_53 : decode cX17_use 53 = .ok (.ifCond .gt 10, 3) := by decide +kernel
theorem dX17_use_56 : decode cX17_use 56 = .ok (.aload_n 0, 1) := by decide +kernel
theorem dX17_use_57 : decode cX17_use 57 = .ok (.getfield 204, 3) := by decide +kernel
theorem dX17_use_60 : decode cX17_use 60 = .ok (.ifCond .ne 4, 3) := by decide +kernel
theorem dX17_use_63 : decode cX17_use 63 = .ok (.return_, 1) := by decide +kernel
theorem dX17_use_64 : decode cX17_use 64 = .ok (.aload_n 0, 1) := by decide +kernel
theorem dX17_use_65 : decode cX17_use 65 = .ok (.getfield 45, 3) := by decide +kernel
theorem dX17_use_68 : decode cX17_use 68 = .ok (.iconst 0, 1) := by decide +kernel
theorem dX17_use_69 : decode cX17_use 69 = .ok (.iaload, 1) := by decide +kernel
theorem dX17_use_70 : decode cX17_use 70 = .ok (.istore_n 1, 1) := by decide +kernel
theorem dX17_use_71 : decode cX17_use 71 = .ok (.aload_n 0, 1) := by decide +kernel
theorem dX17_use_72 : decode cX17_use 72 = .ok (.iload_n 1, 1) := by decide +kernel
theorem dX17_use_73 : decode cX17_use 73 = .ok (.iconst 3, 1) := by decide +kernel
theorem dX17_use_74 : decode cX17_use 74 = .ok (.invokevirtual 218, 3) := by decide +kernel
theorem dX17_use_77 : decode cX17_use 77 = .ok (.istore_n 2, 1) := by decide +kernel
theorem dX17_use_78 : decode cX17_use 78 = .ok (.aload_n 0, 1) := by decide +kernel
theorem dX17_use_79 : decode cX17_use 79 = .ok (.iload_n 1, 1) := by decide +kernel
theorem dX17_use_80 : decode cX17_use 80 = .ok (.bipush 13, 2) := by decide +kernel
theorem dX17_use_82 : decode cX17_use 82 = .ok (.invokevirtual 218, 3) := by decide +kernel
theorem dX17_use_85 : decode cX17_use 85 = .ok (.iconst 1, 1) := by decide +kernel
theorem dX17_use_86 : decode cX17_use 86 = .ok (.if_icmp .ne 23, 3) := by decide +kernel
theorem dX17_use_89 : decode cX17_use 89 = .ok (.iload_n 2, 1) := by decide +kernel
theorem dX17_use_90 : decode cX17_use 90 = .ok (.sipush 255, 3) := by decide +kernel
theorem dX17_use_93 : decode cX17_use 93 = .ok (.if_icmp .eq 16, 3) := by decide +kernel
theorem dX17_use_96 : decode cX17_use 96 = .ok (.aload_n 0, 1) := by decide +kernel
theorem dX17_use_97 : decode cX17_use 97 = .ok (.getfield 26, 3) := by decide +kernel
theorem dX17_use_100 : decode cX17_use 100 = .ok (.iload_n 2, 1) := by decide +kernel
theorem dX17_use_101 : decode cX17_use 101 = .ok (.iconst 0, 1) := by decide +kernel
theorem dX17_use_102 : decode cX17_use 102 = .ok (.invokevirtual 318, 3) := by decide +kernel
theorem dX17_use_105 : decode cX17_use 105 = .ok (.istore_n 3, 1) := by decide +kernel
theorem dX17_use_106 : decode cX17_use 106 = .ok (.goto 26, 3) := by decide +kernel
theorem dX17_use_109 : decode cX17_use 109 = .ok (.aload_n 0, 1) := by decide +kernel
theorem dX17_use_110 : decode cX17_use 110 = .ok (.iload_n 1, 1) := by decide +kernel
theorem dX17_use_111 : decode cX17_use 111 = .ok (.bipush 13, 2) := by decide +kernel
theorem dX17_use_113 : decode cX17_use 113 = .ok (.invokevirtual 218, 3) := by decide +kernel
theorem dX17_use_116 : decode cX17_use 116 = .ok (.iconst 4, 1) := by decide +kernel
theorem dX17_use_117 : decode cX17_use 117 = .ok (.if_icmp .ne 15, 3) := by decide +kernel
theorem dX17_use_120 : decode cX17_use 120 = .ok (.aload_n 0, 1) := by decide +kernel
theorem dX17_use_121 : decode cX17_use 121 = .ok (.aload_n 0, 1) := by decide +kernel
theorem dX17_use_122 : decode cX17_use 122 = .ok (.iload_n 1, 1) := by decide +kernel
theorem dX17_use_123 : decode cX17_use 123 = .ok (.bipush 14, 2) := by decide +kernel
theorem dX17_use_125 : decode cX17_use 125 = .ok (.invokevirtual 218, 3) := by decide +kernel
theorem dX17_use_128 : decode cX17_use 128 = .ok (.iconst 1, 1) := by decide +kernel
theorem dX17_use_129 : decode cX17_use 129 = .ok (.invokevirtual 325, 3) := by decide +kernel
theorem dX17_use_132 : decode cX17_use 132 = .ok (.return_, 1) := by decide +kernel
theorem dX13_await_0 : decode cX13_await 0 = .ok (.aload_n 0, 1) := by decide +kernel
theorem dX13_await_1 : decode cX13_await 1 = .ok (.getfield 40, 3) := by decide +kernel
theorem dX13_await_4 : decode cX13_await 4 = .ok (.iload_n 1, 1) := by decide +kernel
theorem dX13_await_5 : decode cX13_await 5 = .ok (.iconst 0, 1) := by decide +kernel
theorem dX13_await_6 : decode cX13_await 6 = .ok (.iastore, 1) := by decide +kernel
theorem dX13_await_7 : decode cX13_await 7 = .ok (.aload_n 0, 1) := by decide +kernel
theorem dX13_await_8 : decode cX13_await 8 = .ok (.getfield 43, 3) := by decide +kernel
theorem dX13_await_11 : decode cX13_await 11 = .ok (.iload_n 1, 1) := by decide +kernel
theorem dX13_await_12 : decode cX13_await 12 = .ok (.iload_n 2, 1) := by decide +kernel
theorem dX13_await_13 : decode cX13_await 13 = .ok (.iastore, 1) := by decide +kernel
theorem dX13_await_14 : decode cX13_await 14 = .ok (.return_, 1) := by decide +kernel
theorem dX13_end_0 : decode cX13_end 0 = .ok (.aload_n 0, 1) := by decide +kernel
theorem dX13_end_1 : decode cX13_end 1 = .ok (.getfield 37, 3) := by decide +kernel
theorem dX13_end_4 : decode cX13_end 4 = .ok (.iload_n 1, 1) := by decide +kernel
theorem dX13_end_5 : decode cX13_end 5 = .ok (.iconst (-1), 1) := by decide +kernel
theorem dX13_end_6 : decode cX13_end 6 = .ok (.iastore, 1) := by decide +kernel
theorem dX13_end_7 : decode cX13_end 7 = .ok (.aload_n 0, 1) := by decide +kernel
theorem dX13_end_8 : decode cX13_end 8 = .ok (.getfield 40, 3) := by decide +kernel
theorem dX13_end_11 : decode cX13_end 11 = .ok (.iload_n 1, 1) := by decide +kernel
theorem dX13_end_12 : decode cX13_end 12 = .ok (.iconst 0, 1) := by decide +kernel
theorem dX13_end_13 : decode cX13_end 13 = .ok (.iastore, 1) := by decide +kernel
theorem dX13_end_14 : decode cX13_end 14 = .ok (.aload_n 0, 1) := by decide +kernel
theorem dX13_end_15 : decode cX13_end 15 = .ok (.getfield 46, 3) := by decide +kernel
theorem dX13_end_18 : decode cX13_end 18 = .ok (.iload_n 1, 1) := by decide +kernel
theorem dX13_end_19 : decode cX13_end 19 = .ok (.iconst (-1), 1) := by decide +kernel
theorem dX13_end_20 : decode cX13_end 20 = .ok (.iastore, 1) := by decide +kernel
theorem dX13_end_21 : decode cX13_end 21 = .ok (.return_, 1) := by decide +kernel
theorem dX13_stepDoor_0 : decode cX13_stepDoor 0 = .ok (.aload_n 0, 1) := by decide +kernel
theorem dX13_stepDoor_1 : decode cX13_stepDoor 1 = .ok (.getfield 34, 3) := by decide +kernel
theorem dX13_stepDoor_4 : decode cX13_stepDoor 4 = .ok (.iload_n 1, 1) := by decide +kernel
theorem dX13_stepDoor_5 : decode cX13_stepDoor 5 = .ok (.iaload, 1) := by decide +kernel
theorem dX13_stepDoor_6 : decode cX13_stepDoor 6 = .ok (.bipush 8, 2) := by decide +kernel
theorem dX13_stepDoor_8 : decode cX13_stepDoor 8 = .ok (.aload_n 0, 1) := by decide +kernel
theorem dX13_stepDoor_9 : decode cX13_stepDoor 9 = .ok (.getfield 40, 3) := by decide +kernel
theorem dX13_stepDoor_12 : decode cX13_stepDoor 12 = .ok (.iload_n 1, 1) := by decide +kernel
theorem dX13_stepDoor_13 : decode cX13_stepDoor 13 = .ok (.iaload, 1) := by decide +kernel
theorem dX13_stepDoor_14 : decode cX13_stepDoor 14 = .ok (.imul, 1) := by decide +kernel
theorem dX13_stepDoor_15 : decode cX13_stepDoor 15 = .ok (.iadd, 1) := by decide +kernel
theorem dX13_stepDoor_16 : decode cX13_stepDoor 16 = .ok (.istore_n 2, 1) := by decide +kernel
theorem dX13_stepDoor_17 : decode cX13_stepDoor 17 = .ok (.aload_n 0, 1) := by decide +kernel
theorem dX13_stepDoor_18 : decode cX13_stepDoor 18 = .ok (.getfield 40, 3) := by decide +kernel
theorem dX13_stepDoor_21 : decode cX13_stepDoor 21 = .ok (.iload_n 1, 1) := by decide +kernel
theorem dX13_stepDoor_22 : decode cX13_stepDoor 22 = .ok (.iaload, 1) := by decide +kernel
theorem dX13_stepDoor_23 : decode cX13_stepDoor 23 = .ok (.ifCond .le 52, 3) := by decide +kernel
theorem dX13_stepDoor_26 : decode cX13_stepDoor 26 = .ok (.aload_n 0, 1) := by decide +kernel
theorem dX13_stepDoor_27 : decode cX13_stepDoor 27 = .ok (.getfield 34, 3) := by decide +kernel
theorem dX13_stepDoor_30 : decode cX13_stepDoor 30 = .ok (.iload_n 1, 1) := by decide +kernel
theorem dX13_stepDoor_31 : decode cX13_stepDoor 31 = .ok (.iload_n 2, 1) := by decide +kernel
theorem dX13_stepDoor_32 : decode cX13_stepDoor 32 = .ok (.aload_n 0, 1) := by decide +kernel
theorem dX13_stepDoor_33 : decode cX13_stepDoor 33 = .ok (.getfield 46, 3) := by decide +kernel
theorem dX13_stepDoor_36 : decode cX13_stepDoor 36 = .ok (.iload_n 1, 1) := by decide +kernel
theorem dX13_stepDoor_37 : decode cX13_stepDoor 37 = .ok (.iaload, 1) := by decide +kernel
theorem dX13_stepDoor_38 : decode cX13_stepDoor 38 = .ok (.if_icmp .le 12, 3) := by decide +kernel
theorem dX13_stepDoor_41 : decode cX13_stepDoor 41 = .ok (.aload_n 0, 1) := by decide +kernel
theorem dX13_stepDoor_42 : decode cX13_stepDoor 42 = .ok (.getfield 46, 3) := by decide +kernel
theorem dX13_stepDoor_45 : decode cX13_stepDoor 45 = .ok (.iload_n 1, 1) := by decide +kernel
theorem dX13_stepDoor_46 : decode cX13_stepDoor 46 = .ok (.iaload, 1) := by decide +kernel
theorem dX13_stepDoor_47 : decode cX13_stepDoor 47 = .ok (.goto 4, 3) := by decide +kernel
theorem dX13_stepDoor_50 : decode cX13_stepDoor 50 = .ok (.iload_n 2, 1) := by decide +kernel
theorem dX13_stepDoor_51 : decode cX13_stepDoor 51 = .ok (.iastore, 1) := by decide +kernel
theorem dX13_stepDoor_52 : decode cX13_stepDoor 52 = .ok (.aload_n 0, 1) := by decide +kernel
theorem dX13_stepDoor_53 : decode cX13_stepDoor 53 = .ok (.getfield 34, 3) := by decide +kernel
theorem dX13_stepDoor_56 : decode cX13_stepDoor 56 = .ok (.iload_n 1, 1) := by decide +kernel
theorem dX13_stepDoor_57 : decode cX13_stepDoor 57 = .ok (.iaload, 1) := by decide +kernel
theorem dX13_stepDoor_58 : decode cX13_stepDoor 58 = .ok (.aload_n 0, 1) := by decide +kernel
theorem dX13_stepDoor_59 : decode cX13_stepDoor 59 = .ok (.getfield 46, 3) := by decide +kernel
theorem dX13_stepDoor_62 : decode cX13_stepDoor 62 = .ok (.iload_n 1, 1) := by decide +kernel
theorem dX13_stepDoor_63 : decode cX13_stepDoor 63 = .ok (.iaload, 1) := by decide +kernel
theorem dX13_stepDoor_64 : decode cX13_stepDoor 64 = .ok (.if_icmp .ne 10, 3) := by decide +kernel
theorem dX13_stepDoor_67 : decode cX13_stepDoor 67 = .ok (.aload_n 0, 1) := by decide +kernel
theorem dX13_stepDoor_68 : decode cX13_stepDoor 68 = .ok (.iload_n 1, 1) := by decide +kernel
theorem dX13_stepDoor_69 : decode cX13_stepDoor 69 = .ok (.bipush 20, 2) := by decide +kernel
theorem dX13_stepDoor_71 : decode cX13_stepDoor 71 = .ok (.invokevirtual 86, 3) := by decide +kernel
theorem dX13_stepDoor_74 : decode cX13_stepDoor 74 = .ok (.return_, 1) := by decide +kernel
theorem dX13_stepDoor_75 : decode cX13_stepDoor 75 = .ok (.iload_n 2, 1) := by decide +kernel
theorem dX13_stepDoor_76 : decode cX13_stepDoor 76 = .ok (.aload_n 0, 1) := by decide +kernel
theorem dX13_stepDoor_77 : decode cX13_stepDoor 77 = .ok (.getfield 31, 3) := by decide +kernel
theorem dX13_stepDoor_80 : decode cX13_stepDoor 80 = .ok (.iload_n 1, 1) := by decide +kernel
theorem dX13_stepDoor_81 : decode cX13_stepDoor 81 = .ok (.iaload, 1) := by decide +kernel
theorem dX13_stepDoor_82 : decode cX13_stepDoor 82 = .ok (.if_icmp .ge 12, 3) := by decide +kernel
theorem dX13_stepDoor_85 : decode cX13_stepDoor 85 = .ok (.aload_n 0, 1) := by decide +kernel
theorem dX13_stepDoor_86 : decode cX13_stepDoor 86 = .ok (.getfield 31, 3) := by decide +kernel
theorem dX13_stepDoor_89 : decode cX13_stepDoor 89 = .ok (.iload_n 1, 1) := by decide +kernel
theorem dX13_stepDoor_90 : decode cX13_stepDoor 90 = .ok (.iaload, 1) := by decide +kernel
theorem dX13_stepDoor_91 : decode cX13_stepDoor 91 = .ok (.goto 4, 3) := by decide +kernel
theorem dX13_stepDoor_94 : decode cX13_stepDoor 94 = .ok (.iload_n 2, 1) := by decide +kernel
theorem dX13_stepDoor_95 : decode cX13_stepDoor 95 = .ok (.istore_n 2, 1) := by decide +kernel
theorem dX13_stepDoor_96 : decode cX13_stepDoor 96 = .ok (.aload_n 0, 1) := by decide +kernel
theorem dX13_stepDoor_97 : decode cX13_stepDoor 97 = .ok (.getfield 52, 3) := by decide +kernel
theorem dX13_stepDoor_100 : decode cX13_stepDoor 100 = .ok (.iload_n 1, 1) := by decide +kernel
theorem dX13_stepDoor_101 : decode cX13_stepDoor 101 = .ok (.if_icmp .ne 34, 3) := by decide +kernel
theorem dX13_stepDoor_104 : decode cX13_stepDoor 104 = .ok (.iload_n 2, 1) := by decide +kernel
theorem dX13_stepDoor_105 : decode cX13_stepDoor 105 = .ok (.aload_n 0, 1) := by decide +kernel
theorem dX13_stepDoor_106 : decode cX13_stepDoor 106 = .ok (.getfield 31, 3) := by decide +kernel
theorem dX13_stepDoor_109 : decode cX13_stepDoor 109 = .ok (.iload_n 1, 1) := by decide +kernel
theorem dX13_stepDoor_110 : decode cX13_stepDoor 110 = .ok (.iaload, 1) := by decide +kernel
theorem dX13_stepDoor_111 : decode cX13_stepDoor 111 = .ok (.isub, 1) := by decide +kernel
theorem dX13_stepDoor_112 : decode cX13_stepDoor 112 = .ok (.bipush 56, 2) := by decide +kernel
theorem dX13_stepDoor_114 : decode cX13_stepDoor 114 = .ok (.if_icmp .ge 21, 3) := by decide +kernel
theorem dX13_stepDoor_117 : decode cX13_stepDoor 117 = .ok (.aload_n 0, 1) := by decide +kernel
theorem dX13_stepDoor_118 : decode cX13_stepDoor 118 = .ok (.dup, 1) := by decide +kernel
theorem dX13_stepDoor_119 : decode cX13_stepDoor 119 = .ok (.getfield 72, 3) := by decide +kernel
theorem dX13_stepDoor_122 : decode cX13_stepDoor 122 = .ok (.iconst 1, 1) := by decide +kernel
theorem dX13_stepDoor_123 : decode cX13_stepDoor 123 = .ok (.iadd, 1) := by decide +kernel
theorem dX13_stepDoor_124 : decode cX13_stepDoor 124 = .ok (.putfield 72, 3) := by decide +kernel
theorem dX13_stepDoor_127 : decode cX13_stepDoor 127 = .ok (.aload_n 0, 1) := by decide +kernel
theorem dX13_stepDoor_128 : decode cX13_stepDoor 128 = .ok (.getfield 40, 3) := by decide +kernel
theorem dX13_stepDoor_131 : decode cX13_stepDoor 131 = .ok (.iload_n 1, 1) := by decide +kernel
theorem dX13_stepDoor_132 : decode cX13_stepDoor 132 = .ok (.iconst 1, 1) := by decide +kernel
theorem dX13_stepDoor_133 : decode cX13_stepDoor 133 = .ok (.iastore, 1) := by decide +kernel
theorem dX13_stepDoor_134 : decode cX13_stepDoor 134 = .ok (.return_, 1) := by decide +kernel
theorem dX13_stepDoor_135 : decode cX13_stepDoor 135 = .ok (.aload_n 0, 1) := by decide +kernel
theorem dX13_stepDoor_136 : decode cX13_stepDoor 136 = .ok (.getfield 34, 3) := by decide +kernel
theorem dX13_stepDoor_139 : decode cX13_stepDoor 139 = .ok (.iload_n 1, 1) := by decide +kernel
theorem dX13_stepDoor_140 : decode cX13_stepDoor 140 = .ok (.iload_n 2, 1) := by decide +kernel
theorem dX13_stepDoor_141 : decode cX13_stepDoor 141 = .ok (.iastore, 1) := by decide +kernel
theorem dX13_stepDoor_142 : decode cX13_stepDoor 142 = .ok (.iload_n 2, 1) := by decide +kernel
theorem dX13_stepDoor_143 : decode cX13_stepDoor 143 = .ok (.aload_n 0, 1) := by decide +kernel
theorem dX13_stepDoor_144 : decode cX13_stepDoor 144 = .ok (.getfield 31, 3) := by decide +kernel
theorem dX13_stepDoor_147 : decode cX13_stepDoor 147 = .ok (.iload_n 1, 1) := by decide +kernel
theorem dX13_stepDoor_148 : decode cX13_stepDoor 148 = .ok (.iaload, 1) := by decide +kernel
theorem dX13_stepDoor_149 : decode cX13_stepDoor 149 = .ok (.if_icmp .ne 8, 3) := by decide +kernel
theorem dX13_stepDoor_152 : decode cX13_stepDoor 152 = .ok (.aload_n 0, 1) := by decide +kernel
theorem dX13_stepDoor_153 : decode cX13_stepDoor 153 = .ok (.iload_n 1, 1) := by decide +kernel
theorem dX13_stepDoor_154 : decode cX13_stepDoor 154 = .ok (.invokevirtual 90, 3) := by decide +kernel
theorem dX13_stepDoor_157 : decode cX13_stepDoor 157 = .ok (.return_, 1) := by decide +kernel
theorem dX13_rise_0 : decode cX13_rise 0 = .ok (.aload_n 0, 1) := by decide +kernel
theorem dX13_rise_1 : decode cX13_rise 1 = .ok (.getfield 31, 3) := by decide +kernel
theorem dX13_rise_4 : decode cX13_rise 4 = .ok (.iload_n 1, 1) := by decide +kernel
theorem dX13_rise_5 : decode cX13_rise 5 = .ok (.iaload, 1) := by decide +kernel
theorem dX13_rise_6 : decode cX13_rise 6 = .ok (.iload_n 2, 1) := by decide +kernel
theorem dX13_rise_7 : decode cX13_rise 7 = .ok (.iadd, 1) := by decide +kernel
theorem dX13_rise_8 : decode cX13_rise 8 = .ok (.iload_n 3, 1) := by decide +kernel
theorem dX13_rise_9 : decode cX13_rise 9 = .ok (.if_icmp .le 7, 3) := by decide +kernel
theorem dX13_rise_12 : decode cX13_rise 12 = .ok (.iload_n 3, 1) := by decide +kernel
theorem dX13_rise_13 : decode cX13_rise 13 = .ok (.goto 11, 3) := by decide +kernel
theorem dX13_rise_16 : decode cX13_rise 16 = .ok (.aload_n 0, 1) := by decide +kernel
theorem dX13_rise_17 : decode cX13_rise 17 = .ok (.getfield 31, 3) := by decide +kernel
theorem dX13_rise_20 : decode cX13_rise 20 = .ok (.iload_n 1, 1) := by decide +kernel
theorem dX13_rise_21 : decode cX13_rise 21 = .ok (.iaload, 1) := by decide +kernel
theorem dX13_rise_22 : decode cX13_rise 22 = .ok (.iload_n 2, 1) := by decide +kernel
theorem dX13_rise_23 : decode cX13_rise 23 = .ok (.iadd, 1) := by decide +kernel
theorem dX13_rise_24 : decode cX13_rise 24 = .ok (.istore 4, 2) := by decide +kernel
theorem dX13_rise_26 : decode cX13_rise 26 = .ok (.aload_n 0, 1) := by decide +kernel
theorem dX13_rise_27 : decode cX13_rise 27 = .ok (.getfield 52, 3) := by decide +kernel
theorem dX13_rise_30 : decode cX13_rise 30 = .ok (.iload_n 1, 1) := by decide +kernel
theorem dX13_rise_31 : decode cX13_rise 31 = .ok (.if_icmp .ne 28, 3) := by decide +kernel
theorem dX13_rise_34 : decode cX13_rise 34 = .ok (.aload_n 0, 1) := by decide +kernel
theorem dX13_rise_35 : decode cX13_rise 35 = .ok (.getfield 34, 3) := by decide +kernel
theorem dX13_rise_38 : decode cX13_rise 38 = .ok (.iload_n 1, 1) := by decide +kernel
theorem dX13_rise_39 : decode cX13_rise 39 = .ok (.iaload, 1) := by decide +kernel
theorem dX13_rise_40 : decode cX13_rise 40 = .ok (.iload 4, 2) := by decide +kernel
theorem dX13_rise_42 : decode cX13_rise 42 = .ok (.isub, 1) := by decide +kernel
theorem dX13_rise_43 : decode cX13_rise 43 = .ok (.bipush 56, 2) := by decide +kernel
theorem dX13_rise_45 : decode cX13_rise 45 = .ok (.if_icmp .ge 14, 3) := by decide +kernel
theorem dX13_rise_48 : decode cX13_rise 48 = .ok (.aload_n 0, 1) := by decide +kernel
theorem dX13_rise_49 : decode cX13_rise 49 = .ok (.dup, 1) := by decide +kernel
theorem dX13_rise_50 : decode cX13_rise 50 = .ok (.getfield 72, 3) := by decide +kernel
theorem dX13_rise_53 : decode cX13_rise 53 = .ok (.iconst 1, 1) := by decide +kernel
theorem dX13_rise_54 : decode cX13_rise 54 = .ok (.iadd, 1) := by decide +kernel
theorem dX13_rise_55 : decode cX13_rise 55 = .ok (.putfield 72, 3) := by decide +kernel
theorem dX13_rise_58 : decode cX13_rise 58 = .ok (.return_, 1) := by decide +kernel
theorem dX13_rise_59 : decode cX13_rise 59 = .ok (.aload_n 0, 1) := by decide +kernel
theorem dX13_rise_60 : decode cX13_rise 60 = .ok (.getfield 31, 3) := by decide +kernel
theorem dX13_rise_63 : decode cX13_rise 63 = .ok (.iload_n 1, 1) := by decide +kernel
theorem dX13_rise_64 : decode cX13_rise 64 = .ok (.iload 4, 2) := by decide +kernel
theorem dX13_rise_66 : decode cX13_rise 66 = .ok (.iastore, 1) := by decide +kernel
theorem dX13_rise_67 : decode cX13_rise 67 = .ok (.iload 4, 2) := by decide +kernel
theorem dX13_rise_69 : decode cX13_rise 69 = .ok (.iload_n 3, 1) := by decide +kernel
theorem dX13_rise_70 : decode cX13_rise 70 = .ok (.if_icmp .ne 8, 3) := by decide +kernel
theorem dX13_rise_73 : decode cX13_rise 73 = .ok (.aload_n 0, 1) := by decide +kernel
theorem dX13_rise_74 : decode cX13_rise 74 = .ok (.iload_n 1, 1) := by decide +kernel
theorem dX13_rise_75 : decode cX13_rise 75 = .ok (.invokevirtual 90, 3) := by decide +kernel
theorem dX13_rise_78 : decode cX13_rise 78 = .ok (.return_, 1) := by decide +kernel
theorem dX13_step_0 : decode cX13_step 0 = .ok (.aload_n 0, 1) := by decide +kernel
theorem dX13_step_1 : decode cX13_step 1 = .ok (.getfield 37, 3) := by decide +kernel
theorem dX13_step_4 : decode cX13_step 4 = .ok (.iload_n 1, 1) := by decide +kernel
theorem dX13_step_5 : decode cX13_step 5 = .ok (.iaload, 1) := by decide +kernel
theorem dX13_step_6 : decode cX13_step 6 = .ok (.ifCond .ne 11, 3) := by decide +kernel
theorem dX13_step_9 : decode cX13_step 9 = .ok (.aload_n 0, 1) := by decide +kernel
theorem dX13_step_10 : decode cX13_step 10 = .ok (.iload_n 1, 1) := by decide +kernel
theorem dX13_step_11 : decode cX13_step 11 = .ok (.invokevirtual 94, 3) := by decide +kernel
theorem dX13_step_14 : decode cX13_step 14 = .ok (.goto 114, 3) := by decide +kernel
theorem dX13_step_17 : decode cX13_step 17 = .ok (.aload_n 0, 1) := by decide +kernel
theorem dX13_step_18 : decode cX13_step 18 = .ok (.getfield 37, 3) := by decide +kernel
theorem dX13_step_21 : decode cX13_step 21 = .ok (.iload_n 1, 1) := by decide +kernel
theorem dX13_step_22 : decode cX13_step 22 = .ok (.iaload, 1) := by decide +kernel
theorem dX13_step_23 : decode cX13_step 23 = .ok (.iconst 2, 1) := by decide +kernel
theorem dX13_step_24 : decode cX13_step 24 = .ok (.if_icmp .ne 18, 3) := by decide +kernel
theorem dX13_step_27 : decode cX13_step 27 = .ok (.aload_n 0, 1) := by decide +kernel
theorem dX13_step_28 : decode cX13_step 28 = .ok (.iload_n 1, 1) := by decide +kernel
theorem dX13_step_29 : decode cX13_step 29 = .ok (.iconst 2, 1) := by decide +kernel
theorem dX13_step_30 : decode cX13_step 30 = .ok (.aload_n 0, 1) := by decide +kernel
theorem dX13_step_31 : decode cX13_step 31 = .ok (.getfield 46, 3) := by decide +kernel
theorem dX13_step_34 : decode cX13_step 34 = .ok (.iload_n 1, 1) := by decide +kernel
theorem dX13_step_35 : decode cX13_step 35 = .ok (.iaload, 1) := by decide +kernel
theorem dX13_step_36 : decode cX13_step 36 = .ok (.invokevirtual 97, 3) := by decide +kernel
theorem dX13_step_39 : decode cX13_step 39 = .ok (.goto 89, 3) := by decide +kernel
theorem dX13_step_42 : decode cX13_step 42 = .ok (.aload_n 0, 1) := by decide +kernel
theorem dX13_step_43 : decode cX13_step 43 = .ok (.getfield 40, 3) := by decide +kernel
theorem dX13_step_46 : decode cX13_step 46 = .ok (.iload_n 1, 1) := by decide +kernel
theorem dX13_step_47 : decode cX13_step 47 = .ok (.iaload, 1) := by decide +kernel
theorem dX13_step_48 : decode cX13_step 48 = .ok (.ifCond .le 18, 3) := by decide +kernel
theorem dX13_step_51 : decode cX13_step 51 = .ok (.aload_n 0, 1) := by decide +kernel
theorem dX13_step_52 : decode cX13_step 52 = .ok (.iload_n 1, 1) := by decide +kernel
theorem dX13_step_53 : decode cX13_step 53 = .ok (.iconst 4, 1) := by decide +kernel
theorem dX13_step_54 : decode cX13_step 54 = .ok (.aload_n 0, 1) := by decide +kernel
theorem dX13_step_55 : decode cX13_step 55 = .ok (.getfield 49, 3) := by decide +kernel
theorem dX13_step_58 : decode cX13_step 58 = .ok (.iload_n 1, 1) := by decide +kernel
theorem dX13_step_59 : decode cX13_step 59 = .ok (.iaload, 1) := by decide +kernel
theorem dX13_step_60 : decode cX13_step 60 = .ok (.invokevirtual 97, 3) := by decide +kernel
theorem dX13_step_63 : decode cX13_step 63 = .ok (.goto 65, 3) := by decide +kernel
theorem dX13_step_66 : decode cX13_step 66 = .ok (.aload_n 0, 1) := by decide +kernel
theorem dX13_step_67 : decode cX13_step 67 = .ok (.getfield 31, 3) := by decide +kernel
theorem dX13_step_70 : decode cX13_step 70 = .ok (.iload_n 1, 1) := by decide +kernel
theorem dX13_step_71 : decode cX13_step 71 = .ok (.aload_n 0, 1) := by decide +kernel
theorem dX13_step_72 : decode cX13_step 72 = .ok (.getfield 31, 3) := by decide +kernel
theorem dX13_step_75 : decode cX13_step 75 = .ok (.iload_n 1, 1) := by decide +kernel
theorem dX13_step_76 : decode cX13_step 76 = .ok (.iaload, 1) := by decide +kernel
theorem dX13_step_77 : decode cX13_step 77 = .ok (.iconst 4, 1) := by decide +kernel
theorem dX13_step_78 : decode cX13_step 78 = .ok (.isub, 1) := by decide +kernel
theorem dX13_step_79 : decode cX13_step 79 = .ok (.aload_n 0, 1) := by decide +kernel
theorem dX13_step_80 : decode cX13_step 80 = .ok (.getfield 46, 3) := by decide +kernel
theorem dX13_step_83 : decode cX13_step 83 = .ok (.iload_n 1, 1) := by decide +kernel
theorem dX13_step_84 : decode cX13_step 84 = .ok (.iaload, 1) := by decide +kernel
theorem dX13_step_85 : decode cX13_step 85 = .ok (.if_icmp .ge 12, 3) := by decide +kernel
theorem dX13_step_88 : decode cX13_step 88 = .ok (.aload_n 0, 1) := by decide +kernel
theorem dX13_step_89 : decode cX13_step 89 = .ok (.getfield 46, 3) := by decide +kernel
theorem dX13_step_92 : decode cX13_step 92 = .ok (.iload_n 1, 1) := by decide +kernel
theorem dX13_step_93 : decode cX13_step 93 = .ok (.iaload, 1) := by decide +kernel
theorem dX13_step_94 : decode cX13_step 94 = .ok (.goto 11, 3) := by decide +kernel
theorem dX13_step_97 : decode cX13_step 97 = .ok (.aload_n 0, 1) := by decide +kernel
theorem dX13_step_98 : decode cX13_step 98 = .ok (.getfield 31, 3) := by decide +kernel
theorem dX13_step_101 : decode cX13_step 101 = .ok (.iload_n 1, 1) := by decide +kernel
theorem dX13_step_102 : decode cX13_step 102 = .ok (.iaload, 1) := by decide +kernel
theorem dX13_step_103 : decode cX13_step 103 = .ok (.iconst 4, 1) := by decide +kernel
theorem dX13_step_104 : decode cX13_step 104 = .ok (.isub, 1) := by decide +kernel
theorem dX13_step_105 : decode cX13_step 105 = .ok (.iastore, 1) := by decide +kernel
theorem dX13_step_106 : decode cX13_step 106 = .ok (.aload_n 0, 1) := by decide +kernel
theorem dX13_step_107 : decode cX13_step 107 = .ok (.getfield 31, 3) := by decide +kernel
theorem dX13_step_110 : decode cX13_step 110 = .ok (.iload_n 1, 1) := by decide +kernel
theorem dX13_step_111 : decode cX13_step 111 = .ok (.iaload, 1) := by decide +kernel
theorem dX13_step_112 : decode cX13_step 112 = .ok (.aload_n 0, 1) := by decide +kernel
theorem dX13_step_113 : decode cX13_step 113 = .ok (.getfield 46, 3) := by decide +kernel
theorem dX13_step_116 : decode cX13_step 116 = .ok (.iload_n 1, 1) := by decide +kernel
theorem dX13_step_117 : decode cX13_step 117 = .ok (.iaload, 1) := by decide +kernel
theorem dX13_step_118 : decode cX13_step 118 = .ok (.if_icmp .ne 10, 3) := by decide +kernel
theorem dX13_step_121 : decode cX13_step 121 = .ok (.aload_n 0, 1) := by decide +kernel
theorem dX13_step_122 : decode cX13_step 122 = .ok (.iload_n 1, 1) := by decide +kernel
theorem dX13_step_123 : decode cX13_step 123 = .ok (.bipush 30, 2) := by decide +kernel
theorem dX13_step_125 : decode cX13_step 125 = .ok (.invokevirtual 86, 3) := by decide +kernel
theorem dX13_step_128 : decode cX13_step 128 = .ok (.return_, 1) := by decide +kernel
theorem dX13_ticks_0 : decode cX13_ticks 0 = .ok (.iload_n 1, 1) := by decide +kernel
theorem dX13_ticks_1 : decode cX13_ticks 1 = .ok (.ifCond .lt 10, 3) := by decide +kernel
theorem dX13_ticks_4 : decode cX13_ticks 4 = .ok (.iload_n 1, 1) := by decide +kernel
theorem dX13_ticks_5 : decode cX13_ticks 5 = .ok (.sipush 1000, 3) := by decide +kernel
theorem dX13_ticks_8 : decode cX13_ticks 8 = .ok (.if_icmp .le 5, 3) := by decide +kernel
theorem dX13_ticks_11 : decode cX13_ticks 11 = .ok (.iconst (-1), 1) := by decide +kernel
theorem dX13_ticks_12 : decode cX13_ticks 12 = .ok (.ireturn, 1) := by decide +kernel
theorem dX13_ticks_13 : decode cX13_ticks 13 = .ok (.iconst 0, 1) := by decide +kernel
theorem dX13_ticks_14 : decode cX13_ticks 14 = .ok (.istore_n 2, 1) := by decide +kernel
theorem dX13_ticks_15 : decode cX13_ticks 15 = .ok (.iload_n 2, 1) := by decide +kernel
theorem dX13_ticks_16 : decode cX13_ticks 16 = .ok (.iload_n 1, 1) := by decide +kernel
theorem dX13_ticks_17 : decode cX13_ticks 17 = .ok (.if_icmp .ge 113, 3) := by decide +kernel
theorem dX13_ticks_20 : decode cX13_ticks 20 = .ok (.aload_n 0, 1) := by decide +kernel
theorem dX13_ticks_21 : decode cX13_ticks 21 = .ok (.dup, 1) := by decide +kernel
theorem dX13_ticks_22 : decode cX13_ticks 22 = .ok (.getfield 69, 3) := by decide +kernel
theorem dX13_ticks_25 : decode cX13_ticks 25 = .ok (.iconst 1, 1) := by decide +kernel
theorem dX13_ticks_26 : decode cX13_ticks 26 = .ok (.iadd, 1) := by decide +kernel
theorem dX13_ticks_27 : decode cX13_ticks 27 = .ok (.putfield 69, 3) := by decide +kernel
theorem dX13_ticks_30 : decode cX13_ticks 30 = .ok (.iconst 0, 1) := by decide +kernel
theorem dX13_ticks_31 : decode cX13_ticks 31 = .ok (.istore_n 3, 1) := by decide +kernel
theorem dX13_ticks_32 : decode cX13_ticks 32 = .ok (.iload_n 3, 1) := by decide +kernel
theorem dX13_ticks_33 : decode cX13_ticks 33 = .ok (.aload_n 0, 1) := by decide +kernel
theorem dX13_ticks_34 : decode cX13_ticks 34 = .ok (.getfield 56, 3) := by decide +kernel
theorem dX13_ticks_37 : decode cX13_ticks 37 = .ok (.if_icmp .ge 87, 3) := by decide +kernel
theorem dX13_ticks_40 : decode cX13_ticks 40 = .ok (.aload_n 0, 1) := by decide +kernel
theorem dX13_ticks_41 : decode cX13_ticks 41 = .ok (.getfield 37, 3) := by decide +kernel
theorem dX13_ticks_44 : decode cX13_ticks 44 = .ok (.iload_n 3, 1) := by decide +kernel
theorem dX13_ticks_45 : decode cX13_ticks 45 = .ok (.iaload, 1) := by decide +kernel
theorem dX13_ticks_46 : decode cX13_ticks 46 = .ok (.ifCond .lt 58, 3) := by decide +kernel
theorem dX13_ticks_49 : decode cX13_ticks 49 = .ok (.aload_n 0, 1) := by decide +kernel
theorem dX13_ticks_50 : decode cX13_ticks 50 = .ok (.getfield 43, 3) := by decide +kernel
theorem dX13_ticks_53 : decode cX13_ticks 53 = .ok (.iload_n 3, 1) := by decide +kernel
theorem dX13_ticks_54 : decode cX13_ticks 54 = .ok (.iaload, 1) := by decide +kernel
theorem dX13_ticks_55 : decode cX13_ticks 55 = .ok (.ifCond .le 49, 3) := by decide +kernel
theorem dX13_ticks_58 : decode cX13_ticks 58 = .ok (.aload_n 0, 1) := by decide +kernel
theorem dX13_ticks_59 : decode cX13_ticks 59 = .ok (.getfield 43, 3) := by decide +kernel
theorem dX13_ticks_62 : decode cX13_ticks 62 = .ok (.iload_n 3, 1) := by decide +kernel
theorem dX13_ticks_63 : decode cX13_ticks 63 = .ok (.dup2, 1) := by decide +kernel
theorem dX13_ticks_64 : decode cX13_ticks 64 = .ok (.iaload, 1) := by decide +kernel
theorem dX13_ticks_65 : decode cX13_ticks 65 = .ok (.iconst 1, 1) := by decide +kernel
theorem dX13_ticks_66 : decode cX13_ticks 66 = .ok (.isub, 1) := by decide +kernel
theorem dX13_ticks_67 : decode cX13_ticks 67 = .ok (.iastore, 1) := by decide +kernel
theorem dX13_ticks_68 : decode cX13_ticks 68 = .ok (.aload_n 0, 1) := by decide +kernel
theorem dX13_ticks_69 : decode cX13_ticks 69 = .ok (.getfield 40, 3) := by decide +kernel
theorem dX13_ticks_72 : decode cX13_ticks 72 = .ok (.iload_n 3, 1) := by decide +kernel
theorem dX13_ticks_73 : decode cX13_ticks 73 = .ok (.aload_n 0, 1) := by decide +kernel
theorem dX13_ticks_74 : decode cX13_ticks 74 = .ok (.getfield 43, 3) := by decide +kernel
theorem dX13_ticks_77 : decode cX13_ticks 77 = .ok (.iload_n 3, 1) := by decide +kernel
theorem dX13_ticks_78 : decode cX13_ticks 78 = .ok (.iaload, 1) := by decide +kernel
theorem dX13_ticks_79 : decode cX13_ticks 79 = .ok (.ifCond .le 7, 3) := by decide +kernel
theorem dX13_ticks_82 : decode cX13_ticks 82 = .ok (.iconst 0, 1) := by decide +kernel
theorem dX13_ticks_83 : decode cX13_ticks 83 = .ok (.goto 17, 3) := by decide +kernel
theorem dX13_ticks_86 : decode cX13_ticks 86 = .ok (.aload_n 0, 1) := by decide +kernel
theorem dX13_ticks_87 : decode cX13_ticks 87 = .ok (.getfield 37, 3) := by decide +kernel
theorem dX13_ticks_90 : decode cX13_ticks 90 = .ok (.iload_n 3, 1) := by decide +kernel
theorem dX13_ticks_91 : decode cX13_ticks 91 = .ok (.iaload, 1) := by decide +kernel
theorem dX13_ticks_92 : decode cX13_ticks 92 = .ok (.ifCond .ne 7, 3) := by decide +kernel
theorem dX13_ticks_95 : decode cX13_ticks 95 = .ok (.iconst (-1), 1) := by decide +kernel
theorem dX13_ticks_96 : decode cX13_ticks 96 = .ok (.goto 4, 3) := by decide +kernel
theorem dX13_ticks_99 : decode cX13_ticks 99 = .ok (.iconst 1, 1) := by decide +kernel
theorem dX13_ticks_100 : decode cX13_ticks 100 = .ok (.iastore, 1) := by decide +kernel
theorem dX13_ticks_101 : decode cX13_ticks 101 = .ok (.goto 17, 3) := by decide +kernel
theorem dX13_ticks_104 : decode cX13_ticks 104 = .ok (.aload_n 0, 1) := by decide +kernel
theorem dX13_ticks_105 : decode cX13_ticks 105 = .ok (.getfield 37, 3) := by decide +kernel
theorem dX13_ticks_108 : decode cX13_ticks 108 = .ok (.iload_n 3, 1) := by decide +kernel
theorem dX13_ticks_109 : decode cX13_ticks 109 = .ok (.iaload, 1) := by decide +kernel
theorem dX13_ticks_110 : decode cX13_ticks 110 = .ok (.ifCond .lt 8, 3) := by decide +kernel
theorem dX13_ticks_113 : decode cX13_ticks 113 = .ok (.aload_n 0, 1) := by decide +kernel
theorem dX13_ticks_114 : decode cX13_ticks 114 = .ok (.iload_n 3, 1) := by decide +kernel
theorem dX13_ticks_115 : decode cX13_ticks 115 = .ok (.invokevirtual 101, 3) := by decide +kernel
theorem dX13_ticks_118 : decode cX13_ticks 118 = .ok (.iinc 3 1, 3) := by decide +kernel
theorem dX13_ticks_121 : decode cX13_ticks 121 = .ok (.goto (-89), 3) := by decide +kernel
theorem dX13_ticks_124 : decode cX13_ticks 124 = .ok (.iinc 2 1, 3) := by decide +kernel
theorem dX13_ticks_127 : decode cX13_ticks 127 = .ok (.goto (-112), 3) := by decide +kernel
theorem dX13_ticks_130 : decode cX13_ticks 130 = .ok (.aload_n 0, 1) := by decide +kernel
theorem dX13_ticks_131 : decode cX13_ticks 131 = .ok (.getfield 69, 3) := by decide +kernel
theorem dX13_ticks_134 : decode cX13_ticks 134 = .ok (.ireturn, 1) := by decide +kernel
theorem dX17_go_0 : decode cX17_go 0 = .ok (.aload_n 0, 1) := by decide +kernel
theorem dX17_go_1 : decode cX17_go 1 = .ok (.aload_n 0, 1) := by decide +kernel
theorem dX17_go_2 : decode cX17_go 2 = .ok (.getfield 265, 3) := by decide +kernel
theorem dX17_go_5 : decode cX17_go 5 = .ok (.iload_n 3, 1) := by decide +kernel
theorem dX17_go_6 : decode cX17_go 6 = .ok (.iadd, 1) := by decide +kernel
theorem dX17_go_7 : decode cX17_go 7 = .ok (.bipush 64, 2) := by decide +kernel
theorem dX17_go_9 : decode cX17_go 9 = .ok (.iadd, 1) := by decide +kernel
theorem dX17_go_10 : decode cX17_go 10 = .ok (.bipush 64, 2) := by decide +kernel
theorem dX17_go_12 : decode cX17_go 12 = .ok (.irem, 1) := by decide +kernel
theorem dX17_go_13 : decode cX17_go 13 = .ok (.putfield 265, 3) := by decide +kernel
theorem dX17_go_16 : decode cX17_go 16 = .ok (.aload_n 0, 1) := by decide +kernel
theorem dX17_go_17 : decode cX17_go 17 = .ok (.getfield 265, 3) := by decide +kernel
theorem dX17_go_20 : decode cX17_go 20 = .ok (.invokestatic 67, 3) := by decide +kernel
theorem dX17_go_23 : decode cX17_go 23 = .ok (.i2l, 1) := by decide +kernel
theorem dX17_go_24 : decode cX17_go 24 = .ok (.iload_n 1, 1) := by decide +kernel
theorem dX17_go_25 : decode cX17_go 25 = .ok (.i2l, 1) := by decide +kernel
theorem dX17_go_26 : decode cX17_go 26 = .ok (.lmul, 1) := by decide +kernel
theorem dX17_go_27 : decode cX17_go 27 = .ok (.aload_n 0, 1) := by decide +kernel
theorem dX17_go_28 : decode cX17_go 28 = .ok (.getfield 265, 3) := by decide +kernel
theorem dX17_go_31 : decode cX17_go 31 = .ok (.invokestatic 272, 3) := by decide +kernel
theorem dX17_go_34 : decode cX17_go 34 = .ok (.i2l, 1) := by decide +kernel
theorem dX17_go_35 : decode cX17_go 35 = .ok (.iload_n 2, 1) := by decide +kernel
theorem dX17_go_36 : decode cX17_go 36 = .ok (.i2l, 1) := by decide +kernel
theorem dX17_go_37 : decode cX17_go 37 = .ok (.lmul, 1) := by decide +kernel
theorem dX17_go_38 : decode cX17_go 38 = .ok (.ladd, 1) := by decide +kernel
theorem dX17_go_39 : decode cX17_go 39 = .ok (.ldc2_w 263, 3) := by decide +kernel
theorem dX17_go_42 : decode cX17_go 42 = .ok (.invokestatic 233, 3) := by decide +kernel
theorem dX17_go_45 : decode cX17_go 45 = .ok (.l2i, 1) := by decide +kernel
theorem dX17_go_46 : decode cX17_go 46 = .ok (.istore 5, 2) := by decide +kernel
theorem dX17_go_48 : decode cX17_go 48 = .ok (.aload_n 0, 1) := by decide +kernel
theorem dX17_go_49 : decode cX17_go 49 = .ok (.getfield 265, 3) := by decide +kernel
theorem dX17_go_52 : decode cX17_go 52 = .ok (.invokestatic 272, 3) := by decide +kernel
theorem dX17_go_55 : decode cX17_go 55 = .ok (.i2l, 1) := by decide +kernel
theorem dX17_go_56 : decode cX17_go 56 = .ok (.iload_n 1, 1) := by decide +kernel
theorem dX17_go_57 : decode cX17_go 57 = .ok (.i2l, 1) := by decide +kernel
theorem dX17_go_58 : decode cX17_go 58 = .ok (.lmul, 1) := by decide +kernel
theorem dX17_go_59 : decode cX17_go 59 = .ok (.aload_n 0, 1) := by decide +kernel
theorem dX17_go_60 : decode cX17_go 60 = .ok (.getfield 265, 3) := by decide +kernel
theorem dX17_go_63 : decode cX17_go 63 = .ok (.invokestatic 67, 3) := by decide +kernel
theorem dX17_go_66 : decode cX17_go 66 = .ok (.i2l, 1) := by decide +kernel
theorem dX17_go_67 : decode cX17_go 67 = .ok (.iload_n 2, 1) := by decide +kernel
theorem dX17_go_68 : decode cX17_go 68 = .ok (.i2l, 1) := by decide +kernel
theorem dX17_go_69 : decode cX17_go 69 = .ok (.lmul, 1) := by decide +kernel
theorem dX17_go_70 : decode cX17_go 70 = .ok (.lsub, 1) := by decide +kernel
theorem dX17_go_71 : decode cX17_go 71 = .ok (.ldc2_w 263, 3) := by decide +kernel
theorem dX17_go_74 : decode cX17_go 74 = .ok (.invokestatic 233, 3) := by decide +kernel
theorem dX17_go_77 : decode cX17_go 77 = .ok (.l2i, 1) := by decide +kernel
theorem dX17_go_78 : decode cX17_go 78 = .ok (.istore 6, 2) := by decide +kernel
theorem dX17_go_80 : decode cX17_go 80 = .ok (.iload 5, 2) := by decide +kernel
theorem dX17_go_82 : decode cX17_go 82 = .ok (.ifCond .ne 12, 3) := by decide +kernel
theorem dX17_go_85 : decode cX17_go 85 = .ok (.iload 6, 2) := by decide +kernel
theorem dX17_go_87 : decode cX17_go 87 = .ok (.ifCond .ne 7, 3) := by decide +kernel
theorem dX17_go_90 : decode cX17_go 90 = .ok (.iconst 0, 1) := by decide +kernel
theorem dX17_go_91 : decode cX17_go 91 = .ok (.goto 19, 3) := by decide +kernel
theorem dX17_go_94 : decode cX17_go 94 = .ok (.aload_n 0, 1) := by decide +kernel
theorem dX17_go_95 : decode cX17_go 95 = .ok (.iload 5, 2) := by decide +kernel
theorem dX17_go_97 : decode cX17_go 97 = .ok (.iload 6, 2) := by decide +kernel
theorem dX17_go_99 : decode cX17_go 99 = .ok (.invokevirtual 331, 3) := by decide +kernel
theorem dX17_go_102 : decode cX17_go 102 = .ok (.ifCond .eq 7, 3) := by decide +kernel
theorem dX17_go_105 : decode cX17_go 105 = .ok (.iconst 1, 1) := by decide +kernel
theorem dX17_go_106 : decode cX17_go 106 = .ok (.goto 4, 3) := by decide +kernel
theorem dX17_go_109 : decode cX17_go 109 = .ok (.iconst 2, 1) := by decide +kernel
theorem dX17_go_110 : decode cX17_go 110 = .ok (.istore 7, 2) := by decide +kernel
theorem dX17_go_112 : decode cX17_go 112 = .ok (.iload 4, 2) := by decide +kernel
theorem dX17_go_114 : decode cX17_go 114 = .ok (.ifCond .eq 7, 3) := by decide +kernel
theorem dX17_go_117 : decode cX17_go 117 = .ok (.aload_n 0, 1) := by decide +kernel
theorem dX17_go_118 : decode cX17_go 118 = .ok (.invokevirtual 334, 3) := by decide +kernel
theorem dX17_go_121 : decode cX17_go 121 = .ok (.aload_n 0, 1) := by decide +kernel
theorem dX17_go_122 : decode cX17_go 122 = .ok (.getfield 26, 3) := by decide +kernel
theorem dX17_go_125 : decode cX17_go 125 = .ok (.aload_n 0, 1) := by decide +kernel
theorem dX17_go_126 : decode cX17_go 126 = .ok (.getfield 224, 3) := by decide +kernel
theorem dX17_go_129 : decode cX17_go 129 = .ok (.putfield 337, 3) := by decide +kernel
theorem dX17_go_132 : decode cX17_go 132 = .ok (.aload_n 0, 1) := by decide +kernel
theorem dX17_go_133 : decode cX17_go 133 = .ok (.getfield 26, 3) := by decide +kernel
theorem dX17_go_136 : decode cX17_go 136 = .ok (.iconst 1, 1) := by decide +kernel
theorem dX17_go_137 : decode cX17_go 137 = .ok (.invokevirtual 340, 3) := by decide +kernel
theorem dX17_go_140 : decode cX17_go 140 = .ok (.istore 8, 2) := by decide +kernel
theorem dX17_go_142 : decode cX17_go 142 = .ok (.iload 7, 2) := by decide +kernel
theorem dX17_go_144 : decode cX17_go 144 = .ok (.ireturn, 1) := by decide +kernel
theorem dX17_playTo_0 : decode cX17_playTo 0 = .ok (.aload_n 0, 1) := by decide +kernel
theorem dX17_playTo_1 : decode cX17_playTo 1 = .ok (.iconst 0, 1) := by decide +kernel
theorem dX17_playTo_2 : decode cX17_playTo 2 = .ok (.putfield 60, 3) := by decide +kernel
theorem dX17_playTo_5 : decode cX17_playTo 5 = .ok (.aload_n 0, 1) := by decide +kernel
theorem dX17_playTo_6 : decode cX17_playTo 6 = .ok (.getfield 77, 3) := by decide +kernel
theorem dX17_playTo_9 : decode cX17_playTo 9 = .ok (.ifCond .eq 18, 3) := by decide +kernel
theorem dX17_playTo_12 : decode cX17_playTo 12 = .ok (.iload_n 1, 1) := by decide +kernel
theorem dX17_playTo_13 : decode cX17_playTo 13 = .ok (.ifCond .lt 14, 3) := by decide +kernel
theorem dX17_playTo_16 : decode cX17_playTo 16 = .ok (.iload_n 1, 1) := by decide +kernel
theorem dX17_playTo_17 : decode cX17_playTo 17 = .ok (.aload_n 0, 1) := by decide +kernel
theorem dX17_playTo_18 : decode cX17_playTo 18 = .ok (.getfield 19, 3) := by decide +kernel
theorem dX17_playTo_21 : decode cX17_playTo 21 = .ok (.getfield 98, 3) := by decide +kernel
theorem dX17_playTo_24 : decode cX17_playTo 24 = .ok (.if_icmp .le 5, 3) := by decide +kernel
theorem dX17_playTo_27 : decode cX17_playTo 27 = .ok (.iconst (-1), 1) := by decide +kernel
theorem dX17_playTo_28 : decode cX17_playTo 28 = .ok (.ireturn, 1) := by decide +kernel
theorem dX17_playTo_29 : decode cX17_playTo 29 = .ok (.aload_n 0, 1) := by decide +kernel
theorem dX17_playTo_30 : decode cX17_playTo 30 = .ok (.invokevirtual 105, 3) := by decide +kernel
theorem dX17_playTo_33 : decode cX17_playTo 33 = .ok (.iconst 0, 1) := by decide +kernel
theorem dX17_playTo_34 : decode cX17_playTo 34 = .ok (.istore_n 2, 1) := by decide +kernel
theorem dX17_playTo_35 : decode cX17_playTo 35 = .ok (.iconst 0, 1) := by decide +kernel
theorem dX17_playTo_36 : decode cX17_playTo 36 = .ok (.istore_n 3, 1) := by decide +kernel
theorem dX17_playTo_37 : decode cX17_playTo 37 = .ok (.iload_n 3, 1) := by decide +kernel
theorem dX17_playTo_38 : decode cX17_playTo 38 = .ok (.iload_n 1, 1) := by decide +kernel
theorem dX17_playTo_39 : decode cX17_playTo 39 = .ok (.if_icmp .ge 61, 3) := by decide +kernel
theorem dX17_playTo_42 : decode cX17_playTo 42 = .ok (.iload_n 2, 1) := by decide +kernel
theorem dX17_playTo_43 : decode cX17_playTo 43 = .ok (.aload_n 0, 1) := by decide +kernel
theorem dX17_playTo_44 : decode cX17_playTo 44 = .ok (.aload_n 0, 1) := by decide +kernel
theorem dX17_playTo_45 : decode cX17_playTo 45 = .ok (.getfield 19, 3) := by decide +kernel
theorem dX17_playTo_48 : decode cX17_playTo 48 = .ok (.getfield 343, 3) := by decide +kernel
theorem dX17_playTo_51 : decode cX17_playTo 51 = .ok (.iload_n 3, 1) := by decide +kernel
theorem dX17_playTo_52 : decode cX17_playTo 52 = .ok (.iaload, 1) := by decide +kernel
theorem dX17_playTo_53 : decode cX17_playTo 53 = .ok (.aload_n 0, 1) := by decide +kernel
theorem dX17_playTo_54 : decode cX17_playTo 54 = .ok (.getfield 19, 3) := by decide +kernel
theorem dX17_playTo_57 : decode cX17_playTo 57 = .ok (.getfield 346, 3) := by decide +kernel
theorem dX17_playTo_60 : decode cX17_playTo 60 = .ok (.iload_n 3, 1) := by decide +kernel
theorem dX17_playTo_61 : decode cX17_playTo 61 = .ok (.iaload, 1) := by decide +kernel
theorem dX17_playTo_62 : decode cX17_playTo 62 = .ok (.aload_n 0, 1) := by decide +kernel
theorem dX17_playTo_63 : decode cX17_playTo 63 = .ok (.getfield 19, 3) := by decide +kernel
theorem dX17_playTo_66 : decode cX17_playTo 66 = .ok (.getfield 349, 3) := by decide +kernel
theorem dX17_playTo_69 : decode cX17_playTo 69 = .ok (.iload_n 3, 1) := by decide +kernel
theorem dX17_playTo_70 : decode cX17_playTo 70 = .ok (.iaload, 1) := by decide +kernel
theorem dX17_playTo_71 : decode cX17_playTo 71 = .ok (.aload_n 0, 1) := by decide +kernel
theorem dX17_playTo_72 : decode cX17_playTo 72 = .ok (.getfield 19, 3) := by decide +kernel
theorem dX17_playTo_75 : decode cX17_playTo 75 = .ok (.getfield 352, 3) := by decide +kernel
theorem dX17_playTo_78 : decode cX17_playTo 78 = .ok (.iload_n 3, 1) := by decide +kernel
theorem dX17_playTo_79 : decode cX17_playTo 79 = .ok (.baload, 1) := by decide +kernel
theorem dX17_playTo_80 : decode cX17_playTo 80 = .ok (.invokevirtual 355, 3) := by decide +kernel
theorem dX17_playTo_83 : decode cX17_playTo 83 = .ok (.iconst 2, 1) := by decide +kernel
theorem dX17_playTo_84 : decode cX17_playTo 84 = .ok (.if_icmp .ne 7, 3) := by decide +kernel
theorem dX17_playTo_87 : decode cX17_playTo 87 = .ok (.iconst 1, 1) := by decide +kernel
theorem dX17_playTo_88 : decode cX17_playTo 88 = .ok (.goto 4, 3) := by decide +kernel
theorem dX17_playTo_91 : decode cX17_playTo 91 = .ok (.iconst 0, 1) := by decide +kernel
theorem dX17_playTo_92 : decode cX17_playTo 92 = .ok (.iadd, 1) := by decide +kernel
theorem dX17_playTo_93 : decode cX17_playTo 93 = .ok (.istore_n 2, 1) := by decide +kernel
theorem dX17_playTo_94 : decode cX17_playTo 94 = .ok (.iinc 3 1, 3) := by decide +kernel
theorem dX17_playTo_97 : decode cX17_playTo 97 = .ok (.goto (-60), 3) := by decide +kernel
theorem dX17_playTo_100 : decode cX17_playTo 100 = .ok (.iload_n 2, 1) := by decide +kernel
theorem dX17_playTo_101 : decode cX17_playTo 101 = .ok (.ireturn, 1) := by decide +kernel
theorem dX12_stepBy_0 : decode cX12_stepBy 0 = .ok (.aload_n 0, 1) := by decide +kernel
theorem dX12_stepBy_1 : decode cX12_stepBy 1 = .ok (.invokevirtual 135, 3) := by decide +kernel
theorem dX12_stepBy_4 : decode cX12_stepBy 4 = .ok (.ifCond .eq 12, 3) := by decide +kernel
theorem dX12_stepBy_7 : decode cX12_stepBy 7 = .ok (.iload_n 1, 1) := by decide +kernel
theorem dX12_stepBy_8 : decode cX12_stepBy 8 = .ok (.iload_n 2, 1) := by decide +kernel
theorem dX12_stepBy_9 : decode cX12_stepBy 9 = .ok (.iload_n 3, 1) := by decide +kernel
theorem dX12_stepBy_10 : decode cX12_stepBy 10 = .ok (.invokestatic 165, 3) := by decide +kernel
theorem dX12_stepBy_13 : decode cX12_stepBy 13 = .ok (.ifCond .ne 5, 3) := by decide +kernel
theorem dX12_stepBy_16 : decode cX12_stepBy 16 = .ok (.iconst (-1), 1) := by decide +kernel
theorem dX12_stepBy_17 : decode cX12_stepBy 17 = .ok (.ireturn, 1) := by decide +kernel
theorem dX12_stepBy_18 : decode cX12_stepBy 18 = .ok (.aload_n 0, 1) := by decide +kernel
theorem dX12_stepBy_19 : decode cX12_stepBy 19 = .ok (.getfield 53, 3) := by decide +kernel
theorem dX12_stepBy_22 : decode cX12_stepBy 22 = .ok (.iload_n 1, 1) := by decide +kernel
theorem dX12_stepBy_23 : decode cX12_stepBy 23 = .ok (.iload_n 2, 1) := by decide +kernel
theorem dX12_stepBy_24 : decode cX12_stepBy 24 = .ok (.iload_n 3, 1) := by decide +kernel
theorem dX12_stepBy_25 : decode cX12_stepBy 25 = .ok (.iload 4, 2) := by decide +kernel
theorem dX12_stepBy_27 : decode cX12_stepBy 27 = .ok (.invokestatic 169, 3) := by decide +kernel
theorem dX12_stepBy_30 : decode cX12_stepBy 30 = .ok (.invokevirtual 179, 3) := by decide +kernel
theorem dX12_stepBy_33 : decode cX12_stepBy 33 = .ok (.ireturn, 1) := by decide +kernel
theorem dX17_stepBy_0 : decode cX17_stepBy 0 = .ok (.aload_n 0, 1) := by decide +kernel
theorem dX17_stepBy_1 : decode cX17_stepBy 1 = .ok (.iconst 0, 1) := by decide +kernel
theorem dX17_stepBy_2 : decode cX17_stepBy 2 = .ok (.putfield 60, 3) := by decide +kernel
theorem dX17_stepBy_5 : decode cX17_stepBy 5 = .ok (.aload_n 0, 1) := by decide +kernel
theorem dX17_stepBy_6 : decode cX17_stepBy 6 = .ok (.getfield 77, 3) := by decide +kernel
theorem dX17_stepBy_9 : decode cX17_stepBy 9 = .ok (.ifCond .eq 34, 3) := by decide +kernel
theorem dX17_stepBy_12 : decode cX17_stepBy 12 = .ok (.iload_n 1, 1) := by decide +kernel
theorem dX17_stepBy_13 : decode cX17_stepBy 13 = .ok (.bipush 64, 2) := by decide +kernel
theorem dX17_stepBy_15 : decode cX17_stepBy 15 = .ok (.invokestatic 359, 3) := by decide +kernel
theorem dX17_stepBy_18 : decode cX17_stepBy 18 = .ok (.ifCond .eq 25, 3) := by decide +kernel
theorem dX17_stepBy_21 : decode cX17_stepBy 21 = .ok (.iload_n 2, 1) := by decide +kernel
theorem dX17_stepBy_22 : decode cX17_stepBy 22 = .ok (.bipush 64, 2) := by decide +kernel
theorem dX17_stepBy_24 : decode cX17_stepBy 24 = .ok (.invokestatic 359, 3) := by decide +kernel
theorem dX17_stepBy_27 : decode cX17_stepBy 27 = .ok (.ifCond .eq 16, 3) := by decide +kernel
theorem dX17_stepBy_30 : decode cX17_stepBy 30 = .ok (.iload_n 3, 1) := by decide +kernel
theorem dX17_stepBy_31 : decode cX17_stepBy 31 = .ok (.bipush 16, 2) := by decide +kernel
theorem dX17_stepBy_33 : decode cX17_stepBy 33 = .ok (.invokestatic 359, 3) := by decide +kernel
theorem dX17_stepBy_36 : decode cX17_stepBy 36 = .ok (.ifCond .eq 7, 3) := by decide +kernel
theorem dX17_stepBy_39 : decode cX17_stepBy 39 = .ok (.iconst 1, 1) := by decide +kernel
theorem dX17_stepBy_40 : decode cX17_stepBy 40 = .ok (.goto 4, 3) := by decide +kernel
theorem dX17_stepBy_43 : decode cX17_stepBy 43 = .ok (.iconst 0, 1) := by decide +kernel
theorem dX17_stepBy_44 : decode cX17_stepBy 44 = .ok (.istore 5, 2) := by decide +kernel
theorem dX17_stepBy_46 : decode cX17_stepBy 46 = .ok (.iload 5, 2) := by decide +kernel
theorem dX17_stepBy_48 : decode cX17_stepBy 48 = .ok (.ifCond .eq 15, 3) := by decide +kernel
theorem dX17_stepBy_51 : decode cX17_stepBy 51 = .ok (.aload_n 0, 1) := by decide +kernel
theorem dX17_stepBy_52 : decode cX17_stepBy 52 = .ok (.iload_n 1, 1) := by decide +kernel
theorem dX17_stepBy_53 : decode cX17_stepBy 53 = .ok (.iload_n 2, 1) := by decide +kernel
theorem dX17_stepBy_54 : decode cX17_stepBy 54 = .ok (.iload_n 3, 1) := by decide +kernel
theorem dX17_stepBy_55 : decode cX17_stepBy 55 = .ok (.iload 4, 2) := by decide +kernel
theorem dX17_stepBy_57 : decode cX17_stepBy 57 = .ok (.invokevirtual 355, 3) := by decide +kernel
theorem dX17_stepBy_60 : decode cX17_stepBy 60 = .ok (.goto 4, 3) := by decide +kernel
theorem dX17_stepBy_63 : decode cX17_stepBy 63 = .ok (.iconst (-1), 1) := by decide +kernel
theorem dX17_stepBy_64 : decode cX17_stepBy 64 = .ok (.ireturn, 1) := by decide +kernel
theorem dX10_eye_0 : decode cX10_eye 0 = .ok (.aload_n 0, 1) := by decide +kernel
theorem dX10_eye_1 : decode cX10_eye 1 = .ok (.getfield 15, 3) := by decide +kernel
theorem dX10_eye_4 : decode cX10_eye 4 = .ok (.getfield 46, 3) := by decide +kernel
theorem dX10_eye_7 : decode cX10_eye 7 = .ok (.aload_n 0, 1) := by decide +kernel
theorem dX10_eye_8 : decode cX10_eye 8 = .ok (.getfield 42, 3) := by decide +kernel
theorem dX10_eye_11 : decode cX10_eye 11 = .ok (.aaload, 1) := by decide +kernel
theorem dX10_eye_12 : decode cX10_eye 12 = .ok (.getfield 50, 3) := by decide +kernel
theorem dX10_eye_15 : decode cX10_eye 15 = .ok (.bipush 41, 2) := by decide +kernel
theorem dX10_eye_17 : decode cX10_eye 17 = .ok (.iadd, 1) := by decide +kernel
theorem dX10_eye_18 : decode cX10_eye 18 = .ok (.ireturn, 1) := by decide +kernel
theorem dX12_walkerOf_0 : decode cX12_walkerOf 0 = .ok (.aload_n 0, 1) := by decide +kernel
theorem dX12_walkerOf_1 : decode cX12_walkerOf 1 = .ok (.invokevirtual 135, 3) := by decide +kernel
theorem dX12_walkerOf_4 : decode cX12_walkerOf 4 = .ok (.ifCond .ne 6, 3) := by decide +kernel
theorem dX12_walkerOf_7 : decode cX12_walkerOf 7 = .ok (.ldc 183, 2) := by decide +kernel
theorem dX12_walkerOf_9 : decode cX12_walkerOf 9 = .ok (.ireturn, 1) := by decide +kernel
theorem dX12_walkerOf_10 : decode cX12_walkerOf 10 = .ok (.iload_n 1, 1) := by decide +kernel
theorem dX12_walkerOf_11 : decode cX12_walkerOf 11 = .ok (.tableswitch 85 0 5 #[37, 45, 53, 61, 69, 77], 37) := by decide +kernel
theorem dX12_walkerOf_48 : decode cX12_walkerOf 48 = .ok (.aload_n 0, 1) := by decide +kernel
theorem dX12_walkerOf_49 : decode cX12_walkerOf 49 = .ok (.getfield 53, 3) := by decide +kernel
theorem dX12_walkerOf_52 : decode cX12_walkerOf 52 = .ok (.getfield 184, 3) := by decide +kernel
theorem dX12_walkerOf_55 : decode cX12_walkerOf 55 = .ok (.ireturn, 1) := by decide +kernel
theorem dX12_walkerOf_56 : decode cX12_walkerOf 56 = .ok (.aload_n 0, 1) := by decide +kernel
theorem dX12_walkerOf_57 : decode cX12_walkerOf 57 = .ok (.getfield 53, 3) := by decide +kernel
theorem dX12_walkerOf_60 : decode cX12_walkerOf 60 = .ok (.getfield 187, 3) := by decide +kernel
theorem dX12_walkerOf_63 : decode cX12_walkerOf 63 = .ok (.ireturn, 1) := by decide +kernel
theorem dX12_walkerOf_64 : decode cX12_walkerOf 64 = .ok (.aload_n 0, 1) := by decide +kernel
theorem dX12_walkerOf_65 : decode cX12_walkerOf 65 = .ok (.getfield 53, 3) := by decide +kernel
theorem dX12_walkerOf_68 : decode cX12_walkerOf 68 = .ok (.getfield 190, 3) := by decide +kernel
theorem dX12_walkerOf_71 : decode cX12_walkerOf 71 = .ok (.ireturn, 1) := by decide +kernel
theorem dX12_walkerOf_72 : decode cX12_walkerOf 72 = .ok (.aload_n 0, 1) := by decide +kernel
theorem dX12_walkerOf_73 : decode cX12_walkerOf 73 = .ok (.getfield 53, 3) := by decide +kernel
theorem dX12_walkerOf_76 : decode cX12_walkerOf 76 = .ok (.getfield 193, 3) := by decide +kernel
theorem dX12_walkerOf_79 : decode cX12_walkerOf 79 = .ok (.ireturn, 1) := by decide +kernel
theorem dX12_walkerOf_80 : decode cX12_walkerOf 80 = .ok (.aload_n 0, 1) := by decide +kernel
theorem dX12_walkerOf_81 : decode cX12_walkerOf 81 = .ok (.getfield 53, 3) := by decide +kernel
theorem dX12_walkerOf_84 : decode cX12_walkerOf 84 = .ok (.invokevirtual 194, 3) := by decide +kernel
theorem dX12_walkerOf_87 : decode cX12_walkerOf 87 = .ok (.ireturn, 1) := by decide +kernel
theorem dX12_walkerOf_88 : decode cX12_walkerOf 88 = .ok (.aload_n 0, 1) := by decide +kernel
theorem dX12_walkerOf_89 : decode cX12_walkerOf 89 = .ok (.getfield 53, 3) := by decide +kernel
theorem dX12_walkerOf_92 : decode cX12_walkerOf 92 = .ok (.getfield 198, 3) := by decide +kernel
theorem dX12_walkerOf_95 : decode cX12_walkerOf 95 = .ok (.ireturn, 1) := by decide +kernel
theorem dX12_walkerOf_96 : decode cX12_walkerOf 96 = .ok (.ldc 183, 2) := by decide +kernel
theorem dX12_walkerOf_98 : decode cX12_walkerOf 98 = .ok (.ireturn, 1) := by decide +kernel
def rm_X13_highFloor : Room := { frames := 0, cells := 0, slots := 0, locals := 0 }
theorem fl_X13_highFloor_56 {s : State} {meth : Method} {args : Array Value} {G : sv_G} {B : Nat} (hts : ∀ w ∈ sv_tb, w.before args s = true) (hC : sv_Cx G B s s.heap) (hni : meth.name = "highFloor") : sv_FL s meth args vwCl RX13 56 13 0 .int true :=
  ⟨_, RX13, TX13, 18, sv_tb, tyX13, rfl, by decide, hts, uw_X13, Or.inl (hts _ wd_1531), fun _ h => h, tyX13_ok 0 (by decide), tyX13_ok, nmX13, fun _ => Or.inl rfl⟩
theorem fl_X13_highFloor_27 {s : State} {meth : Method} {args : Array Value} {G : sv_G} {B : Nat} (hts : ∀ w ∈ sv_tb, w.before args s = true) (hC : sv_Cx G B s s.heap) (hni : meth.name = "highFloor") : sv_FL s meth args vwCl RX13 27 13 6 (.array .boolean) false :=
  ⟨_, RX13, TX13, 18, sv_tb, tyX13, rfl, by decide, hts, uw_X13, Or.inl (hts _ wd_1538), fun _ h => h, tyX13_ok 6 (by decide), tyX13_ok, nmX13, fun h => by cases h⟩
theorem fl_X13_highFloor_31 {s : State} {meth : Method} {args : Array Value} {G : sv_G} {B : Nat} (hts : ∀ w ∈ sv_tb, w.before args s = true) (hC : sv_Cx G B s s.heap) (hni : meth.name = "highFloor") : sv_FL s meth args vwCl RX13 31 13 8 (.array .int) false :=
  ⟨_, RX13, TX13, 18, sv_tb, tyX13, rfl, by decide, hts, uw_X13, Or.inl (hts _ wd_1540), fun _ h => h, tyX13_ok 8 (by decide), tyX13_ok, nmX13, fun h => by cases h⟩
set_option maxHeartbeats 4000000 in
set_option maxRecDepth 100000 in
theorem lk_X13_highFloor_51 {p : Program} {l : Launch} {e : Env} {s : State} {m : MethodId} {args : Array Value} {below : List Frame} {meth : Method} {c : Code} {G : sv_G} {B : Nat} (K : sv_W p s m args meth c cX13_highFloor RX13 4 (some .int) G B "highFloor") {r : Int32} {hE : sv_H} {k9 : Nat → Int32 → Int32 → Int32 → sv_H → Option (Int32 × sv_H)} (hk9 : ∀ {x0 : Nat} {x1 : Int32} {x2 : Int32} {x3 : Int32} {h : sv_H}, k9 x0 x1 x2 x3 h = some (r, hE) → ∀ {H : Heap} {locs : List Loc} {ls : Array Slot}, sv_R G vwCl sv_ft B h H → va_S (fun q => B ≤ q) s.heap H locs → lv_has ls 4 [(0, .ref x0), (1, .int x1), (2, .int x2), (3, .int x3)] → W p l e rm_X13_highFloor s m args below meth c H locs 0 0 (sv_Z below s args G B (some (.int r)) hE) (F0 m 9 ls [])) {x0 : Nat} {x1 : Int32} {x3 : Int32} {s0 : Int32} {h : sv_H} (hw : fn_X13_highFloor_51 k9 x0 x1 x3 s0 h = some (r, hE)) {H : Heap} {locs : List Loc} {ls : Array Slot} (hR : sv_R G vwCl sv_ft B h H) (hS : va_S (fun q => B ≤ q) s.heap H locs) (hl : lv_has ls 4 [(0, .ref x0), (1, .int x1), (3, .int x3)]) : W p l e rm_X13_highFloor s m args below meth c H locs 0 0 (sv_Z below s args G B (some (.int r)) hE) (F0 m 51 ls [.int s0]) := by
  obtain ⟨hx, hb, hml, hown, hts, hC, hlk, hr, hBs, hni⟩ := id K
  unfold fn_X13_highFloor_51 at hw
  refine lv_istore_n (lv' := [(2, .int s0), (0, .ref x0), (1, .int x1), (3, .int x3)]) hx hb dX13_highFloor_51 rfl hl (by decide) rfl (fun ls hl => ?_)
  refine lv_iinc (v := x3 + 1) (lv' := [(3, .int (x3 + 1)), (2, .int s0), (0, .ref x0), (1, .int x1)]) hx hb dX13_highFloor_52 hl (k := 3) rfl rfl (by decide) rfl (fun ls hl => ?_)
  refine lv_goto (tgt := 9) hx hb dX13_highFloor_55 (by decide) ?_
  exact hk9 hw hR hS (lv_sub hl [2, 3, 1, 0] rfl)
set_option maxHeartbeats 4000000 in
set_option maxRecDepth 100000 in
theorem lk_X13_highFloor_50 {p : Program} {l : Launch} {e : Env} {s : State} {m : MethodId} {args : Array Value} {below : List Frame} {meth : Method} {c : Code} {G : sv_G} {B : Nat} (K : sv_W p s m args meth c cX13_highFloor RX13 4 (some .int) G B "highFloor") {r : Int32} {hE : sv_H} {k9 : Nat → Int32 → Int32 → Int32 → sv_H → Option (Int32 × sv_H)} (hk9 : ∀ {x0 : Nat} {x1 : Int32} {x2 : Int32} {x3 : Int32} {h : sv_H}, k9 x0 x1 x2 x3 h = some (r, hE) → ∀ {H : Heap} {locs : List Loc} {ls : Array Slot}, sv_R G vwCl sv_ft B h H → va_S (fun q => B ≤ q) s.heap H locs → lv_has ls 4 [(0, .ref x0), (1, .int x1), (2, .int x2), (3, .int x3)] → W p l e rm_X13_highFloor s m args below meth c H locs 0 0 (sv_Z below s args G B (some (.int r)) hE) (F0 m 9 ls [])) {x0 : Nat} {x1 : Int32} {x2 : Int32} {x3 : Int32} {h : sv_H} (hw : fn_X13_highFloor_50 k9 x0 x1 x2 x3 h = some (r, hE)) {H : Heap} {locs : List Loc} {ls : Array Slot} (hR : sv_R G vwCl sv_ft B h H) (hS : va_S (fun q => B ≤ q) s.heap H locs) (hl : lv_has ls 4 [(0, .ref x0), (1, .int x1), (2, .int x2), (3, .int x3)]) : W p l e rm_X13_highFloor s m args below meth c H locs 0 0 (sv_Z below s args G B (some (.int r)) hE) (F0 m 50 ls []) := by
  obtain ⟨hx, hb, hml, hown, hts, hC, hlk, hr, hBs, hni⟩ := id K
  unfold fn_X13_highFloor_50 at hw
  refine lv_iload_n hx hb dX13_highFloor_50 rfl (lv_at hl 2 rfl) ?_
  exact lk_X13_highFloor_51 K hk9 hw hR hS (lv_sub hl [0, 1, 3] rfl)
set_option maxHeartbeats 4000000 in
set_option maxRecDepth 100000 in
theorem lk_X13_highFloor_9b {p : Program} {l : Launch} {e : Env} {s : State} {m : MethodId} {args : Array Value} {below : List Frame} {meth : Method} {c : Code} {G : sv_G} {B : Nat} (K : sv_W p s m args meth c cX13_highFloor RX13 4 (some .int) G B "highFloor") {r : Int32} {hE : sv_H} {k9 : Nat → Int32 → Int32 → Int32 → sv_H → Option (Int32 × sv_H)} (hk9 : ∀ {x0 : Nat} {x1 : Int32} {x2 : Int32} {x3 : Int32} {h : sv_H}, k9 x0 x1 x2 x3 h = some (r, hE) → ∀ {H : Heap} {locs : List Loc} {ls : Array Slot}, sv_R G vwCl sv_ft B h H → va_S (fun q => B ≤ q) s.heap H locs → lv_has ls 4 [(0, .ref x0), (1, .int x1), (2, .int x2), (3, .int x3)] → W p l e rm_X13_highFloor s m args below meth c H locs 0 0 (sv_Z below s args G B (some (.int r)) hE) (F0 m 9 ls [])) {x0 : Nat} {x1 : Int32} {x2 : Int32} {x3 : Int32} {h : sv_H} (hw : fn_X13_highFloor_9b k9 x0 x1 x2 x3 h = some (r, hE)) {H : Heap} {locs : List Loc} {ls : Array Slot} (hR : sv_R G vwCl sv_ft B h H) (hS : va_S (fun q => B ≤ q) s.heap H locs) (hl : lv_has ls 4 [(0, .ref x0), (1, .int x1), (2, .int x2), (3, .int x3)]) : W p l e rm_X13_highFloor s m args below meth c H locs 0 0 (sv_Z below s args G B (some (.int r)) hE) (F0 m 9 ls []) := by
  obtain ⟨hx, hb, hml, hown, hts, hC, hlk, hr, hBs, hni⟩ := id K
  unfold fn_X13_highFloor_9b at hw
  refine lv_iload_n hx hb dX13_highFloor_9 rfl (lv_at hl 3 rfl) ?_
  refine lv_aload_n hx hb dX13_highFloor_10 rfl (lv_at hl 0 rfl) ?_
  obtain ⟨v1, hv, hw⟩ := sv_bd hw
  refine sv_rgI hx hb hown hC.1 hR (fl_X13_highFloor_56 hts hC hni) rfl (by decide) rfl rfl hv dX13_highFloor_11 ?_
  refine lv_icmp_ge (tgt := 58) hx hb dX13_highFloor_14 (by decide) (fun cc => ?_) (fun cc => ?_)
  · have hw := sv_ift cc hw
    refine lv_iload_n hx hb dX13_highFloor_58 rfl (lv_at hl 2 rfl) ?_
    obtain ⟨rfl, rfl⟩ := sv_ret hw
    exact W.iret hx hb hr (fun t ht hW => ⟨⟨rfl, by rw [ht]; exact hR⟩, hS.F ht⟩) hS.2.2 dX13_highFloor_59
  · have hw := sv_iff cc hw
    refine lv_aload_n hx hb dX13_highFloor_17 rfl (lv_at hl 0 rfl) ?_
    obtain ⟨v2, hv, hw⟩ := sv_bd hw
    refine sv_rgP hx hb hown hC.1 hR (fl_X13_highFloor_27 hts hC hni) rfl (by decide) rfl rfl hv dX13_highFloor_18 ?_
    refine lv_bipush (v := 32) hx hb dX13_highFloor_21 (by decide) ?_
    refine lv_iload_n hx hb dX13_highFloor_23 rfl (lv_at hl 1 rfl) ?_
    refine lv_imul hx hb dX13_highFloor_24 ?_
    refine lv_iload_n hx hb dX13_highFloor_25 rfl (lv_at hl 3 rfl) ?_
    refine lv_iadd hx hb dX13_highFloor_26 ?_
    obtain ⟨v3, hv, hw⟩ := sv_bd hw
    refine sv_rlZ hx hb hC.1 rfl hR hv dX13_highFloor_27 ?_
    refine lv_if_eq (tgt := 50) hx hb dX13_highFloor_28 (by decide) (fun cc => ?_) (fun cc => ?_)
    · have hw := sv_ift cc hw
      exact lk_X13_highFloor_50 K hk9 hw hR hS (lv_sub hl [0, 1, 2, 3] rfl)
    · have hw := sv_iff cc hw
      refine lv_aload_n hx hb dX13_highFloor_31 rfl (lv_at hl 0 rfl) ?_
      obtain ⟨v4, hv, hw⟩ := sv_bd hw
      refine sv_rgP hx hb hown hC.1 hR (fl_X13_highFloor_31 hts hC hni) rfl (by decide) rfl rfl hv dX13_highFloor_32 ?_
      refine lv_iload_n hx hb dX13_highFloor_35 rfl (lv_at hl 3 rfl) ?_
      obtain ⟨v5, hv, hw⟩ := sv_bd hw
      refine sv_rlI hx hb hC.1 rfl hR hv dX13_highFloor_36 ?_
      refine lv_iload_n hx hb dX13_highFloor_37 rfl (lv_at hl 2 rfl) ?_
      refine lv_icmp_le (tgt := 50) hx hb dX13_highFloor_38 (by decide) (fun cc => ?_) (fun cc => ?_)
      · have hw := sv_ift cc hw
        exact lk_X13_highFloor_50 K hk9 hw hR hS (lv_sub hl [0, 1, 2, 3] rfl)
      · have hw := sv_iff cc hw
        refine lv_aload_n hx hb dX13_highFloor_41 rfl (lv_at hl 0 rfl) ?_
        obtain ⟨v6, hv, hw⟩ := sv_bd hw
        refine sv_rgP hx hb hown hC.1 hR (fl_X13_highFloor_31 hts hC hni) rfl (by decide) rfl rfl hv dX13_highFloor_42 ?_
        refine lv_iload_n hx hb dX13_highFloor_45 rfl (lv_at hl 3 rfl) ?_
        obtain ⟨v7, hv, hw⟩ := sv_bd hw
        refine sv_rlI hx hb hC.1 rfl hR hv dX13_highFloor_46 ?_
        refine lv_goto (tgt := 51) hx hb dX13_highFloor_47 (by decide) ?_
        exact lk_X13_highFloor_51 K hk9 hw hR hS (lv_sub hl [0, 1, 3] rfl)
theorem lk_X13_highFloor_9 {p : Program} {l : Launch} {e : Env} {s : State} {m : MethodId} {args : Array Value} {below : List Frame} {meth : Method} {c : Code} {G : sv_G} {B : Nat} (K : sv_W p s m args meth c cX13_highFloor RX13 4 (some .int) G B "highFloor") {r : Int32} {hE : sv_H} : ∀ (n : Nat) {x0 : Nat} {x1 : Int32} {x2 : Int32} {x3 : Int32} {h : sv_H}, fn_X13_highFloor_9 n x0 x1 x2 x3 h = some (r, hE) → ∀ {H : Heap} {locs : List Loc} {ls : Array Slot}, sv_R G vwCl sv_ft B h H → va_S (fun q => B ≤ q) s.heap H locs → lv_has ls 4 [(0, .ref x0), (1, .int x1), (2, .int x2), (3, .int x3)] → W p l e rm_X13_highFloor s m args below meth c H locs 0 0 (sv_Z below s args G B (some (.int r)) hE) (F0 m 9 ls []) := by
  intro n
  induction n with
  | zero => intro x0 x1 x2 x3 h hw; cases (show (none : Option (Int32 × sv_H)) = some (r, hE) from hw)
  | succ n ih => intro x0 x1 x2 x3 h hw H locs ls hR hS hl; exact lk_X13_highFloor_9b K (fun hw => ih hw) hw hR hS hl
set_option maxHeartbeats 4000000 in
set_option maxRecDepth 100000 in
theorem lk_X13_highFloor_0 {p : Program} {l : Launch} {e : Env} {s : State} {m : MethodId} {args : Array Value} {below : List Frame} {meth : Method} {c : Code} {G : sv_G} {B : Nat} (K : sv_W p s m args meth c cX13_highFloor RX13 4 (some .int) G B "highFloor") {r : Int32} {hE : sv_H} {x0 : Nat} {x1 : Int32} {h : sv_H} (hw : fn_X13_highFloor x0 x1 h = some (r, hE)) {H : Heap} {locs : List Loc} {ls : Array Slot} (hR : sv_R G vwCl sv_ft B h H) (hS : va_S (fun q => B ≤ q) s.heap H locs) (hl : lv_has ls 4 [(0, .ref x0), (1, .int x1)]) : W p l e rm_X13_highFloor s m args below meth c H locs 0 0 (sv_Z below s args G B (some (.int r)) hE) (F0 m 0 ls []) := by
  obtain ⟨hx, hb, hml, hown, hts, hC, hlk, hr, hBs, hni⟩ := id K
  unfold fn_X13_highFloor at hw
  have hw := (sv_go hw).2
  refine lv_aload_n hx hb dX13_highFloor_0 rfl (lv_at hl 0 rfl) ?_
  obtain ⟨v1, hv, hw⟩ := sv_bd hw
  refine sv_rgP hx hb hown hC.1 hR (fl_X13_highFloor_31 hts hC hni) rfl (by decide) rfl rfl hv dX13_highFloor_1 ?_
  refine lv_iload_n hx hb dX13_highFloor_4 rfl (lv_at hl 1 rfl) ?_
  obtain ⟨v2, hv, hw⟩ := sv_bd hw
  refine sv_rlI hx hb hC.1 rfl hR hv dX13_highFloor_5 ?_
  refine lv_istore_n (lv' := [(2, .int v2), (0, .ref x0), (1, .int x1)]) hx hb dX13_highFloor_6 rfl hl (by decide) rfl (fun ls hl => ?_)
  refine lv_iconst (v := 0) hx hb dX13_highFloor_7 (by decide) ?_
  refine lv_istore_n (lv' := [(3, .int 0), (2, .int v2), (0, .ref x0), (1, .int x1)]) hx hb dX13_highFloor_8 rfl hl (by decide) rfl (fun ls hl => ?_)
  exact lk_X13_highFloor_9 K sv_fuel hw hR hS (lv_sub hl [2, 3, 1, 0] rfl)
set_option maxHeartbeats 4000000 in
set_option maxRecDepth 100000 in
theorem mt_X13_highFloor (l : Launch) (G : sv_G) (B : Nat) {x0 : Nat} {x1 : Int32} {h : sv_H} {r : Int32} {hE : sv_H} (hw : fn_X13_highFloor x0 x1 h = some (r, hE)) : Met l yX13_highFloor (.code yX13_highFloor cX13_highFloor 4 (some .int) :: sv_tb) rm_X13_highFloor (sv_Pc G B [.ref x0, .int x1] h) (sv_Q G B (some (.int r)) hE) 0 0 (fun q => B ≤ q) := by
  refine Met.ofW (cc := cX13_highFloor) (maxL := 4) (ret := (some .int)) (by decide +kernel) rfl ?_
  intro p e s m args below meth c s₁ Bd hml hv
  obtain ⟨rfl, hR, hC, hB⟩ := hv
  have hl := lv_entry ([.ref x0, .int x1]) (n := 4) (Nat.le_of_ble_eq_true rfl)
  rw [lg_entry_eq]
  generalize (lg_sl ([.ref x0, .int x1]) ++ List.replicate (4 - (lg_sl ([.ref x0, .int x1])).length) Slot.unset).toArray = ls at hl ⊢
  have hl : lv_has ls 4 [(0, .ref x0), (1, .int x1)] := hl
  exact lk_X13_highFloor_0 ⟨Bd.exec, Bd.bytes, hml, findClass_of_methodNamed Bd.named, fun w h => atoms_spec (ws := .code yX13_highFloor cX13_highFloor 4 (some .int) :: sv_tb) Bd.pre w (List.mem_cons_of_mem _ h), hC, Bd.notSynchronized, Bd.returns, hB, (name_of_methodNamed Bd.named Bd.method).1⟩ hw hR va_S.rf hl

def rm_X13_lowFloor : Room := { frames := 0, cells := 0, slots := 0, locals := 0 }
theorem fl_X13_lowFloor_56 {s : State} {meth : Method} {args : Array Value} {G : sv_G} {B : Nat} (hts : ∀ w ∈ sv_tb, w.before args s = true) (hC : sv_Cx G B s s.heap) (hni : meth.name = "lowFloor") : sv_FL s meth args vwCl RX13 56 13 0 .int true :=
  ⟨_, RX13, TX13, 18, sv_tb, tyX13, rfl, by decide, hts, uw_X13, Or.inl (hts _ wd_1531), fun _ h => h, tyX13_ok 0 (by decide), tyX13_ok, nmX13, fun _ => Or.inl rfl⟩
theorem fl_X13_lowFloor_27 {s : State} {meth : Method} {args : Array Value} {G : sv_G} {B : Nat} (hts : ∀ w ∈ sv_tb, w.before args s = true) (hC : sv_Cx G B s s.heap) (hni : meth.name = "lowFloor") : sv_FL s meth args vwCl RX13 27 13 6 (.array .boolean) false :=
  ⟨_, RX13, TX13, 18, sv_tb, tyX13, rfl, by decide, hts, uw_X13, Or.inl (hts _ wd_1538), fun _ h => h, tyX13_ok 6 (by decide), tyX13_ok, nmX13, fun h => by cases h⟩
theorem fl_X13_lowFloor_31 {s : State} {meth : Method} {args : Array Value} {G : sv_G} {B : Nat} (hts : ∀ w ∈ sv_tb, w.before args s = true) (hC : sv_Cx G B s s.heap) (hni : meth.name = "lowFloor") : sv_FL s meth args vwCl RX13 31 13 8 (.array .int) false :=
  ⟨_, RX13, TX13, 18, sv_tb, tyX13, rfl, by decide, hts, uw_X13, Or.inl (hts _ wd_1540), fun _ h => h, tyX13_ok 8 (by decide), tyX13_ok, nmX13, fun h => by cases h⟩
set_option maxHeartbeats 4000000 in
set_option maxRecDepth 100000 in
theorem lk_X13_lowFloor_51 {p : Program} {l : Launch} {e : Env} {s : State} {m : MethodId} {args : Array Value} {below : List Frame} {meth : Method} {c : Code} {G : sv_G} {B : Nat} (K : sv_W p s m args meth c cX13_lowFloor RX13 4 (some .int) G B "lowFloor") {r : Int32} {hE : sv_H} {k9 : Nat → Int32 → Int32 → Int32 → sv_H → Option (Int32 × sv_H)} (hk9 : ∀ {x0 : Nat} {x1 : Int32} {x2 : Int32} {x3 : Int32} {h : sv_H}, k9 x0 x1 x2 x3 h = some (r, hE) → ∀ {H : Heap} {locs : List Loc} {ls : Array Slot}, sv_R G vwCl sv_ft B h H → va_S (fun q => B ≤ q) s.heap H locs → lv_has ls 4 [(0, .ref x0), (1, .int x1), (2, .int x2), (3, .int x3)] → W p l e rm_X13_lowFloor s m args below meth c H locs 0 0 (sv_Z below s args G B (some (.int r)) hE) (F0 m 9 ls [])) {x0 : Nat} {x1 : Int32} {x3 : Int32} {s0 : Int32} {h : sv_H} (hw : fn_X13_lowFloor_51 k9 x0 x1 x3 s0 h = some (r, hE)) {H : Heap} {locs : List Loc} {ls : Array Slot} (hR : sv_R G vwCl sv_ft B h H) (hS : va_S (fun q => B ≤ q) s.heap H locs) (hl : lv_has ls 4 [(0, .ref x0), (1, .int x1), (3, .int x3)]) : W p l e rm_X13_lowFloor s m args below meth c H locs 0 0 (sv_Z below s args G B (some (.int r)) hE) (F0 m 51 ls [.int s0]) := by
  obtain ⟨hx, hb, hml, hown, hts, hC, hlk, hr, hBs, hni⟩ := id K
  unfold fn_X13_lowFloor_51 at hw
  refine lv_istore_n (lv' := [(2, .int s0), (0, .ref x0), (1, .int x1), (3, .int x3)]) hx hb dX13_lowFloor_51 rfl hl (by decide) rfl (fun ls hl => ?_)
  refine lv_iinc (v := x3 + 1) (lv' := [(3, .int (x3 + 1)), (2, .int s0), (0, .ref x0), (1, .int x1)]) hx hb dX13_lowFloor_52 hl (k := 3) rfl rfl (by decide) rfl (fun ls hl => ?_)
  refine lv_goto (tgt := 9) hx hb dX13_lowFloor_55 (by decide) ?_
  exact hk9 hw hR hS (lv_sub hl [2, 3, 1, 0] rfl)
set_option maxHeartbeats 4000000 in
set_option maxRecDepth 100000 in
theorem lk_X13_lowFloor_50 {p : Program} {l : Launch} {e : Env} {s : State} {m : MethodId} {args : Array Value} {below : List Frame} {meth : Method} {c : Code} {G : sv_G} {B : Nat} (K : sv_W p s m args meth c cX13_lowFloor RX13 4 (some .int) G B "lowFloor") {r : Int32} {hE : sv_H} {k9 : Nat → Int32 → Int32 → Int32 → sv_H → Option (Int32 × sv_H)} (hk9 : ∀ {x0 : Nat} {x1 : Int32} {x2 : Int32} {x3 : Int32} {h : sv_H}, k9 x0 x1 x2 x3 h = some (r, hE) → ∀ {H : Heap} {locs : List Loc} {ls : Array Slot}, sv_R G vwCl sv_ft B h H → va_S (fun q => B ≤ q) s.heap H locs → lv_has ls 4 [(0, .ref x0), (1, .int x1), (2, .int x2), (3, .int x3)] → W p l e rm_X13_lowFloor s m args below meth c H locs 0 0 (sv_Z below s args G B (some (.int r)) hE) (F0 m 9 ls [])) {x0 : Nat} {x1 : Int32} {x2 : Int32} {x3 : Int32} {h : sv_H} (hw : fn_X13_lowFloor_50 k9 x0 x1 x2 x3 h = some (r, hE)) {H : Heap} {locs : List Loc} {ls : Array Slot} (hR : sv_R G vwCl sv_ft B h H) (hS : va_S (fun q => B ≤ q) s.heap H locs) (hl : lv_has ls 4 [(0, .ref x0), (1, .int x1), (2, .int x2), (3, .int x3)]) : W p l e rm_X13_lowFloor s m args below meth c H locs 0 0 (sv_Z below s args G B (some (.int r)) hE) (F0 m 50 ls []) := by
  obtain ⟨hx, hb, hml, hown, hts, hC, hlk, hr, hBs, hni⟩ := id K
  unfold fn_X13_lowFloor_50 at hw
  refine lv_iload_n hx hb dX13_lowFloor_50 rfl (lv_at hl 2 rfl) ?_
  exact lk_X13_lowFloor_51 K hk9 hw hR hS (lv_sub hl [0, 1, 3] rfl)
set_option maxHeartbeats 4000000 in
set_option maxRecDepth 100000 in
theorem lk_X13_lowFloor_9b {p : Program} {l : Launch} {e : Env} {s : State} {m : MethodId} {args : Array Value} {below : List Frame} {meth : Method} {c : Code} {G : sv_G} {B : Nat} (K : sv_W p s m args meth c cX13_lowFloor RX13 4 (some .int) G B "lowFloor") {r : Int32} {hE : sv_H} {k9 : Nat → Int32 → Int32 → Int32 → sv_H → Option (Int32 × sv_H)} (hk9 : ∀ {x0 : Nat} {x1 : Int32} {x2 : Int32} {x3 : Int32} {h : sv_H}, k9 x0 x1 x2 x3 h = some (r, hE) → ∀ {H : Heap} {locs : List Loc} {ls : Array Slot}, sv_R G vwCl sv_ft B h H → va_S (fun q => B ≤ q) s.heap H locs → lv_has ls 4 [(0, .ref x0), (1, .int x1), (2, .int x2), (3, .int x3)] → W p l e rm_X13_lowFloor s m args below meth c H locs 0 0 (sv_Z below s args G B (some (.int r)) hE) (F0 m 9 ls [])) {x0 : Nat} {x1 : Int32} {x2 : Int32} {x3 : Int32} {h : sv_H} (hw : fn_X13_lowFloor_9b k9 x0 x1 x2 x3 h = some (r, hE)) {H : Heap} {locs : List Loc} {ls : Array Slot} (hR : sv_R G vwCl sv_ft B h H) (hS : va_S (fun q => B ≤ q) s.heap H locs) (hl : lv_has ls 4 [(0, .ref x0), (1, .int x1), (2, .int x2), (3, .int x3)]) : W p l e rm_X13_lowFloor s m args below meth c H locs 0 0 (sv_Z below s args G B (some (.int r)) hE) (F0 m 9 ls []) := by
  obtain ⟨hx, hb, hml, hown, hts, hC, hlk, hr, hBs, hni⟩ := id K
  unfold fn_X13_lowFloor_9b at hw
  refine lv_iload_n hx hb dX13_lowFloor_9 rfl (lv_at hl 3 rfl) ?_
  refine lv_aload_n hx hb dX13_lowFloor_10 rfl (lv_at hl 0 rfl) ?_
  obtain ⟨v1, hv, hw⟩ := sv_bd hw
  refine sv_rgI hx hb hown hC.1 hR (fl_X13_lowFloor_56 hts hC hni) rfl (by decide) rfl rfl hv dX13_lowFloor_11 ?_
  refine lv_icmp_ge (tgt := 58) hx hb dX13_lowFloor_14 (by decide) (fun cc => ?_) (fun cc => ?_)
  · have hw := sv_ift cc hw
    refine lv_iload_n hx hb dX13_lowFloor_58 rfl (lv_at hl 2 rfl) ?_
    obtain ⟨rfl, rfl⟩ := sv_ret hw
    exact W.iret hx hb hr (fun t ht hW => ⟨⟨rfl, by rw [ht]; exact hR⟩, hS.F ht⟩) hS.2.2 dX13_lowFloor_59
  · have hw := sv_iff cc hw
    refine lv_aload_n hx hb dX13_lowFloor_17 rfl (lv_at hl 0 rfl) ?_
    obtain ⟨v2, hv, hw⟩ := sv_bd hw
    refine sv_rgP hx hb hown hC.1 hR (fl_X13_lowFloor_27 hts hC hni) rfl (by decide) rfl rfl hv dX13_lowFloor_18 ?_
    refine lv_bipush (v := 32) hx hb dX13_lowFloor_21 (by decide) ?_
    refine lv_iload_n hx hb dX13_lowFloor_23 rfl (lv_at hl 1 rfl) ?_
    refine lv_imul hx hb dX13_lowFloor_24 ?_
    refine lv_iload_n hx hb dX13_lowFloor_25 rfl (lv_at hl 3 rfl) ?_
    refine lv_iadd hx hb dX13_lowFloor_26 ?_
    obtain ⟨v3, hv, hw⟩ := sv_bd hw
    refine sv_rlZ hx hb hC.1 rfl hR hv dX13_lowFloor_27 ?_
    refine lv_if_eq (tgt := 50) hx hb dX13_lowFloor_28 (by decide) (fun cc => ?_) (fun cc => ?_)
    · have hw := sv_ift cc hw
      exact lk_X13_lowFloor_50 K hk9 hw hR hS (lv_sub hl [0, 1, 2, 3] rfl)
    · have hw := sv_iff cc hw
      refine lv_aload_n hx hb dX13_lowFloor_31 rfl (lv_at hl 0 rfl) ?_
      obtain ⟨v4, hv, hw⟩ := sv_bd hw
      refine sv_rgP hx hb hown hC.1 hR (fl_X13_lowFloor_31 hts hC hni) rfl (by decide) rfl rfl hv dX13_lowFloor_32 ?_
      refine lv_iload_n hx hb dX13_lowFloor_35 rfl (lv_at hl 3 rfl) ?_
      obtain ⟨v5, hv, hw⟩ := sv_bd hw
      refine sv_rlI hx hb hC.1 rfl hR hv dX13_lowFloor_36 ?_
      refine lv_iload_n hx hb dX13_lowFloor_37 rfl (lv_at hl 2 rfl) ?_
      refine lv_icmp_ge (tgt := 50) hx hb dX13_lowFloor_38 (by decide) (fun cc => ?_) (fun cc => ?_)
      · have hw := sv_ift cc hw
        exact lk_X13_lowFloor_50 K hk9 hw hR hS (lv_sub hl [0, 1, 2, 3] rfl)
      · have hw := sv_iff cc hw
        refine lv_aload_n hx hb dX13_lowFloor_41 rfl (lv_at hl 0 rfl) ?_
        obtain ⟨v6, hv, hw⟩ := sv_bd hw
        refine sv_rgP hx hb hown hC.1 hR (fl_X13_lowFloor_31 hts hC hni) rfl (by decide) rfl rfl hv dX13_lowFloor_42 ?_
        refine lv_iload_n hx hb dX13_lowFloor_45 rfl (lv_at hl 3 rfl) ?_
        obtain ⟨v7, hv, hw⟩ := sv_bd hw
        refine sv_rlI hx hb hC.1 rfl hR hv dX13_lowFloor_46 ?_
        refine lv_goto (tgt := 51) hx hb dX13_lowFloor_47 (by decide) ?_
        exact lk_X13_lowFloor_51 K hk9 hw hR hS (lv_sub hl [0, 1, 3] rfl)
theorem lk_X13_lowFloor_9 {p : Program} {l : Launch} {e : Env} {s : State} {m : MethodId} {args : Array Value} {below : List Frame} {meth : Method} {c : Code} {G : sv_G} {B : Nat} (K : sv_W p s m args meth c cX13_lowFloor RX13 4 (some .int) G B "lowFloor") {r : Int32} {hE : sv_H} : ∀ (n : Nat) {x0 : Nat} {x1 : Int32} {x2 : Int32} {x3 : Int32} {h : sv_H}, fn_X13_lowFloor_9 n x0 x1 x2 x3 h = some (r, hE) → ∀ {H : Heap} {locs : List Loc} {ls : Array Slot}, sv_R G vwCl sv_ft B h H → va_S (fun q => B ≤ q) s.heap H locs → lv_has ls 4 [(0, .ref x0), (1, .int x1), (2, .int x2), (3, .int x3)] → W p l e rm_X13_lowFloor s m args below meth c H locs 0 0 (sv_Z below s args G B (some (.int r)) hE) (F0 m 9 ls []) := by
  intro n
  induction n with
  | zero => intro x0 x1 x2 x3 h hw; cases (show (none : Option (Int32 × sv_H)) = some (r, hE) from hw)
  | succ n ih => intro x0 x1 x2 x3 h hw H locs ls hR hS hl; exact lk_X13_lowFloor_9b K (fun hw => ih hw) hw hR hS hl
set_option maxHeartbeats 4000000 in
set_option maxRecDepth 100000 in
theorem lk_X13_lowFloor_0 {p : Program} {l : Launch} {e : Env} {s : State} {m : MethodId} {args : Array Value} {below : List Frame} {meth : Method} {c : Code} {G : sv_G} {B : Nat} (K : sv_W p s m args meth c cX13_lowFloor RX13 4 (some .int) G B "lowFloor") {r : Int32} {hE : sv_H} {x0 : Nat} {x1 : Int32} {h : sv_H} (hw : fn_X13_lowFloor x0 x1 h = some (r, hE)) {H : Heap} {locs : List Loc} {ls : Array Slot} (hR : sv_R G vwCl sv_ft B h H) (hS : va_S (fun q => B ≤ q) s.heap H locs) (hl : lv_has ls 4 [(0, .ref x0), (1, .int x1)]) : W p l e rm_X13_lowFloor s m args below meth c H locs 0 0 (sv_Z below s args G B (some (.int r)) hE) (F0 m 0 ls []) := by
  obtain ⟨hx, hb, hml, hown, hts, hC, hlk, hr, hBs, hni⟩ := id K
  unfold fn_X13_lowFloor at hw
  have hw := (sv_go hw).2
  refine lv_aload_n hx hb dX13_lowFloor_0 rfl (lv_at hl 0 rfl) ?_
  obtain ⟨v1, hv, hw⟩ := sv_bd hw
  refine sv_rgP hx hb hown hC.1 hR (fl_X13_lowFloor_31 hts hC hni) rfl (by decide) rfl rfl hv dX13_lowFloor_1 ?_
  refine lv_iload_n hx hb dX13_lowFloor_4 rfl (lv_at hl 1 rfl) ?_
  obtain ⟨v2, hv, hw⟩ := sv_bd hw
  refine sv_rlI hx hb hC.1 rfl hR hv dX13_lowFloor_5 ?_
  refine lv_istore_n (lv' := [(2, .int v2), (0, .ref x0), (1, .int x1)]) hx hb dX13_lowFloor_6 rfl hl (by decide) rfl (fun ls hl => ?_)
  refine lv_iconst (v := 0) hx hb dX13_lowFloor_7 (by decide) ?_
  refine lv_istore_n (lv' := [(3, .int 0), (2, .int v2), (0, .ref x0), (1, .int x1)]) hx hb dX13_lowFloor_8 rfl hl (by decide) rfl (fun ls hl => ?_)
  exact lk_X13_lowFloor_9 K sv_fuel hw hR hS (lv_sub hl [2, 3, 1, 0] rfl)
set_option maxHeartbeats 4000000 in
set_option maxRecDepth 100000 in
theorem mt_X13_lowFloor (l : Launch) (G : sv_G) (B : Nat) {x0 : Nat} {x1 : Int32} {h : sv_H} {r : Int32} {hE : sv_H} (hw : fn_X13_lowFloor x0 x1 h = some (r, hE)) : Met l yX13_lowFloor (.code yX13_lowFloor cX13_lowFloor 4 (some .int) :: sv_tb) rm_X13_lowFloor (sv_Pc G B [.ref x0, .int x1] h) (sv_Q G B (some (.int r)) hE) 0 0 (fun q => B ≤ q) := by
  refine Met.ofW (cc := cX13_lowFloor) (maxL := 4) (ret := (some .int)) (by decide +kernel) rfl ?_
  intro p e s m args below meth c s₁ Bd hml hv
  obtain ⟨rfl, hR, hC, hB⟩ := hv
  have hl := lv_entry ([.ref x0, .int x1]) (n := 4) (Nat.le_of_ble_eq_true rfl)
  rw [lg_entry_eq]
  generalize (lg_sl ([.ref x0, .int x1]) ++ List.replicate (4 - (lg_sl ([.ref x0, .int x1])).length) Slot.unset).toArray = ls at hl ⊢
  have hl : lv_has ls 4 [(0, .ref x0), (1, .int x1)] := hl
  exact lk_X13_lowFloor_0 ⟨Bd.exec, Bd.bytes, hml, findClass_of_methodNamed Bd.named, fun w h => atoms_spec (ws := .code yX13_lowFloor cX13_lowFloor 4 (some .int) :: sv_tb) Bd.pre w (List.mem_cons_of_mem _ h), hC, Bd.notSynchronized, Bd.returns, hB, (name_of_methodNamed Bd.named Bd.method).1⟩ hw hR va_S.rf hl

def rm_X13_begin : Room := { frames := 1, cells := 0, slots := 0, locals := 23 }
theorem fl_X13_begin_49 {s : State} {meth : Method} {args : Array Value} {G : sv_G} {B : Nat} (hts : ∀ w ∈ sv_tb, w.before args s = true) (hC : sv_Cx G B s s.heap) (hni : meth.name = "begin") : sv_FL s meth args vwCl RX13 49 13 14 (.array .int) false :=
  ⟨_, RX13, TX13, 18, sv_tb, tyX13, rfl, by decide, hts, uw_X13, Or.inl (hts _ wd_1548), fun _ h => h, tyX13_ok 14 (by decide), tyX13_ok, nmX13, fun h => by cases h⟩
theorem fl_X13_begin_31 {s : State} {meth : Method} {args : Array Value} {G : sv_G} {B : Nat} (hts : ∀ w ∈ sv_tb, w.before args s = true) (hC : sv_Cx G B s s.heap) (hni : meth.name = "begin") : sv_FL s meth args vwCl RX13 31 13 8 (.array .int) false :=
  ⟨_, RX13, TX13, 18, sv_tb, tyX13, rfl, by decide, hts, uw_X13, Or.inl (hts _ wd_1540), fun _ h => h, tyX13_ok 8 (by decide), tyX13_ok, nmX13, fun h => by cases h⟩
theorem fl_X13_begin_46 {s : State} {meth : Method} {args : Array Value} {G : sv_G} {B : Nat} (hts : ∀ w ∈ sv_tb, w.before args s = true) (hC : sv_Cx G B s s.heap) (hni : meth.name = "begin") : sv_FL s meth args vwCl RX13 46 13 13 (.array .int) false :=
  ⟨_, RX13, TX13, 18, sv_tb, tyX13, rfl, by decide, hts, uw_X13, Or.inl (hts _ wd_1547), fun _ h => h, tyX13_ok 13 (by decide), tyX13_ok, nmX13, fun h => by cases h⟩
theorem fl_X13_begin_34 {s : State} {meth : Method} {args : Array Value} {G : sv_G} {B : Nat} (hts : ∀ w ∈ sv_tb, w.before args s = true) (hC : sv_Cx G B s s.heap) (hni : meth.name = "begin") : sv_FL s meth args vwCl RX13 34 13 9 (.array .int) false :=
  ⟨_, RX13, TX13, 18, sv_tb, tyX13, rfl, by decide, hts, uw_X13, Or.inl (hts _ wd_1542), fun _ h => h, tyX13_ok 9 (by decide), tyX13_ok, nmX13, fun h => by cases h⟩
theorem fl_X13_begin_43 {s : State} {meth : Method} {args : Array Value} {G : sv_G} {B : Nat} (hts : ∀ w ∈ sv_tb, w.before args s = true) (hC : sv_Cx G B s s.heap) (hni : meth.name = "begin") : sv_FL s meth args vwCl RX13 43 13 12 (.array .int) false :=
  ⟨_, RX13, TX13, 18, sv_tb, tyX13, rfl, by decide, hts, uw_X13, Or.inl (hts _ wd_1546), fun _ h => h, tyX13_ok 12 (by decide), tyX13_ok, nmX13, fun h => by cases h⟩
theorem fl_X13_begin_40 {s : State} {meth : Method} {args : Array Value} {G : sv_G} {B : Nat} (hts : ∀ w ∈ sv_tb, w.before args s = true) (hC : sv_Cx G B s s.heap) (hni : meth.name = "begin") : sv_FL s meth args vwCl RX13 40 13 11 (.array .int) false :=
  ⟨_, RX13, TX13, 18, sv_tb, tyX13, rfl, by decide, hts, uw_X13, Or.inl (hts _ wd_1545), fun _ h => h, tyX13_ok 11 (by decide), tyX13_ok, nmX13, fun h => by cases h⟩
theorem fl_X13_begin_37 {s : State} {meth : Method} {args : Array Value} {G : sv_G} {B : Nat} (hts : ∀ w ∈ sv_tb, w.before args s = true) (hC : sv_Cx G B s s.heap) (hni : meth.name = "begin") : sv_FL s meth args vwCl RX13 37 13 10 (.array .int) false :=
  ⟨_, RX13, TX13, 18, sv_tb, tyX13, rfl, by decide, hts, uw_X13, Or.inl (hts _ wd_1544), fun _ h => h, tyX13_ok 10 (by decide), tyX13_ok, nmX13, fun h => by cases h⟩
set_option maxHeartbeats 4000000 in
set_option maxRecDepth 100000 in
theorem lk_X13_begin_17 {p : Program} {l : Launch} {e : Env} {s : State} {m : MethodId} {args : Array Value} {below : List Frame} {meth : Method} {c : Code} {G : sv_G} {B : Nat} (K : sv_W p s m args meth c cX13_begin RX13 5 (some .boolean) G B "begin") {r : Int32} {hE : sv_H} {h : sv_H} (hw : fn_X13_begin_17 h = some (r, hE)) {H : Heap} {locs : List Loc} {ls : Array Slot} (hR : sv_R G vwCl sv_ft B h H) (hS : va_S (fun q => B ≤ q) s.heap H locs) (hl : lv_has ls 5 []) : W p l e rm_X13_begin s m args below meth c H locs 0 0 (sv_Z below s args G B (some (.int r)) hE) (F0 m 17 ls []) := by
  obtain ⟨hx, hb, hml, hown, hts, hC, hlk, hr, hBs, hni⟩ := id K
  unfold fn_X13_begin_17 at hw
  refine lv_iconst (v := 0) hx hb dX13_begin_17 (by decide) ?_
  obtain ⟨rfl, rfl⟩ := sv_ret hw
  exact W.zret hx hb hr (by decide +kernel) (fun t ht hW => ⟨⟨rfl, by rw [ht]; exact hR⟩, hS.F ht⟩) hS.2.2 dX13_begin_18
set_option maxHeartbeats 4000000 in
set_option maxRecDepth 100000 in
theorem lk_X13_begin_223 {p : Program} {l : Launch} {e : Env} {s : State} {m : MethodId} {args : Array Value} {below : List Frame} {meth : Method} {c : Code} {G : sv_G} {B : Nat} (K : sv_W p s m args meth c cX13_begin RX13 5 (some .boolean) G B "begin") {r : Int32} {hE : sv_H} {s0 : Nat} {s1 : Int32} {s2 : Int32} {h : sv_H} (hw : fn_X13_begin_223 s0 s1 s2 h = some (r, hE)) {H : Heap} {locs : List Loc} {ls : Array Slot} (hR : sv_R G vwCl sv_ft B h H) (hS : va_S (fun q => B ≤ q) s.heap H locs) (hl : lv_has ls 5 []) : W p l e rm_X13_begin s m args below meth c H locs 0 0 (sv_Z below s args G B (some (.int r)) hE) (F0 m 223 ls [.int s2, .int s1, .ref s0]) := by
  obtain ⟨hx, hb, hml, hown, hts, hC, hlk, hr, hBs, hni⟩ := id K
  unfold fn_X13_begin_223 at hw
  obtain ⟨h1, hv, hw⟩ := sv_bd hw
  refine sv_rsI hx hb hC.1 rfl hR hS hv dX13_begin_223 (fun H locs hR hS => ?_)
  refine lv_iconst (v := 1) hx hb dX13_begin_224 (by decide) ?_
  obtain ⟨rfl, rfl⟩ := sv_ret hw
  exact W.zret hx hb hr (by decide +kernel) (fun t ht hW => ⟨⟨rfl, by rw [ht]; exact hR⟩, hS.F ht⟩) hS.2.2 dX13_begin_225
set_option maxHeartbeats 4000000 in
set_option maxRecDepth 100000 in
theorem lk_X13_begin_128 {p : Program} {l : Launch} {e : Env} {s : State} {m : MethodId} {args : Array Value} {below : List Frame} {meth : Method} {c : Code} {G : sv_G} {B : Nat} (K : sv_W p s m args meth c cX13_begin RX13 5 (some .boolean) G B "begin") {r : Int32} {hE : sv_H} {x0 : Nat} {x1 : Int32} {x2 : Int32} {s0 : Nat} {s1 : Int32} {s2 : Int32} {h : sv_H} (hw : fn_X13_begin_128 x0 x1 x2 s0 s1 s2 h = some (r, hE)) {H : Heap} {locs : List Loc} {ls : Array Slot} (hR : sv_R G vwCl sv_ft B h H) (hS : va_S (fun q => B ≤ q) s.heap H locs) (hl : lv_has ls 5 [(0, .ref x0), (1, .int x1), (2, .int x2)]) : W p l e rm_X13_begin s m args below meth c H locs 0 0 (sv_Z below s args G B (some (.int r)) hE) (F0 m 128 ls [.int s2, .int s1, .ref s0]) := by
  obtain ⟨hx, hb, hml, hown, hts, hC, hlk, hr, hBs, hni⟩ := id K
  unfold fn_X13_begin_128 at hw
  obtain ⟨h1, hv, hw⟩ := sv_bd hw
  refine sv_rsI hx hb hC.1 rfl hR hS hv dX13_begin_128 (fun H locs hR hS => ?_)
  refine lv_aload_n hx hb dX13_begin_129 rfl (lv_at hl 0 rfl) ?_
  obtain ⟨v2, hv, hw⟩ := sv_bd hw
  refine sv_rgP hx hb hown hC.1 hR (fl_X13_begin_49 hts hC hni) rfl (by decide) rfl rfl hv dX13_begin_130 ?_
  refine lv_iload_n hx hb dX13_begin_133 rfl (lv_at hl 1 rfl) ?_
  refine lv_aload_n hx hb dX13_begin_134 rfl (lv_at hl 0 rfl) ?_
  obtain ⟨v3, hv, hw⟩ := sv_bd hw
  refine sv_rgP hx hb hown hC.1 hR (fl_X13_begin_31 hts hC hni) rfl (by decide) rfl rfl hv dX13_begin_135 ?_
  refine lv_iload_n hx hb dX13_begin_138 rfl (lv_at hl 1 rfl) ?_
  obtain ⟨v4, hv, hw⟩ := sv_bd hw
  refine sv_rlI hx hb hC.1 rfl hR hv dX13_begin_139 ?_
  obtain ⟨h5, hv, hw⟩ := sv_bd hw
  refine sv_rsI hx hb hC.1 rfl hR hS hv dX13_begin_140 (fun H locs hR hS => ?_)
  refine lv_aload_n hx hb dX13_begin_141 rfl (lv_at hl 0 rfl) ?_
  refine lv_iload_n hx hb dX13_begin_142 rfl (lv_at hl 1 rfl) ?_
  obtain ⟨r6, h7, hv1, hw⟩ := sv_b_some hw
  refine sv_call (va_runV (As := [.int x1]) (rest := []) ⟨hx, hb, hml, hown, hts⟩ (mt_X13_lowCeiling l G B hv1) (cwV 1 hts (sv_gV wd_2115 wd_2117 wd_104 wd_147 wd_2118) rfl rfl rfl (by decide +kernel) ⟨Nat.le_of_ble_eq_true rfl, Nat.le_of_ble_eq_true rfl⟩) ⟨sv_blind, sv_recv hC.1 hR (ci := 13) (sv_go hv1).1 (by decide) rfl, fun U hU hW => sv_pre hC hR hS hBs hU hW⟩ rfl rfl hl.1 rfl (lv_room (Nat.le_of_ble_eq_true rfl)) dX13_begin_143 ⟨Nat.zero_le _, Nat.zero_le _⟩) hS (fun H locs hR hS => ?_)
  refine lv_iconst (v := 4) hx hb dX13_begin_146 (by decide) ?_
  refine lv_isub hx hb dX13_begin_147 ?_
  refine lv_istore_n (lv' := [(3, .int (r6 - 4)), (0, .ref x0), (1, .int x1), (2, .int x2)]) hx hb dX13_begin_148 rfl hl (by decide) rfl (fun ls hl => ?_)
  refine lv_aload_n hx hb dX13_begin_149 rfl (lv_at hl 1 rfl) ?_
  refine lv_iload_n hx hb dX13_begin_150 rfl (lv_at hl 2 rfl) ?_
  obtain ⟨r8, h9, hv2, hw⟩ := sv_b_some hw
  refine sv_call (va_runV (As := [.int x1]) (rest := []) ⟨hx, hb, hml, hown, hts⟩ (mt_X13_highFloor l G B hv2) (cwV 1 hts (sv_gV wd_2111 wd_2113 wd_103 wd_147 wd_2114) rfl rfl rfl (by decide +kernel) ⟨Nat.le_of_ble_eq_true rfl, Nat.le_of_ble_eq_true rfl⟩) ⟨sv_blind, sv_recv hC.1 hR (ci := 13) (sv_go hv2).1 (by decide) rfl, fun U hU hW => sv_pre hC hR hS hBs hU hW⟩ rfl rfl hl.1 rfl (lv_room (Nat.le_of_ble_eq_true rfl)) dX13_begin_151 ⟨Nat.zero_le _, Nat.zero_le _⟩) hS (fun H locs hR hS => ?_)
  refine lv_istore (lv' := [(4, .int r8), (3, .int (r6 - 4)), (0, .ref x0), (1, .int x1), (2, .int x2)]) hx hb dX13_begin_154 hl (by decide) rfl (fun ls hl => ?_)
  refine lv_aload_n hx hb dX13_begin_156 rfl (lv_at hl 2 rfl) ?_
  obtain ⟨v10, hv, hw⟩ := sv_bd hw
  refine sv_rgP hx hb hown hC.1 hR (fl_X13_begin_46 hts hC hni) rfl (by decide) rfl rfl hv dX13_begin_157 ?_
  refine lv_iload_n hx hb dX13_begin_160 rfl (lv_at hl 3 rfl) ?_
  refine lv_iload_n hx hb dX13_begin_161 rfl (lv_at hl 4 rfl) ?_
  refine lv_if_ne (tgt := 188) hx hb dX13_begin_162 (by decide) (fun cc => ?_) (fun cc => ?_)
  · have hw := sv_iff cc hw
    refine lv_iload_n hx hb dX13_begin_188 rfl (lv_at hl 4 rfl) ?_
    refine lv_iconst (v := 1) hx hb dX13_begin_189 (by decide) ?_
    refine lv_icmp_ne (tgt := 201) hx hb dX13_begin_190 (by decide) (fun cc => ?_) (fun cc => ?_)
    · have hw := sv_iff cc hw
      refine lv_iload hx hb dX13_begin_201 (lv_at hl 0 rfl) ?_
      refine lv_aload_n hx hb dX13_begin_203 rfl (lv_at hl 2 rfl) ?_
      obtain ⟨v11, hv, hw⟩ := sv_bd hw
      refine sv_rgP hx hb hown hC.1 hR (fl_X13_begin_34 hts hC hni) rfl (by decide) rfl rfl hv dX13_begin_204 ?_
      refine lv_iload_n hx hb dX13_begin_207 rfl (lv_at hl 3 rfl) ?_
      obtain ⟨v12, hv, hw⟩ := sv_bd hw
      refine sv_rlI hx hb hC.1 rfl hR hv dX13_begin_208 ?_
      refine lv_icmp_ge (tgt := 217) hx hb dX13_begin_209 (by decide) (fun cc => ?_) (fun cc => ?_)
      · have hw := sv_ift cc hw
        refine lv_aload_n hx hb dX13_begin_217 rfl (lv_at hl 2 rfl) ?_
        obtain ⟨v13, hv, hw⟩ := sv_bd hw
        refine sv_rgP hx hb hown hC.1 hR (fl_X13_begin_34 hts hC hni) rfl (by decide) rfl rfl hv dX13_begin_218 ?_
        refine lv_iload_n hx hb dX13_begin_221 rfl (lv_at hl 3 rfl) ?_
        obtain ⟨v14, hv, hw⟩ := sv_bd hw
        refine sv_rlI hx hb hC.1 rfl hR hv dX13_begin_222 ?_
        exact lk_X13_begin_223 K hw hR hS (lv_sub hl [] rfl)
      · have hw := sv_iff cc hw
        refine lv_iload hx hb dX13_begin_212 (lv_at hl 0 rfl) ?_
        refine lv_goto (tgt := 223) hx hb dX13_begin_214 (by decide) ?_
        exact lk_X13_begin_223 K hw hR hS (lv_sub hl [] rfl)
    · have hw := sv_ift cc hw
      refine lv_aload_n hx hb dX13_begin_193 rfl (lv_at hl 2 rfl) ?_
      refine lv_iload_n hx hb dX13_begin_194 rfl (lv_at hl 3 rfl) ?_
      obtain ⟨r15, h16, hv3, hw⟩ := sv_b_some hw
      refine sv_call (va_runV (As := [.int x1]) (rest := [.int x1, .ref v10]) ⟨hx, hb, hml, hown, hts⟩ (mt_X13_lowFloor l G B hv3) (cwV 1 hts (sv_gV wd_2107 wd_2109 wd_102 wd_147 wd_2110) rfl rfl rfl (by decide +kernel) ⟨Nat.le_of_ble_eq_true rfl, Nat.le_of_ble_eq_true rfl⟩) ⟨sv_blind, sv_recv hC.1 hR (ci := 13) (sv_go hv3).1 (by decide) rfl, fun U hU hW => sv_pre hC hR hS hBs hU hW⟩ rfl rfl hl.1 rfl (lv_room (Nat.le_of_ble_eq_true rfl)) dX13_begin_195 ⟨Nat.zero_le _, Nat.zero_le _⟩) hS (fun H locs hR hS => ?_)
      refine lv_goto (tgt := 223) hx hb dX13_begin_198 (by decide) ?_
      exact lk_X13_begin_223 K hw hR hS (lv_sub hl [] rfl)
  · have hw := sv_ift cc hw
    refine lv_iload_n hx hb dX13_begin_165 rfl (lv_at hl 1 rfl) ?_
    refine lv_aload_n hx hb dX13_begin_166 rfl (lv_at hl 2 rfl) ?_
    obtain ⟨v17, hv, hw⟩ := sv_bd hw
    refine sv_rgP hx hb hown hC.1 hR (fl_X13_begin_34 hts hC hni) rfl (by decide) rfl rfl hv dX13_begin_167 ?_
    refine lv_iload_n hx hb dX13_begin_170 rfl (lv_at hl 3 rfl) ?_
    obtain ⟨v18, hv, hw⟩ := sv_bd hw
    refine sv_rlI hx hb hC.1 rfl hR hv dX13_begin_171 ?_
    refine lv_icmp_le (tgt := 179) hx hb dX13_begin_172 (by decide) (fun cc => ?_) (fun cc => ?_)
    · have hw := sv_ift cc hw
      refine lv_aload_n hx hb dX13_begin_179 rfl (lv_at hl 2 rfl) ?_
      obtain ⟨v19, hv, hw⟩ := sv_bd hw
      refine sv_rgP hx hb hown hC.1 hR (fl_X13_begin_34 hts hC hni) rfl (by decide) rfl rfl hv dX13_begin_180 ?_
      refine lv_iload_n hx hb dX13_begin_183 rfl (lv_at hl 3 rfl) ?_
      obtain ⟨v20, hv, hw⟩ := sv_bd hw
      refine sv_rlI hx hb hC.1 rfl hR hv dX13_begin_184 ?_
      refine lv_goto (tgt := 223) hx hb dX13_begin_185 (by decide) ?_
      exact lk_X13_begin_223 K hw hR hS (lv_sub hl [] rfl)
    · have hw := sv_iff cc hw
      refine lv_iload_n hx hb dX13_begin_175 rfl (lv_at hl 1 rfl) ?_
      refine lv_goto (tgt := 223) hx hb dX13_begin_176 (by decide) ?_
      exact lk_X13_begin_223 K hw hR hS (lv_sub hl [] rfl)
set_option maxHeartbeats 4000000 in
set_option maxRecDepth 100000 in
theorem lk_X13_begin_96 {p : Program} {l : Launch} {e : Env} {s : State} {m : MethodId} {args : Array Value} {below : List Frame} {meth : Method} {c : Code} {G : sv_G} {B : Nat} (K : sv_W p s m args meth c cX13_begin RX13 5 (some .boolean) G B "begin") {r : Int32} {hE : sv_H} {x3 : Int32} {s0 : Nat} {s1 : Int32} {s2 : Int32} {h : sv_H} (hw : fn_X13_begin_96 x3 s0 s1 s2 h = some (r, hE)) {H : Heap} {locs : List Loc} {ls : Array Slot} (hR : sv_R G vwCl sv_ft B h H) (hS : va_S (fun q => B ≤ q) s.heap H locs) (hl : lv_has ls 5 [(3, .int x3)]) : W p l e rm_X13_begin s m args below meth c H locs 0 0 (sv_Z below s args G B (some (.int r)) hE) (F0 m 96 ls [.int s2, .int s1, .ref s0]) := by
  obtain ⟨hx, hb, hml, hown, hts, hC, hlk, hr, hBs, hni⟩ := id K
  unfold fn_X13_begin_96 at hw
  obtain ⟨h1, hv, hw⟩ := sv_bd hw
  refine sv_rsI hx hb hC.1 rfl hR hS hv dX13_begin_96 (fun H locs hR hS => ?_)
  refine lv_iload_n hx hb dX13_begin_97 rfl (lv_at hl 0 rfl) ?_
  obtain ⟨h01, hw⟩ := sv_rz_some hw
  obtain ⟨rfl, rfl⟩ := sv_ret hw
  exact W.zret hx hb hr (sv_nz01 h01) (fun t ht hW => ⟨⟨rfl, by rw [ht]; exact hR⟩, hS.F ht⟩) hS.2.2 dX13_begin_98
set_option maxHeartbeats 4000000 in
set_option maxRecDepth 100000 in
theorem lk_X13_begin_76 {p : Program} {l : Launch} {e : Env} {s : State} {m : MethodId} {args : Array Value} {below : List Frame} {meth : Method} {c : Code} {G : sv_G} {B : Nat} (K : sv_W p s m args meth c cX13_begin RX13 5 (some .boolean) G B "begin") {r : Int32} {hE : sv_H} {x0 : Nat} {x1 : Int32} {x3 : Int32} {s0 : Nat} {s1 : Int32} {s2 : Int32} {h : sv_H} (hw : fn_X13_begin_76 x0 x1 x3 s0 s1 s2 h = some (r, hE)) {H : Heap} {locs : List Loc} {ls : Array Slot} (hR : sv_R G vwCl sv_ft B h H) (hS : va_S (fun q => B ≤ q) s.heap H locs) (hl : lv_has ls 5 [(0, .ref x0), (1, .int x1), (3, .int x3)]) : W p l e rm_X13_begin s m args below meth c H locs 0 0 (sv_Z below s args G B (some (.int r)) hE) (F0 m 76 ls [.int s2, .int s1, .ref s0]) := by
  obtain ⟨hx, hb, hml, hown, hts, hC, hlk, hr, hBs, hni⟩ := id K
  unfold fn_X13_begin_76 at hw
  obtain ⟨h1, hv, hw⟩ := sv_bd hw
  refine sv_rsI hx hb hC.1 rfl hR hS hv dX13_begin_76 (fun H locs hR hS => ?_)
  refine lv_aload_n hx hb dX13_begin_77 rfl (lv_at hl 0 rfl) ?_
  obtain ⟨v2, hv, hw⟩ := sv_bd hw
  refine sv_rgP hx hb hown hC.1 hR (fl_X13_begin_43 hts hC hni) rfl (by decide) rfl rfl hv dX13_begin_78 ?_
  refine lv_iload_n hx hb dX13_begin_81 rfl (lv_at hl 1 rfl) ?_
  refine lv_iload_n hx hb dX13_begin_82 rfl (lv_at hl 2 rfl) ?_
  refine lv_if_eq (tgt := 90) hx hb dX13_begin_83 (by decide) (fun cc => ?_) (fun cc => ?_)
  · have hw := sv_ift cc hw
    refine lv_aload_n hx hb dX13_begin_90 rfl (lv_at hl 0 rfl) ?_
    obtain ⟨v3, hv, hw⟩ := sv_bd hw
    refine sv_rgP hx hb hown hC.1 hR (fl_X13_begin_43 hts hC hni) rfl (by decide) rfl rfl hv dX13_begin_91 ?_
    refine lv_iload_n hx hb dX13_begin_94 rfl (lv_at hl 1 rfl) ?_
    obtain ⟨v4, hv, hw⟩ := sv_bd hw
    refine sv_rlI hx hb hC.1 rfl hR hv dX13_begin_95 ?_
    exact lk_X13_begin_96 K hw hR hS (lv_sub hl [2] rfl)
  · have hw := sv_iff cc hw
    refine lv_iconst (v := 0) hx hb dX13_begin_86 (by decide) ?_
    refine lv_goto (tgt := 96) hx hb dX13_begin_87 (by decide) ?_
    exact lk_X13_begin_96 K hw hR hS (lv_sub hl [2] rfl)
set_option maxHeartbeats 4000000 in
set_option maxRecDepth 100000 in
theorem lk_X13_begin_56 {p : Program} {l : Launch} {e : Env} {s : State} {m : MethodId} {args : Array Value} {below : List Frame} {meth : Method} {c : Code} {G : sv_G} {B : Nat} (K : sv_W p s m args meth c cX13_begin RX13 5 (some .boolean) G B "begin") {r : Int32} {hE : sv_H} {x0 : Nat} {x1 : Int32} {s0 : Int32} {h : sv_H} (hw : fn_X13_begin_56 x0 x1 s0 h = some (r, hE)) {H : Heap} {locs : List Loc} {ls : Array Slot} (hR : sv_R G vwCl sv_ft B h H) (hS : va_S (fun q => B ≤ q) s.heap H locs) (hl : lv_has ls 5 [(0, .ref x0), (1, .int x1)]) : W p l e rm_X13_begin s m args below meth c H locs 0 0 (sv_Z below s args G B (some (.int r)) hE) (F0 m 56 ls [.int s0]) := by
  obtain ⟨hx, hb, hml, hown, hts, hC, hlk, hr, hBs, hni⟩ := id K
  unfold fn_X13_begin_56 at hw
  refine lv_istore_n (lv' := [(3, .int s0), (0, .ref x0), (1, .int x1)]) hx hb dX13_begin_56 rfl hl (by decide) rfl (fun ls hl => ?_)
  refine lv_aload_n hx hb dX13_begin_57 rfl (lv_at hl 1 rfl) ?_
  obtain ⟨v1, hv, hw⟩ := sv_bd hw
  refine sv_rgP hx hb hown hC.1 hR (fl_X13_begin_40 hts hC hni) rfl (by decide) rfl rfl hv dX13_begin_58 ?_
  refine lv_iload_n hx hb dX13_begin_61 rfl (lv_at hl 2 rfl) ?_
  refine lv_iload_n hx hb dX13_begin_62 rfl (lv_at hl 0 rfl) ?_
  refine lv_if_eq (tgt := 70) hx hb dX13_begin_63 (by decide) (fun cc => ?_) (fun cc => ?_)
  · have hw := sv_ift cc hw
    refine lv_aload_n hx hb dX13_begin_70 rfl (lv_at hl 1 rfl) ?_
    obtain ⟨v2, hv, hw⟩ := sv_bd hw
    refine sv_rgP hx hb hown hC.1 hR (fl_X13_begin_40 hts hC hni) rfl (by decide) rfl rfl hv dX13_begin_71 ?_
    refine lv_iload_n hx hb dX13_begin_74 rfl (lv_at hl 2 rfl) ?_
    obtain ⟨v3, hv, hw⟩ := sv_bd hw
    refine sv_rlI hx hb hC.1 rfl hR hv dX13_begin_75 ?_
    exact lk_X13_begin_76 K hw hR hS (lv_sub hl [1, 2, 0] rfl)
  · have hw := sv_iff cc hw
    refine lv_iconst (v := 1) hx hb dX13_begin_66 (by decide) ?_
    refine lv_goto (tgt := 76) hx hb dX13_begin_67 (by decide) ?_
    exact lk_X13_begin_76 K hw hR hS (lv_sub hl [1, 2, 0] rfl)
set_option maxHeartbeats 4000000 in
set_option maxRecDepth 100000 in
theorem lk_X13_begin_55 {p : Program} {l : Launch} {e : Env} {s : State} {m : MethodId} {args : Array Value} {below : List Frame} {meth : Method} {c : Code} {G : sv_G} {B : Nat} (K : sv_W p s m args meth c cX13_begin RX13 5 (some .boolean) G B "begin") {r : Int32} {hE : sv_H} {x0 : Nat} {x1 : Int32} {h : sv_H} (hw : fn_X13_begin_55 x0 x1 h = some (r, hE)) {H : Heap} {locs : List Loc} {ls : Array Slot} (hR : sv_R G vwCl sv_ft B h H) (hS : va_S (fun q => B ≤ q) s.heap H locs) (hl : lv_has ls 5 [(0, .ref x0), (1, .int x1)]) : W p l e rm_X13_begin s m args below meth c H locs 0 0 (sv_Z below s args G B (some (.int r)) hE) (F0 m 55 ls []) := by
  obtain ⟨hx, hb, hml, hown, hts, hC, hlk, hr, hBs, hni⟩ := id K
  unfold fn_X13_begin_55 at hw
  refine lv_iconst (v := 0) hx hb dX13_begin_55 (by decide) ?_
  exact lk_X13_begin_56 K hw hR hS (lv_sub hl [0, 1] rfl)
set_option maxHeartbeats 4000000 in
set_option maxRecDepth 100000 in
theorem lk_X13_begin_0 {p : Program} {l : Launch} {e : Env} {s : State} {m : MethodId} {args : Array Value} {below : List Frame} {meth : Method} {c : Code} {G : sv_G} {B : Nat} (K : sv_W p s m args meth c cX13_begin RX13 5 (some .boolean) G B "begin") {r : Int32} {hE : sv_H} {x0 : Nat} {x1 : Int32} {x2 : Int32} {h : sv_H} (hw : fn_X13_begin x0 x1 x2 h = some (r, hE)) {H : Heap} {locs : List Loc} {ls : Array Slot} (hR : sv_R G vwCl sv_ft B h H) (hS : va_S (fun q => B ≤ q) s.heap H locs) (hl : lv_has ls 5 [(0, .ref x0), (1, .int x1), (2, .int x2)]) : W p l e rm_X13_begin s m args below meth c H locs 0 0 (sv_Z below s args G B (some (.int r)) hE) (F0 m 0 ls []) := by
  obtain ⟨hx, hb, hml, hown, hts, hC, hlk, hr, hBs, hni⟩ := id K
  unfold fn_X13_begin at hw
  have hw := (sv_go hw).2
  refine lv_aload_n hx hb dX13_begin_0 rfl (lv_at hl 0 rfl) ?_
  refine lv_iload_n hx hb dX13_begin_1 rfl (lv_at hl 1 rfl) ?_
  obtain ⟨r1, h2, hv1, hw⟩ := sv_b_some hw
  refine sv_call (va_runV (As := [.int x1]) (rest := []) ⟨hx, hb, hml, hown, hts⟩ (mt_X13_isSector l G B hv1) (cwV 1 hts (sv_gV wd_1924 wd_1926 wd_77 wd_147 wd_1927) rfl rfl rfl (by decide +kernel) ⟨Nat.le_of_ble_eq_true rfl, Nat.le_of_ble_eq_true rfl⟩) ⟨sv_blind, sv_recv hC.1 hR (ci := 13) (sv_go hv1).1 (by decide) rfl, fun U hU hW => sv_pre hC hR hS hBs hU hW⟩ rfl rfl hl.1 rfl (lv_room (Nat.le_of_ble_eq_true rfl)) dX13_begin_2 ⟨Nat.zero_le _, Nat.zero_le _⟩) hS (fun H locs hR hS => ?_)
  refine lv_if_eq (tgt := 17) hx hb dX13_begin_5 (by decide) (fun cc => ?_) (fun cc => ?_)
  · have hw := sv_ift cc hw
    exact lk_X13_begin_17 K hw hR hS (lv_sub hl [] rfl)
  · have hw := sv_iff cc hw
    refine lv_iload_n hx hb dX13_begin_8 rfl (lv_at hl 2 rfl) ?_
    refine lv_if_lt (tgt := 17) hx hb dX13_begin_9 (by decide) (fun cc => ?_) (fun cc => ?_)
    · have hw := sv_ift cc hw
      exact lk_X13_begin_17 K hw hR hS (lv_sub hl [] rfl)
    · have hw := sv_iff cc hw
      refine lv_iload_n hx hb dX13_begin_12 rfl (lv_at hl 2 rfl) ?_
      refine lv_iconst (v := 2) hx hb dX13_begin_13 (by decide) ?_
      refine lv_icmp_le (tgt := 19) hx hb dX13_begin_14 (by decide) (fun cc => ?_) (fun cc => ?_)
      · have hw := sv_ift cc hw
        refine lv_aload_n hx hb dX13_begin_19 rfl (lv_at hl 0 rfl) ?_
        obtain ⟨v3, hv, hw⟩ := sv_bd hw
        refine sv_rgP hx hb hown hC.1 hR (fl_X13_begin_37 hts hC hni) rfl (by decide) rfl rfl hv dX13_begin_20 ?_
        refine lv_iload_n hx hb dX13_begin_23 rfl (lv_at hl 1 rfl) ?_
        obtain ⟨v4, hv, hw⟩ := sv_bd hw
        refine sv_rlI hx hb hC.1 rfl hR hv dX13_begin_24 ?_
        refine lv_if_lt (tgt := 99) hx hb dX13_begin_25 (by decide) (fun cc => ?_) (fun cc => ?_)
        · have hw := sv_ift cc hw
          refine lv_aload_n hx hb dX13_begin_99 rfl (lv_at hl 0 rfl) ?_
          obtain ⟨v5, hv, hw⟩ := sv_bd hw
          refine sv_rgP hx hb hown hC.1 hR (fl_X13_begin_37 hts hC hni) rfl (by decide) rfl rfl hv dX13_begin_100 ?_
          refine lv_iload_n hx hb dX13_begin_103 rfl (lv_at hl 1 rfl) ?_
          refine lv_iload_n hx hb dX13_begin_104 rfl (lv_at hl 2 rfl) ?_
          obtain ⟨h6, hv, hw⟩ := sv_bd hw
          refine sv_rsI hx hb hC.1 rfl hR hS hv dX13_begin_105 (fun H locs hR hS => ?_)
          refine lv_aload_n hx hb dX13_begin_106 rfl (lv_at hl 0 rfl) ?_
          obtain ⟨v7, hv, hw⟩ := sv_bd hw
          refine sv_rgP hx hb hown hC.1 hR (fl_X13_begin_43 hts hC hni) rfl (by decide) rfl rfl hv dX13_begin_107 ?_
          refine lv_iload_n hx hb dX13_begin_110 rfl (lv_at hl 1 rfl) ?_
          refine lv_iconst (v := 0) hx hb dX13_begin_111 (by decide) ?_
          obtain ⟨h8, hv, hw⟩ := sv_bd hw
          refine sv_rsI hx hb hC.1 rfl hR hS hv dX13_begin_112 (fun H locs hR hS => ?_)
          refine lv_aload_n hx hb dX13_begin_113 rfl (lv_at hl 0 rfl) ?_
          obtain ⟨v9, hv, hw⟩ := sv_bd hw
          refine sv_rgP hx hb hown hC.1 hR (fl_X13_begin_40 hts hC hni) rfl (by decide) rfl rfl hv dX13_begin_114 ?_
          refine lv_iload_n hx hb dX13_begin_117 rfl (lv_at hl 1 rfl) ?_
          refine lv_iload_n hx hb dX13_begin_118 rfl (lv_at hl 2 rfl) ?_
          refine lv_iconst (v := 1) hx hb dX13_begin_119 (by decide) ?_
          refine lv_icmp_ne (tgt := 127) hx hb dX13_begin_120 (by decide) (fun cc => ?_) (fun cc => ?_)
          · have hw := sv_iff cc hw
            refine lv_iconst (v := 1) hx hb dX13_begin_127 (by decide) ?_
            exact lk_X13_begin_128 K hw hR hS (lv_sub hl [0, 1, 2] rfl)
          · have hw := sv_ift cc hw
            refine lv_iconst (v := (-1)) hx hb dX13_begin_123 (by decide) ?_
            refine lv_goto (tgt := 128) hx hb dX13_begin_124 (by decide) ?_
            exact lk_X13_begin_128 K hw hR hS (lv_sub hl [0, 1, 2] rfl)
        · have hw := sv_iff cc hw
          refine lv_iload_n hx hb dX13_begin_28 rfl (lv_at hl 2 rfl) ?_
          refine lv_if_ne (tgt := 55) hx hb dX13_begin_29 (by decide) (fun cc => ?_) (fun cc => ?_)
          · have hw := sv_iff cc hw
            exact lk_X13_begin_55 K hw hR hS (lv_sub hl [0, 1] rfl)
          · have hw := sv_ift cc hw
            refine lv_aload_n hx hb dX13_begin_32 rfl (lv_at hl 0 rfl) ?_
            obtain ⟨v10, hv, hw⟩ := sv_bd hw
            refine sv_rgP hx hb hown hC.1 hR (fl_X13_begin_37 hts hC hni) rfl (by decide) rfl rfl hv dX13_begin_33 ?_
            refine lv_iload_n hx hb dX13_begin_36 rfl (lv_at hl 1 rfl) ?_
            obtain ⟨v11, hv, hw⟩ := sv_bd hw
            refine sv_rlI hx hb hC.1 rfl hR hv dX13_begin_37 ?_
            refine lv_if_ne (tgt := 55) hx hb dX13_begin_38 (by decide) (fun cc => ?_) (fun cc => ?_)
            · have hw := sv_iff cc hw
              exact lk_X13_begin_55 K hw hR hS (lv_sub hl [0, 1] rfl)
            · have hw := sv_ift cc hw
              refine lv_aload_n hx hb dX13_begin_41 rfl (lv_at hl 0 rfl) ?_
              obtain ⟨v12, hv, hw⟩ := sv_bd hw
              refine sv_rgP hx hb hown hC.1 hR (fl_X13_begin_40 hts hC hni) rfl (by decide) rfl rfl hv dX13_begin_42 ?_
              refine lv_iload_n hx hb dX13_begin_45 rfl (lv_at hl 1 rfl) ?_
              obtain ⟨v13, hv, hw⟩ := sv_bd hw
              refine sv_rlI hx hb hC.1 rfl hR hv dX13_begin_46 ?_
              refine lv_iconst (v := 1) hx hb dX13_begin_47 (by decide) ?_
              refine lv_icmp_ge (tgt := 55) hx hb dX13_begin_48 (by decide) (fun cc => ?_) (fun cc => ?_)
              · have hw := sv_ift cc hw
                exact lk_X13_begin_55 K hw hR hS (lv_sub hl [0, 1] rfl)
              · have hw := sv_iff cc hw
                refine lv_iconst (v := 1) hx hb dX13_begin_51 (by decide) ?_
                refine lv_goto (tgt := 56) hx hb dX13_begin_52 (by decide) ?_
                exact lk_X13_begin_56 K hw hR hS (lv_sub hl [0, 1] rfl)
      · have hw := sv_iff cc hw
        exact lk_X13_begin_17 K hw hR hS (lv_sub hl [] rfl)
set_option maxHeartbeats 4000000 in
set_option maxRecDepth 100000 in
theorem mt_X13_begin (l : Launch) (G : sv_G) (B : Nat) {x0 : Nat} {x1 : Int32} {x2 : Int32} {h : sv_H} {r : Int32} {hE : sv_H} (hw : fn_X13_begin x0 x1 x2 h = some (r, hE)) : Met l yX13_begin (.code yX13_begin cX13_begin 5 (some .boolean) :: sv_tb) rm_X13_begin (sv_Pc G B [.ref x0, .int x1, .int x2] h) (sv_Q G B (some (.int r)) hE) 0 0 (fun q => B ≤ q) := by
  refine Met.ofW (cc := cX13_begin) (maxL := 5) (ret := (some .boolean)) (by decide +kernel) rfl ?_
  intro p e s m args below meth c s₁ Bd hml hv
  obtain ⟨rfl, hR, hC, hB⟩ := hv
  have hl := lv_entry ([.ref x0, .int x1, .int x2]) (n := 5) (Nat.le_of_ble_eq_true rfl)
  rw [lg_entry_eq]
  generalize (lg_sl ([.ref x0, .int x1, .int x2]) ++ List.replicate (5 - (lg_sl ([.ref x0, .int x1, .int x2])).length) Slot.unset).toArray = ls at hl ⊢
  have hl : lv_has ls 5 [(0, .ref x0), (1, .int x1), (2, .int x2)] := hl
  exact lk_X13_begin_0 ⟨Bd.exec, Bd.bytes, hml, findClass_of_methodNamed Bd.named, fun w h => atoms_spec (ws := .code yX13_begin cX13_begin 5 (some .boolean) :: sv_tb) Bd.pre w (List.mem_cons_of_mem _ h), hC, Bd.notSynchronized, Bd.returns, hB, (name_of_methodNamed Bd.named Bd.method).1⟩ hw hR va_S.rf hl

def rm_X17_startAll : Room := { frames := 2, cells := 0, slots := 0, locals := 47 }
theorem fl_X17_startAll_26 {s : State} {meth : Method} {args : Array Value} {G : sv_G} {B : Nat} (hts : ∀ w ∈ sv_tb, w.before args s = true) (hC : sv_Cx G B s s.heap) (hni : meth.name = "startAll") : sv_FL s meth args vwCl RX17 26 17 3 (.object "SectorViewModel$Hall") false :=
  ⟨_, RX17, TX17, 29, sv_tb, tyX17, rfl, by decide, hts, uw_X17, Or.inl (hts _ wd_1694), fun _ h => h, tyX17_ok 3 (by decide), tyX17_ok, nmX17, fun h => by cases h⟩
theorem fl_X17_startAll_315 {s : State} {meth : Method} {args : Array Value} {G : sv_G} {B : Nat} (hts : ∀ w ∈ sv_tb, w.before args s = true) (hC : sv_Cx G B s s.heap) (hni : meth.name = "startAll") : sv_FL s meth args vwCl RX17 315 13 5 (.array .int) false :=
  ⟨_, RX13, TX13, 18, sv_tb, tyX13, rfl, by decide, hts, uw_X13, Or.inr ⟨"SectorViewModel", Or.inr ⟨rfl, va_Nw.use rfl (hC.2.1 (.fieldLinkNest "SectorViewModel" 315 "SectorViewModel$Hall" "tags" "[I" "SectorViewModel") (by decide +kernel))⟩⟩, fun _ h => h, tyX13_ok 5 (by decide), tyX13_ok, nmX13, fun h => by cases h⟩
set_option maxHeartbeats 4000000 in
set_option maxRecDepth 100000 in
theorem lk_X17_startAll_40 {p : Program} {l : Launch} {e : Env} {s : State} {m : MethodId} {args : Array Value} {below : List Frame} {meth : Method} {c : Code} {G : sv_G} {B : Nat} (K : sv_W p s m args meth c cX17_startAll RX17 5 none G B "startAll") {r : Unit} {hE : sv_H} {k2 : Nat → Int32 → Int32 → Int32 → sv_H → Option (Unit × sv_H)} (hk2 : ∀ {x0 : Nat} {x1 : Int32} {x2 : Int32} {x3 : Int32} {h : sv_H}, k2 x0 x1 x2 x3 h = some (r, hE) → ∀ {H : Heap} {locs : List Loc} {ls : Array Slot}, sv_R G vwCl sv_ft B h H → va_S (fun q => B ≤ q) s.heap H locs → lv_has ls 5 [(0, .ref x0), (1, .int x1), (2, .int x2), (3, .int x3)] → W p l e rm_X17_startAll s m args below meth c H locs 0 0 (sv_Z below s args G B none hE) (F0 m 2 ls [])) {x0 : Nat} {x1 : Int32} {x2 : Int32} {x3 : Int32} {s0 : Int32} {h : sv_H} (hw : fn_X17_startAll_40 k2 x0 x1 x2 x3 s0 h = some (r, hE)) {H : Heap} {locs : List Loc} {ls : Array Slot} (hR : sv_R G vwCl sv_ft B h H) (hS : va_S (fun q => B ≤ q) s.heap H locs) (hl : lv_has ls 5 [(0, .ref x0), (1, .int x1), (2, .int x2), (3, .int x3)]) : W p l e rm_X17_startAll s m args below meth c H locs 0 0 (sv_Z below s args G B none hE) (F0 m 40 ls [.int s0]) := by
  obtain ⟨hx, hb, hml, hown, hts, hC, hlk, hr, hBs, hni⟩ := id K
  unfold fn_X17_startAll_40 at hw
  refine lv_istore (lv' := [(4, .int s0), (0, .ref x0), (1, .int x1), (2, .int x2), (3, .int x3)]) hx hb dX17_startAll_40 hl (by decide) rfl (fun ls hl => ?_)
  refine lv_iinc (v := x3 + 1) (lv' := [(3, .int (x3 + 1)), (4, .int s0), (0, .ref x0), (1, .int x1), (2, .int x2)]) hx hb dX17_startAll_42 hl (k := 4) rfl rfl (by decide) rfl (fun ls hl => ?_)
  refine lv_goto (tgt := 2) hx hb dX17_startAll_45 (by decide) ?_
  exact hk2 hw hR hS (lv_sub hl [2, 3, 4, 0] rfl)
set_option maxHeartbeats 4000000 in
set_option maxRecDepth 100000 in
theorem lk_X17_startAll_39 {p : Program} {l : Launch} {e : Env} {s : State} {m : MethodId} {args : Array Value} {below : List Frame} {meth : Method} {c : Code} {G : sv_G} {B : Nat} (K : sv_W p s m args meth c cX17_startAll RX17 5 none G B "startAll") {r : Unit} {hE : sv_H} {k2 : Nat → Int32 → Int32 → Int32 → sv_H → Option (Unit × sv_H)} (hk2 : ∀ {x0 : Nat} {x1 : Int32} {x2 : Int32} {x3 : Int32} {h : sv_H}, k2 x0 x1 x2 x3 h = some (r, hE) → ∀ {H : Heap} {locs : List Loc} {ls : Array Slot}, sv_R G vwCl sv_ft B h H → va_S (fun q => B ≤ q) s.heap H locs → lv_has ls 5 [(0, .ref x0), (1, .int x1), (2, .int x2), (3, .int x3)] → W p l e rm_X17_startAll s m args below meth c H locs 0 0 (sv_Z below s args G B none hE) (F0 m 2 ls [])) {x0 : Nat} {x1 : Int32} {x2 : Int32} {x3 : Int32} {h : sv_H} (hw : fn_X17_startAll_39 k2 x0 x1 x2 x3 h = some (r, hE)) {H : Heap} {locs : List Loc} {ls : Array Slot} (hR : sv_R G vwCl sv_ft B h H) (hS : va_S (fun q => B ≤ q) s.heap H locs) (hl : lv_has ls 5 [(0, .ref x0), (1, .int x1), (2, .int x2), (3, .int x3)]) : W p l e rm_X17_startAll s m args below meth c H locs 0 0 (sv_Z below s args G B none hE) (F0 m 39 ls []) := by
  obtain ⟨hx, hb, hml, hown, hts, hC, hlk, hr, hBs, hni⟩ := id K
  unfold fn_X17_startAll_39 at hw
  refine lv_iconst (v := 0) hx hb dX17_startAll_39 (by decide) ?_
  exact lk_X17_startAll_40 K hk2 hw hR hS (lv_sub hl [0, 1, 2, 3] rfl)
set_option maxHeartbeats 4000000 in
set_option maxRecDepth 100000 in
theorem lk_X17_startAll_2b {p : Program} {l : Launch} {e : Env} {s : State} {m : MethodId} {args : Array Value} {below : List Frame} {meth : Method} {c : Code} {G : sv_G} {B : Nat} (K : sv_W p s m args meth c cX17_startAll RX17 5 none G B "startAll") {r : Unit} {hE : sv_H} {k2 : Nat → Int32 → Int32 → Int32 → sv_H → Option (Unit × sv_H)} (hk2 : ∀ {x0 : Nat} {x1 : Int32} {x2 : Int32} {x3 : Int32} {h : sv_H}, k2 x0 x1 x2 x3 h = some (r, hE) → ∀ {H : Heap} {locs : List Loc} {ls : Array Slot}, sv_R G vwCl sv_ft B h H → va_S (fun q => B ≤ q) s.heap H locs → lv_has ls 5 [(0, .ref x0), (1, .int x1), (2, .int x2), (3, .int x3)] → W p l e rm_X17_startAll s m args below meth c H locs 0 0 (sv_Z below s args G B none hE) (F0 m 2 ls [])) {x0 : Nat} {x1 : Int32} {x2 : Int32} {x3 : Int32} {h : sv_H} (hw : fn_X17_startAll_2b k2 x0 x1 x2 x3 h = some (r, hE)) {H : Heap} {locs : List Loc} {ls : Array Slot} (hR : sv_R G vwCl sv_ft B h H) (hS : va_S (fun q => B ≤ q) s.heap H locs) (hl : lv_has ls 5 [(0, .ref x0), (1, .int x1), (2, .int x2), (3, .int x3)]) : W p l e rm_X17_startAll s m args below meth c H locs 0 0 (sv_Z below s args G B none hE) (F0 m 2 ls []) := by
  obtain ⟨hx, hb, hml, hown, hts, hC, hlk, hr, hBs, hni⟩ := id K
  unfold fn_X17_startAll_2b at hw
  refine lv_iload_n hx hb dX17_startAll_2 rfl (lv_at hl 3 rfl) ?_
  refine lv_aload_n hx hb dX17_startAll_3 rfl (lv_at hl 0 rfl) ?_
  obtain ⟨r1, h2, hv1, hw⟩ := sv_b_some hw
  refine sv_call (va_runV (As := []) (rest := [.int x3]) ⟨hx, hb, hml, hown, hts⟩ (mt_X17_sectors l G B hv1) (cwV 0 hts (sv_gV wd_1878 wd_1880 wd_70 wd_144 wd_1881) rfl rfl rfl (by decide +kernel) ⟨Nat.le_of_ble_eq_true rfl, Nat.le_of_ble_eq_true rfl⟩) ⟨sv_blind, sv_recv hC.1 hR (ci := 17) (sv_go hv1).1 (by decide) rfl, fun U hU hW => sv_pre hC hR hS hBs hU hW⟩ rfl rfl hl.1 rfl (lv_room (Nat.le_of_ble_eq_true rfl)) dX17_startAll_4 ⟨Nat.zero_le _, Nat.zero_le _⟩) hS (fun H locs hR hS => ?_)
  refine lv_icmp_ge (tgt := 48) hx hb dX17_startAll_7 (by decide) (fun cc => ?_) (fun cc => ?_)
  · have hw := sv_ift cc hw
    obtain ⟨rfl, rfl⟩ := sv_ret hw
    exact W.vret hx hb hr (fun t ht hW => ⟨⟨rfl, by rw [ht]; exact hR⟩, hS.F ht⟩) hS.2.2 dX17_startAll_48
  · have hw := sv_iff cc hw
    refine lv_aload_n hx hb dX17_startAll_10 rfl (lv_at hl 0 rfl) ?_
    obtain ⟨v3, hv, hw⟩ := sv_bd hw
    refine sv_rgP hx hb hown hC.1 hR (fl_X17_startAll_26 hts hC hni) rfl (by decide) rfl rfl hv dX17_startAll_11 ?_
    obtain ⟨v4, hv, hw⟩ := sv_bd hw
    refine sv_rgP hx hb hown hC.1 hR (fl_X17_startAll_315 hts hC hni) rfl (by decide) rfl rfl hv dX17_startAll_14 ?_
    refine lv_iload_n hx hb dX17_startAll_17 rfl (lv_at hl 3 rfl) ?_
    obtain ⟨v5, hv, hw⟩ := sv_bd hw
    refine sv_rlI hx hb hC.1 rfl hR hv dX17_startAll_18 ?_
    refine lv_iload_n hx hb dX17_startAll_19 rfl (lv_at hl 1 rfl) ?_
    refine lv_icmp_ne (tgt := 39) hx hb dX17_startAll_20 (by decide) (fun cc => ?_) (fun cc => ?_)
    · have hw := sv_iff cc hw
      exact lk_X17_startAll_39 K hk2 hw hR hS (lv_sub hl [0, 1, 2, 3] rfl)
    · have hw := sv_ift cc hw
      refine lv_aload_n hx hb dX17_startAll_23 rfl (lv_at hl 0 rfl) ?_
      obtain ⟨v6, hv, hw⟩ := sv_bd hw
      refine sv_rgP hx hb hown hC.1 hR (fl_X17_startAll_26 hts hC hni) rfl (by decide) rfl rfl hv dX17_startAll_24 ?_
      refine lv_iload_n hx hb dX17_startAll_27 rfl (lv_at hl 3 rfl) ?_
      refine lv_iload_n hx hb dX17_startAll_28 rfl (lv_at hl 2 rfl) ?_
      obtain ⟨r7, h8, hv2, hw⟩ := sv_b_some hw
      refine sv_call (va_runV (As := [.int x3, .int x2]) (rest := []) ⟨hx, hb, hml, hown, hts⟩ (mt_X13_begin l G B hv2) (cwV 2 hts (sv_gV wd_2186 wd_2187 wd_2188 wd_147 wd_2189) rfl rfl rfl (by decide +kernel) ⟨Nat.le_of_ble_eq_true rfl, Nat.le_of_ble_eq_true rfl⟩) ⟨sv_blind, sv_recv hC.1 hR (ci := 13) (sv_go hv2).1 (by decide) rfl, fun U hU hW => sv_pre hC hR hS hBs hU hW⟩ rfl rfl hl.1 rfl (lv_room (Nat.le_of_ble_eq_true rfl)) dX17_startAll_29 ⟨Nat.zero_le _, Nat.zero_le _⟩) hS (fun H locs hR hS => ?_)
      refine lv_if_eq (tgt := 39) hx hb dX17_startAll_32 (by decide) (fun cc => ?_) (fun cc => ?_)
      · have hw := sv_ift cc hw
        exact lk_X17_startAll_39 K hk2 hw hR hS (lv_sub hl [0, 1, 2, 3] rfl)
      · have hw := sv_iff cc hw
        refine lv_iconst (v := 1) hx hb dX17_startAll_35 (by decide) ?_
        refine lv_goto (tgt := 40) hx hb dX17_startAll_36 (by decide) ?_
        exact lk_X17_startAll_40 K hk2 hw hR hS (lv_sub hl [0, 1, 2, 3] rfl)
theorem lk_X17_startAll_2 {p : Program} {l : Launch} {e : Env} {s : State} {m : MethodId} {args : Array Value} {below : List Frame} {meth : Method} {c : Code} {G : sv_G} {B : Nat} (K : sv_W p s m args meth c cX17_startAll RX17 5 none G B "startAll") {r : Unit} {hE : sv_H} : ∀ (n : Nat) {x0 : Nat} {x1 : Int32} {x2 : Int32} {x3 : Int32} {h : sv_H}, fn_X17_startAll_2 n x0 x1 x2 x3 h = some (r, hE) → ∀ {H : Heap} {locs : List Loc} {ls : Array Slot}, sv_R G vwCl sv_ft B h H → va_S (fun q => B ≤ q) s.heap H locs → lv_has ls 5 [(0, .ref x0), (1, .int x1), (2, .int x2), (3, .int x3)] → W p l e rm_X17_startAll s m args below meth c H locs 0 0 (sv_Z below s args G B none hE) (F0 m 2 ls []) := by
  intro n
  induction n with
  | zero => intro x0 x1 x2 x3 h hw; cases (show (none : Option (Unit × sv_H)) = some (r, hE) from hw)
  | succ n ih => intro x0 x1 x2 x3 h hw H locs ls hR hS hl; exact lk_X17_startAll_2b K (fun hw => ih hw) hw hR hS hl
set_option maxHeartbeats 4000000 in
set_option maxRecDepth 100000 in
theorem lk_X17_startAll_0 {p : Program} {l : Launch} {e : Env} {s : State} {m : MethodId} {args : Array Value} {below : List Frame} {meth : Method} {c : Code} {G : sv_G} {B : Nat} (K : sv_W p s m args meth c cX17_startAll RX17 5 none G B "startAll") {r : Unit} {hE : sv_H} {x0 : Nat} {x1 : Int32} {x2 : Int32} {h : sv_H} (hw : fn_X17_startAll x0 x1 x2 h = some (r, hE)) {H : Heap} {locs : List Loc} {ls : Array Slot} (hR : sv_R G vwCl sv_ft B h H) (hS : va_S (fun q => B ≤ q) s.heap H locs) (hl : lv_has ls 5 [(0, .ref x0), (1, .int x1), (2, .int x2)]) : W p l e rm_X17_startAll s m args below meth c H locs 0 0 (sv_Z below s args G B none hE) (F0 m 0 ls []) := by
  obtain ⟨hx, hb, hml, hown, hts, hC, hlk, hr, hBs, hni⟩ := id K
  unfold fn_X17_startAll at hw
  have hw := (sv_go hw).2
  refine lv_iconst (v := 0) hx hb dX17_startAll_0 (by decide) ?_
  refine lv_istore_n (lv' := [(3, .int 0), (0, .ref x0), (1, .int x1), (2, .int x2)]) hx hb dX17_startAll_1 rfl hl (by decide) rfl (fun ls hl => ?_)
  exact lk_X17_startAll_2 K sv_fuel hw hR hS (lv_sub hl [1, 2, 3, 0] rfl)
set_option maxHeartbeats 4000000 in
set_option maxRecDepth 100000 in
theorem mt_X17_startAll (l : Launch) (G : sv_G) (B : Nat) {x0 : Nat} {x1 : Int32} {x2 : Int32} {h : sv_H} {r : Unit} {hE : sv_H} (hw : fn_X17_startAll x0 x1 x2 h = some (r, hE)) : Met l yX17_startAll (.code yX17_startAll cX17_startAll 5 none :: sv_tb) rm_X17_startAll (sv_Pc G B [.ref x0, .int x1, .int x2] h) (sv_Q G B none hE) 0 0 (fun q => B ≤ q) := by
  refine Met.ofW (cc := cX17_startAll) (maxL := 5) (ret := none) (by decide +kernel) rfl ?_
  intro p e s m args below meth c s₁ Bd hml hv
  obtain ⟨rfl, hR, hC, hB⟩ := hv
  have hl := lv_entry ([.ref x0, .int x1, .int x2]) (n := 5) (Nat.le_of_ble_eq_true rfl)
  rw [lg_entry_eq]
  generalize (lg_sl ([.ref x0, .int x1, .int x2]) ++ List.replicate (5 - (lg_sl ([.ref x0, .int x1, .int x2])).length) Slot.unset).toArray = ls at hl ⊢
  have hl : lv_has ls 5 [(0, .ref x0), (1, .int x1), (2, .int x2)] := hl
  exact lk_X17_startAll_0 ⟨Bd.exec, Bd.bytes, hml, findClass_of_methodNamed Bd.named, fun w h => atoms_spec (ws := .code yX17_startAll cX17_startAll 5 none :: sv_tb) Bd.pre w (List.mem_cons_of_mem _ h), hC, Bd.notSynchronized, Bd.returns, hB, (name_of_methodNamed Bd.named Bd.method).1⟩ hw hR va_S.rf hl

def rm_X17_walks : Room := { frames := 8, cells := 0, slots := 0, locals := 179 }
theorem fl_X17_walks_45 {s : State} {meth : Method} {args : Array Value} {G : sv_G} {B : Nat} (hts : ∀ w ∈ sv_tb, w.before args s = true) (hC : sv_Cx G B s s.heap) (hni : meth.name = "walks") : sv_FL s meth args vwCl RX17 45 17 20 (.array .int) false :=
  ⟨_, RX17, TX17, 29, sv_tb, tyX17, rfl, by decide, hts, uw_X17, Or.inl (hts _ wd_1711), fun _ h => h, tyX17_ok 20 (by decide), tyX17_ok, nmX17, fun h => by cases h⟩
theorem fl_X17_walks_207 {s : State} {meth : Method} {args : Array Value} {G : sv_G} {B : Nat} (hts : ∀ w ∈ sv_tb, w.before args s = true) (hC : sv_Cx G B s s.heap) (hni : meth.name = "walks") : sv_FL s meth args vwCl RX17 207 17 21 .int true :=
  ⟨_, RX17, TX17, 29, sv_tb, tyX17, rfl, by decide, hts, uw_X17, Or.inl (hts _ wd_1712), fun _ h => h, tyX17_ok 21 (by decide), tyX17_ok, nmX17, fun _ => Or.inl rfl⟩
theorem fl_X17_walks_182 {s : State} {meth : Method} {args : Array Value} {G : sv_G} {B : Nat} (hts : ∀ w ∈ sv_tb, w.before args s = true) (hC : sv_Cx G B s s.heap) (hni : meth.name = "walks") : sv_FL s meth args vwCl RX17 182 17 11 .int true :=
  ⟨_, RX17, TX17, 29, sv_tb, tyX17, rfl, by decide, hts, uw_X17, Or.inl (hts _ wd_1702), fun _ h => h, tyX17_ok 11 (by decide), tyX17_ok, nmX17, fun _ => Or.inl rfl⟩
theorem fl_X17_walks_185 {s : State} {meth : Method} {args : Array Value} {G : sv_G} {B : Nat} (hts : ∀ w ∈ sv_tb, w.before args s = true) (hC : sv_Cx G B s s.heap) (hni : meth.name = "walks") : sv_FL s meth args vwCl RX17 185 17 12 .int true :=
  ⟨_, RX17, TX17, 29, sv_tb, tyX17, rfl, by decide, hts, uw_X17, Or.inl (hts _ wd_1703), fun _ h => h, tyX17_ok 12 (by decide), tyX17_ok, nmX17, fun _ => Or.inl rfl⟩
theorem fl_X17_walks_224 {s : State} {meth : Method} {args : Array Value} {G : sv_G} {B : Nat} (hts : ∀ w ∈ sv_tb, w.before args s = true) (hC : sv_Cx G B s s.heap) (hni : meth.name = "walks") : sv_FL s meth args vwCl RX17 224 17 14 .int true :=
  ⟨_, RX17, TX17, 29, sv_tb, tyX17, rfl, by decide, hts, uw_X17, Or.inl (hts _ wd_1705), fun _ h => h, tyX17_ok 14 (by decide), tyX17_ok, nmX17, fun _ => Or.inl rfl⟩
theorem fl_X17_walks_198 {s : State} {meth : Method} {args : Array Value} {G : sv_G} {B : Nat} (hts : ∀ w ∈ sv_tb, w.before args s = true) (hC : sv_Cx G B s s.heap) (hni : meth.name = "walks") : sv_FL s meth args vwCl RX17 198 17 17 .long true :=
  ⟨_, RX17, TX17, 29, sv_tb, tyX17, rfl, by decide, hts, uw_X17, Or.inl (hts _ wd_1708), fun _ h => h, tyX17_ok 17 (by decide), tyX17_ok, nmX17, fun _ => Or.inl rfl⟩
theorem fl_X17_walks_201 {s : State} {meth : Method} {args : Array Value} {G : sv_G} {B : Nat} (hts : ∀ w ∈ sv_tb, w.before args s = true) (hC : sv_Cx G B s s.heap) (hni : meth.name = "walks") : sv_FL s meth args vwCl RX17 201 17 18 .long true :=
  ⟨_, RX17, TX17, 29, sv_tb, tyX17, rfl, by decide, hts, uw_X17, Or.inl (hts _ wd_1709), fun _ h => h, tyX17_ok 18 (by decide), tyX17_ok, nmX17, fun _ => Or.inl rfl⟩
set_option maxHeartbeats 4000000 in
set_option maxRecDepth 100000 in
theorem lk_X17_walks_139 {p : Program} {l : Launch} {e : Env} {s : State} {m : MethodId} {args : Array Value} {below : List Frame} {meth : Method} {c : Code} {G : sv_G} {B : Nat} (K : sv_W p s m args meth c cX17_walks RX17 7 (some .boolean) G B "walks") {r : Int32} {hE : sv_H} {h : sv_H} (hw : fn_X17_walks_139 h = some (r, hE)) {H : Heap} {locs : List Loc} {ls : Array Slot} (hR : sv_R G vwCl sv_ft B h H) (hS : va_S (fun q => B ≤ q) s.heap H locs) (hl : lv_has ls 7 []) : W p l e rm_X17_walks s m args below meth c H locs 0 0 (sv_Z below s args G B (some (.int r)) hE) (F0 m 139 ls []) := by
  obtain ⟨hx, hb, hml, hown, hts, hC, hlk, hr, hBs, hni⟩ := id K
  unfold fn_X17_walks_139 at hw
  refine lv_iconst (v := 0) hx hb dX17_walks_139 (by decide) ?_
  obtain ⟨rfl, rfl⟩ := sv_ret hw
  exact W.zret hx hb hr (by decide +kernel) (fun t ht hW => ⟨⟨rfl, by rw [ht]; exact hR⟩, hS.F ht⟩) hS.2.2 dX17_walks_140
set_option maxHeartbeats 4000000 in
set_option maxRecDepth 100000 in
theorem lk_X17_walks_247 {p : Program} {l : Launch} {e : Env} {s : State} {m : MethodId} {args : Array Value} {below : List Frame} {meth : Method} {c : Code} {G : sv_G} {B : Nat} (K : sv_W p s m args meth c cX17_walks RX17 7 (some .boolean) G B "walks") {r : Int32} {hE : sv_H} {k169 : Nat → Int32 → Int32 → sv_H → Option (Int32 × sv_H)} (hk169 : ∀ {x0 : Nat} {x4 : Int32} {x5 : Int32} {h : sv_H}, k169 x0 x4 x5 h = some (r, hE) → ∀ {H : Heap} {locs : List Loc} {ls : Array Slot}, sv_R G vwCl sv_ft B h H → va_S (fun q => B ≤ q) s.heap H locs → lv_has ls 7 [(0, .ref x0), (4, .int x4), (5, .int x5)] → W p l e rm_X17_walks s m args below meth c H locs 0 0 (sv_Z below s args G B (some (.int r)) hE) (F0 m 169 ls [])) {x0 : Nat} {x4 : Int32} {x5 : Int32} {h : sv_H} (hw : fn_X17_walks_247 k169 x0 x4 x5 h = some (r, hE)) {H : Heap} {locs : List Loc} {ls : Array Slot} (hR : sv_R G vwCl sv_ft B h H) (hS : va_S (fun q => B ≤ q) s.heap H locs) (hl : lv_has ls 7 [(0, .ref x0), (4, .int x4), (5, .int x5)]) : W p l e rm_X17_walks s m args below meth c H locs 0 0 (sv_Z below s args G B (some (.int r)) hE) (F0 m 247 ls []) := by
  obtain ⟨hx, hb, hml, hown, hts, hC, hlk, hr, hBs, hni⟩ := id K
  unfold fn_X17_walks_247 at hw
  refine lv_iinc (v := x5 + 1) (lv' := [(5, .int (x5 + 1)), (0, .ref x0), (4, .int x4)]) hx hb dX17_walks_247 hl (k := 2) rfl rfl (by decide) rfl (fun ls hl => ?_)
  refine lv_goto (tgt := 169) hx hb dX17_walks_250 (by decide) ?_
  exact hk169 hw hR hS (lv_sub hl [1, 2, 0] rfl)
set_option maxHeartbeats 4000000 in
set_option maxRecDepth 100000 in
theorem lk_X17_walks_244 {p : Program} {l : Launch} {e : Env} {s : State} {m : MethodId} {args : Array Value} {below : List Frame} {meth : Method} {c : Code} {G : sv_G} {B : Nat} (K : sv_W p s m args meth c cX17_walks RX17 7 (some .boolean) G B "walks") {r : Int32} {hE : sv_H} {k169 : Nat → Int32 → Int32 → sv_H → Option (Int32 × sv_H)} (hk169 : ∀ {x0 : Nat} {x4 : Int32} {x5 : Int32} {h : sv_H}, k169 x0 x4 x5 h = some (r, hE) → ∀ {H : Heap} {locs : List Loc} {ls : Array Slot}, sv_R G vwCl sv_ft B h H → va_S (fun q => B ≤ q) s.heap H locs → lv_has ls 7 [(0, .ref x0), (4, .int x4), (5, .int x5)] → W p l e rm_X17_walks s m args below meth c H locs 0 0 (sv_Z below s args G B (some (.int r)) hE) (F0 m 169 ls [])) {x0 : Nat} {x4 : Int32} {x5 : Int32} {s0 : Nat} {s1 : Int32} {s2 : Int32} {h : sv_H} (hw : fn_X17_walks_244 k169 x0 x4 x5 s0 s1 s2 h = some (r, hE)) {H : Heap} {locs : List Loc} {ls : Array Slot} (hR : sv_R G vwCl sv_ft B h H) (hS : va_S (fun q => B ≤ q) s.heap H locs) (hl : lv_has ls 7 [(0, .ref x0), (4, .int x4), (5, .int x5)]) : W p l e rm_X17_walks s m args below meth c H locs 0 0 (sv_Z below s args G B (some (.int r)) hE) (F0 m 244 ls [.int s2, .int s1, .ref s0]) := by
  obtain ⟨hx, hb, hml, hown, hts, hC, hlk, hr, hBs, hni⟩ := id K
  unfold fn_X17_walks_244 at hw
  obtain ⟨_, h1, hv1, hw⟩ := sv_b_some hw
  refine sv_call (va_runV (As := [.int s1, .int s2]) (rest := []) ⟨hx, hb, hml, hown, hts⟩ (mt_X17_startAll l G B hv1) (cwV 2 hts (sv_gV wd_2182 wd_2184 wd_109 wd_144 wd_2185) rfl rfl rfl (by decide +kernel) ⟨Nat.le_of_ble_eq_true rfl, Nat.le_of_ble_eq_true rfl⟩) ⟨sv_blind, sv_recv hC.1 hR (ci := 17) (sv_go hv1).1 (by decide) rfl, fun U hU hW => sv_pre hC hR hS hBs hU hW⟩ rfl rfl hl.1 rfl (lv_room (Nat.le_of_ble_eq_true rfl)) dX17_walks_244 ⟨Nat.zero_le _, Nat.zero_le _⟩) hS (fun H locs hR hS => ?_)
  exact lk_X17_walks_247 K hk169 hw hR hS (lv_sub hl [0, 1, 2] rfl)
set_option maxHeartbeats 4000000 in
set_option maxRecDepth 100000 in
theorem lk_X17_walks_209 {p : Program} {l : Launch} {e : Env} {s : State} {m : MethodId} {args : Array Value} {below : List Frame} {meth : Method} {c : Code} {G : sv_G} {B : Nat} (K : sv_W p s m args meth c cX17_walks RX17 7 (some .boolean) G B "walks") {r : Int32} {hE : sv_H} {k169 : Nat → Int32 → Int32 → sv_H → Option (Int32 × sv_H)} (hk169 : ∀ {x0 : Nat} {x4 : Int32} {x5 : Int32} {h : sv_H}, k169 x0 x4 x5 h = some (r, hE) → ∀ {H : Heap} {locs : List Loc} {ls : Array Slot}, sv_R G vwCl sv_ft B h H → va_S (fun q => B ≤ q) s.heap H locs → lv_has ls 7 [(0, .ref x0), (4, .int x4), (5, .int x5)] → W p l e rm_X17_walks s m args below meth c H locs 0 0 (sv_Z below s args G B (some (.int r)) hE) (F0 m 169 ls [])) {x0 : Nat} {x4 : Int32} {x5 : Int32} {x6 : Int32} {h : sv_H} (hw : fn_X17_walks_209 k169 x0 x4 x5 x6 h = some (r, hE)) {H : Heap} {locs : List Loc} {ls : Array Slot} (hR : sv_R G vwCl sv_ft B h H) (hS : va_S (fun q => B ≤ q) s.heap H locs) (hl : lv_has ls 7 [(0, .ref x0), (4, .int x4), (5, .int x5), (6, .int x6)]) : W p l e rm_X17_walks s m args below meth c H locs 0 0 (sv_Z below s args G B (some (.int r)) hE) (F0 m 209 ls []) := by
  obtain ⟨hx, hb, hml, hown, hts, hC, hlk, hr, hBs, hni⟩ := id K
  unfold fn_X17_walks_209 at hw
  refine lv_aload_n hx hb dX17_walks_209 rfl (lv_at hl 0 rfl) ?_
  refine lv_aload_n hx hb dX17_walks_210 rfl (lv_at hl 0 rfl) ?_
  refine lv_aload_n hx hb dX17_walks_211 rfl (lv_at hl 0 rfl) ?_
  obtain ⟨v1, hv, hw⟩ := sv_bd hw
  refine sv_rgP hx hb hown hC.1 hR (fl_X17_walks_45 hts hC hni) rfl (by decide) rfl rfl hv dX17_walks_212 ?_
  refine lv_iload hx hb dX17_walks_215 (lv_at hl 2 rfl) ?_
  obtain ⟨v2, hv, hw⟩ := sv_bd hw
  refine sv_rlI hx hb hC.1 rfl hR hv dX17_walks_217 ?_
  refine lv_bipush (v := 14) hx hb dX17_walks_218 (by decide) ?_
  obtain ⟨r3, h4, hv1, hw⟩ := sv_b_some hw
  refine sv_call (va_runV (As := [.int v2, .int 14]) (rest := [.ref x0]) ⟨hx, hb, hml, hown, hts⟩ (mt_X17_wallPart l G B hv1) (cwV 2 hts (sv_gV wd_2058 wd_2060 wd_94 wd_144 wd_2061) rfl rfl rfl (by decide +kernel) ⟨Nat.le_of_ble_eq_true rfl, Nat.le_of_ble_eq_true rfl⟩) ⟨sv_blind, sv_recv hC.1 hR (ci := 17) (sv_go hv1).1 (by decide) rfl, fun U hU hW => sv_pre hC hR hS hBs hU hW⟩ rfl rfl hl.1 rfl (lv_room (Nat.le_of_ble_eq_true rfl)) dX17_walks_220 ⟨Nat.zero_le _, Nat.zero_le _⟩) hS (fun H locs hR hS => ?_)
  refine lv_iload hx hb dX17_walks_223 (lv_at hl 3 rfl) ?_
  refine lv_iconst (v := 2) hx hb dX17_walks_225 (by decide) ?_
  refine lv_icmp_ne (tgt := 233) hx hb dX17_walks_226 (by decide) (fun cc => ?_) (fun cc => ?_)
  · have hw := sv_iff cc hw
    refine lv_iload hx hb dX17_walks_233 (lv_at hl 3 rfl) ?_
    refine lv_iconst (v := 3) hx hb dX17_walks_235 (by decide) ?_
    refine lv_icmp_ne (tgt := 243) hx hb dX17_walks_236 (by decide) (fun cc => ?_) (fun cc => ?_)
    · have hw := sv_iff cc hw
      refine lv_iconst (v := 2) hx hb dX17_walks_243 (by decide) ?_
      exact lk_X17_walks_244 K hk169 hw hR hS (lv_sub hl [0, 1, 2] rfl)
    · have hw := sv_ift cc hw
      refine lv_iconst (v := 0) hx hb dX17_walks_239 (by decide) ?_
      refine lv_goto (tgt := 244) hx hb dX17_walks_240 (by decide) ?_
      exact lk_X17_walks_244 K hk169 hw hR hS (lv_sub hl [0, 1, 2] rfl)
  · have hw := sv_ift cc hw
    refine lv_iconst (v := 1) hx hb dX17_walks_229 (by decide) ?_
    refine lv_goto (tgt := 244) hx hb dX17_walks_230 (by decide) ?_
    exact lk_X17_walks_244 K hk169 hw hR hS (lv_sub hl [0, 1, 2] rfl)
set_option maxHeartbeats 4000000 in
set_option maxRecDepth 100000 in
theorem lk_X17_walks_169b {p : Program} {l : Launch} {e : Env} {s : State} {m : MethodId} {args : Array Value} {below : List Frame} {meth : Method} {c : Code} {G : sv_G} {B : Nat} (K : sv_W p s m args meth c cX17_walks RX17 7 (some .boolean) G B "walks") {r : Int32} {hE : sv_H} {k169 : Nat → Int32 → Int32 → sv_H → Option (Int32 × sv_H)} (hk169 : ∀ {x0 : Nat} {x4 : Int32} {x5 : Int32} {h : sv_H}, k169 x0 x4 x5 h = some (r, hE) → ∀ {H : Heap} {locs : List Loc} {ls : Array Slot}, sv_R G vwCl sv_ft B h H → va_S (fun q => B ≤ q) s.heap H locs → lv_has ls 7 [(0, .ref x0), (4, .int x4), (5, .int x5)] → W p l e rm_X17_walks s m args below meth c H locs 0 0 (sv_Z below s args G B (some (.int r)) hE) (F0 m 169 ls [])) {x0 : Nat} {x4 : Int32} {x5 : Int32} {h : sv_H} (hw : fn_X17_walks_169b k169 x0 x4 x5 h = some (r, hE)) {H : Heap} {locs : List Loc} {ls : Array Slot} (hR : sv_R G vwCl sv_ft B h H) (hS : va_S (fun q => B ≤ q) s.heap H locs) (hl : lv_has ls 7 [(0, .ref x0), (4, .int x4), (5, .int x5)]) : W p l e rm_X17_walks s m args below meth c H locs 0 0 (sv_Z below s args G B (some (.int r)) hE) (F0 m 169 ls []) := by
  obtain ⟨hx, hb, hml, hown, hts, hC, hlk, hr, hBs, hni⟩ := id K
  unfold fn_X17_walks_169b at hw
  refine lv_iload hx hb dX17_walks_169 (lv_at hl 2 rfl) ?_
  refine lv_iload hx hb dX17_walks_171 (lv_at hl 1 rfl) ?_
  refine lv_icmp_ge (tgt := 253) hx hb dX17_walks_173 (by decide) (fun cc => ?_) (fun cc => ?_)
  · have hw := sv_ift cc hw
    refine lv_iconst (v := 1) hx hb dX17_walks_253 (by decide) ?_
    obtain ⟨rfl, rfl⟩ := sv_ret hw
    exact W.zret hx hb hr (by decide +kernel) (fun t ht hW => ⟨⟨rfl, by rw [ht]; exact hR⟩, hS.F ht⟩) hS.2.2 dX17_walks_254
  · have hw := sv_iff cc hw
    refine lv_aload_n hx hb dX17_walks_176 rfl (lv_at hl 0 rfl) ?_
    refine lv_aload_n hx hb dX17_walks_177 rfl (lv_at hl 0 rfl) ?_
    obtain ⟨v1, hv, hw⟩ := sv_bd hw
    refine sv_rgP hx hb hown hC.1 hR (fl_X17_walks_45 hts hC hni) rfl (by decide) rfl rfl hv dX17_walks_178 ?_
    refine lv_iload hx hb dX17_walks_181 (lv_at hl 2 rfl) ?_
    obtain ⟨v2, hv, hw⟩ := sv_bd hw
    refine sv_rlI hx hb hC.1 rfl hR hv dX17_walks_183 ?_
    refine lv_bipush (v := 13) hx hb dX17_walks_184 (by decide) ?_
    obtain ⟨r3, h4, hv1, hw⟩ := sv_b_some hw
    refine sv_call (va_runV (As := [.int v2, .int 13]) (rest := []) ⟨hx, hb, hml, hown, hts⟩ (mt_X17_wallPart l G B hv1) (cwV 2 hts (sv_gV wd_2058 wd_2060 wd_94 wd_144 wd_2061) rfl rfl rfl (by decide +kernel) ⟨Nat.le_of_ble_eq_true rfl, Nat.le_of_ble_eq_true rfl⟩) ⟨sv_blind, sv_recv hC.1 hR (ci := 17) (sv_go hv1).1 (by decide) rfl, fun U hU hW => sv_pre hC hR hS hBs hU hW⟩ rfl rfl hl.1 rfl (lv_room (Nat.le_of_ble_eq_true rfl)) dX17_walks_186 ⟨Nat.zero_le _, Nat.zero_le _⟩) hS (fun H locs hR hS => ?_)
    refine lv_istore (lv' := [(6, .int r3), (0, .ref x0), (4, .int x4), (5, .int x5)]) hx hb dX17_walks_189 hl (by decide) rfl (fun ls hl => ?_)
    refine lv_iload hx hb dX17_walks_191 (lv_at hl 0 rfl) ?_
    refine lv_iconst (v := 2) hx hb dX17_walks_193 (by decide) ?_
    refine lv_icmp_eq (tgt := 209) hx hb dX17_walks_194 (by decide) (fun cc => ?_) (fun cc => ?_)
    · have hw := sv_ift cc hw
      exact lk_X17_walks_209 K hk169 hw hR hS (lv_sub hl [1, 2, 3, 0] rfl)
    · have hw := sv_iff cc hw
      refine lv_iload hx hb dX17_walks_197 (lv_at hl 0 rfl) ?_
      refine lv_iconst (v := 3) hx hb dX17_walks_199 (by decide) ?_
      refine lv_icmp_eq (tgt := 209) hx hb dX17_walks_200 (by decide) (fun cc => ?_) (fun cc => ?_)
      · have hw := sv_ift cc hw
        exact lk_X17_walks_209 K hk169 hw hR hS (lv_sub hl [1, 2, 3, 0] rfl)
      · have hw := sv_iff cc hw
        refine lv_iload hx hb dX17_walks_203 (lv_at hl 0 rfl) ?_
        refine lv_iconst (v := 5) hx hb dX17_walks_205 (by decide) ?_
        refine lv_icmp_ne (tgt := 247) hx hb dX17_walks_206 (by decide) (fun cc => ?_) (fun cc => ?_)
        · have hw := sv_iff cc hw
          exact lk_X17_walks_247 K hk169 hw hR hS (lv_sub hl [1, 2, 3] rfl)
        · have hw := sv_ift cc hw
          exact lk_X17_walks_209 K hk169 hw hR hS (lv_sub hl [1, 2, 3, 0] rfl)
theorem lk_X17_walks_169 {p : Program} {l : Launch} {e : Env} {s : State} {m : MethodId} {args : Array Value} {below : List Frame} {meth : Method} {c : Code} {G : sv_G} {B : Nat} (K : sv_W p s m args meth c cX17_walks RX17 7 (some .boolean) G B "walks") {r : Int32} {hE : sv_H} : ∀ (n : Nat) {x0 : Nat} {x4 : Int32} {x5 : Int32} {h : sv_H}, fn_X17_walks_169 n x0 x4 x5 h = some (r, hE) → ∀ {H : Heap} {locs : List Loc} {ls : Array Slot}, sv_R G vwCl sv_ft B h H → va_S (fun q => B ≤ q) s.heap H locs → lv_has ls 7 [(0, .ref x0), (4, .int x4), (5, .int x5)] → W p l e rm_X17_walks s m args below meth c H locs 0 0 (sv_Z below s args G B (some (.int r)) hE) (F0 m 169 ls []) := by
  intro n
  induction n with
  | zero => intro x0 x4 x5 h hw; cases (show (none : Option (Int32 × sv_H)) = some (r, hE) from hw)
  | succ n ih => intro x0 x4 x5 h hw H locs ls hR hS hl; exact lk_X17_walks_169b K (fun hw => ih hw) hw hR hS hl
set_option maxHeartbeats 4000000 in
set_option maxRecDepth 100000 in
theorem lk_X17_walks_85 {p : Program} {l : Launch} {e : Env} {s : State} {m : MethodId} {args : Array Value} {below : List Frame} {meth : Method} {c : Code} {G : sv_G} {B : Nat} (K : sv_W p s m args meth c cX17_walks RX17 7 (some .boolean) G B "walks") {r : Int32} {hE : sv_H} {k19 : Nat → Int32 → Int32 → Int32 → Int32 → Int32 → sv_H → Option (Int32 × sv_H)} (hk19 : ∀ {x0 : Nat} {x1 : Int32} {x2 : Int32} {x3 : Int32} {x4 : Int32} {x5 : Int32} {h : sv_H}, k19 x0 x1 x2 x3 x4 x5 h = some (r, hE) → ∀ {H : Heap} {locs : List Loc} {ls : Array Slot}, sv_R G vwCl sv_ft B h H → va_S (fun q => B ≤ q) s.heap H locs → lv_has ls 7 [(0, .ref x0), (1, .int x1), (2, .int x2), (3, .int x3), (4, .int x4), (5, .int x5)] → W p l e rm_X17_walks s m args below meth c H locs 0 0 (sv_Z below s args G B (some (.int r)) hE) (F0 m 19 ls [])) {x0 : Nat} {x1 : Int32} {x2 : Int32} {x3 : Int32} {x4 : Int32} {x5 : Int32} {h : sv_H} (hw : fn_X17_walks_85 k19 x0 x1 x2 x3 x4 x5 h = some (r, hE)) {H : Heap} {locs : List Loc} {ls : Array Slot} (hR : sv_R G vwCl sv_ft B h H) (hS : va_S (fun q => B ≤ q) s.heap H locs) (hl : lv_has ls 7 [(0, .ref x0), (1, .int x1), (2, .int x2), (3, .int x3), (4, .int x4), (5, .int x5)]) : W p l e rm_X17_walks s m args below meth c H locs 0 0 (sv_Z below s args G B (some (.int r)) hE) (F0 m 85 ls []) := by
  obtain ⟨hx, hb, hml, hown, hts, hC, hlk, hr, hBs, hni⟩ := id K
  unfold fn_X17_walks_85 at hw
  refine lv_iinc (v := x5 + 1) (lv' := [(5, .int (x5 + 1)), (0, .ref x0), (1, .int x1), (2, .int x2), (3, .int x3), (4, .int x4)]) hx hb dX17_walks_85 hl (k := 5) rfl rfl (by decide) rfl (fun ls hl => ?_)
  refine lv_goto (tgt := 19) hx hb dX17_walks_88 (by decide) ?_
  exact hk19 hw hR hS (lv_sub hl [1, 2, 3, 4, 5, 0] rfl)
set_option maxHeartbeats 4000000 in
set_option maxRecDepth 100000 in
theorem lk_X17_walks_19b {p : Program} {l : Launch} {e : Env} {s : State} {m : MethodId} {args : Array Value} {below : List Frame} {meth : Method} {c : Code} {G : sv_G} {B : Nat} (K : sv_W p s m args meth c cX17_walks RX17 7 (some .boolean) G B "walks") {r : Int32} {hE : sv_H} {k19 : Nat → Int32 → Int32 → Int32 → Int32 → Int32 → sv_H → Option (Int32 × sv_H)} (hk19 : ∀ {x0 : Nat} {x1 : Int32} {x2 : Int32} {x3 : Int32} {x4 : Int32} {x5 : Int32} {h : sv_H}, k19 x0 x1 x2 x3 x4 x5 h = some (r, hE) → ∀ {H : Heap} {locs : List Loc} {ls : Array Slot}, sv_R G vwCl sv_ft B h H → va_S (fun q => B ≤ q) s.heap H locs → lv_has ls 7 [(0, .ref x0), (1, .int x1), (2, .int x2), (3, .int x3), (4, .int x4), (5, .int x5)] → W p l e rm_X17_walks s m args below meth c H locs 0 0 (sv_Z below s args G B (some (.int r)) hE) (F0 m 19 ls [])) {x0 : Nat} {x1 : Int32} {x2 : Int32} {x3 : Int32} {x4 : Int32} {x5 : Int32} {h : sv_H} (hw : fn_X17_walks_19b k19 x0 x1 x2 x3 x4 x5 h = some (r, hE)) {H : Heap} {locs : List Loc} {ls : Array Slot} (hR : sv_R G vwCl sv_ft B h H) (hS : va_S (fun q => B ≤ q) s.heap H locs) (hl : lv_has ls 7 [(0, .ref x0), (1, .int x1), (2, .int x2), (3, .int x3), (4, .int x4), (5, .int x5)]) : W p l e rm_X17_walks s m args below meth c H locs 0 0 (sv_Z below s args G B (some (.int r)) hE) (F0 m 19 ls []) := by
  obtain ⟨hx, hb, hml, hown, hts, hC, hlk, hr, hBs, hni⟩ := id K
  unfold fn_X17_walks_19b at hw
  refine lv_iload hx hb dX17_walks_19 (lv_at hl 5 rfl) ?_
  refine lv_aload_n hx hb dX17_walks_21 rfl (lv_at hl 0 rfl) ?_
  obtain ⟨v1, hv, hw⟩ := sv_bd hw
  refine sv_rgI hx hb hown hC.1 hR (fl_X17_walks_207 hts hC hni) rfl (by decide) rfl rfl hv dX17_walks_22 ?_
  refine lv_icmp_ge (tgt := 91) hx hb dX17_walks_25 (by decide) (fun cc => ?_) (fun cc => ?_)
  · have hw := sv_ift cc hw
    refine lv_aload_n hx hb dX17_walks_91 rfl (lv_at hl 0 rfl) ?_
    obtain ⟨v2, hv, hw⟩ := sv_bd hw
    refine sv_rgI hx hb hown hC.1 hR (fl_X17_walks_182 hts hC hni) rfl (by decide) rfl rfl hv dX17_walks_92 ?_
    refine lv_iload_n hx hb dX17_walks_95 rfl (lv_at hl 1 rfl) ?_
    refine lv_iadd hx hb dX17_walks_96 ?_
    refine lv_ldcw (v := (-40000)) hx hb hown (hts _ wd_2180) dX17_walks_97 ?_
    refine lv_icmp_lt (tgt := 139) hx hb dX17_walks_100 (by decide) (fun cc => ?_) (fun cc => ?_)
    · have hw := sv_ift cc hw
      exact lk_X17_walks_139 K hw hR hS (lv_sub hl [] rfl)
    · have hw := sv_iff cc hw
      refine lv_aload_n hx hb dX17_walks_103 rfl (lv_at hl 0 rfl) ?_
      obtain ⟨v3, hv, hw⟩ := sv_bd hw
      refine sv_rgI hx hb hown hC.1 hR (fl_X17_walks_182 hts hC hni) rfl (by decide) rfl rfl hv dX17_walks_104 ?_
      refine lv_iload_n hx hb dX17_walks_107 rfl (lv_at hl 1 rfl) ?_
      refine lv_iadd hx hb dX17_walks_108 ?_
      refine lv_ldcw (v := 40000) hx hb hown (hts _ wd_2181) dX17_walks_109 ?_
      refine lv_icmp_gt (tgt := 139) hx hb dX17_walks_112 (by decide) (fun cc => ?_) (fun cc => ?_)
      · have hw := sv_ift cc hw
        exact lk_X17_walks_139 K hw hR hS (lv_sub hl [] rfl)
      · have hw := sv_iff cc hw
        refine lv_aload_n hx hb dX17_walks_115 rfl (lv_at hl 0 rfl) ?_
        obtain ⟨v4, hv, hw⟩ := sv_bd hw
        refine sv_rgI hx hb hown hC.1 hR (fl_X17_walks_185 hts hC hni) rfl (by decide) rfl rfl hv dX17_walks_116 ?_
        refine lv_iload_n hx hb dX17_walks_119 rfl (lv_at hl 2 rfl) ?_
        refine lv_iadd hx hb dX17_walks_120 ?_
        refine lv_ldcw (v := (-40000)) hx hb hown (hts _ wd_2180) dX17_walks_121 ?_
        refine lv_icmp_lt (tgt := 139) hx hb dX17_walks_124 (by decide) (fun cc => ?_) (fun cc => ?_)
        · have hw := sv_ift cc hw
          exact lk_X17_walks_139 K hw hR hS (lv_sub hl [] rfl)
        · have hw := sv_iff cc hw
          refine lv_aload_n hx hb dX17_walks_127 rfl (lv_at hl 0 rfl) ?_
          obtain ⟨v5, hv, hw⟩ := sv_bd hw
          refine sv_rgI hx hb hown hC.1 hR (fl_X17_walks_185 hts hC hni) rfl (by decide) rfl rfl hv dX17_walks_128 ?_
          refine lv_iload_n hx hb dX17_walks_131 rfl (lv_at hl 2 rfl) ?_
          refine lv_iadd hx hb dX17_walks_132 ?_
          refine lv_ldcw (v := 40000) hx hb hown (hts _ wd_2181) dX17_walks_133 ?_
          refine lv_icmp_le (tgt := 141) hx hb dX17_walks_136 (by decide) (fun cc => ?_) (fun cc => ?_)
          · have hw := sv_ift cc hw
            refine lv_aload_n hx hb dX17_walks_141 rfl (lv_at hl 0 rfl) ?_
            refine lv_dup hx hb dX17_walks_142 rfl ?_
            obtain ⟨v6, hv, hw⟩ := sv_bd hw
            refine sv_rgI hx hb hown hC.1 hR (fl_X17_walks_182 hts hC hni) rfl (by decide) rfl rfl hv dX17_walks_143 ?_
            refine lv_iload_n hx hb dX17_walks_146 rfl (lv_at hl 1 rfl) ?_
            refine lv_iadd hx hb dX17_walks_147 ?_
            obtain ⟨h7, hv, hw⟩ := sv_bd hw
            refine sv_rpI hx hb hown hC.1 hR hS (fl_X17_walks_182 hts hC hni) rfl (by decide) rfl rfl hv dX17_walks_148 (fun H locs hR hS => ?_)
            refine lv_aload_n hx hb dX17_walks_151 rfl (lv_at hl 0 rfl) ?_
            refine lv_dup hx hb dX17_walks_152 rfl ?_
            obtain ⟨v8, hv, hw⟩ := sv_bd hw
            refine sv_rgI hx hb hown hC.1 hR (fl_X17_walks_185 hts hC hni) rfl (by decide) rfl rfl hv dX17_walks_153 ?_
            refine lv_iload_n hx hb dX17_walks_156 rfl (lv_at hl 2 rfl) ?_
            refine lv_iadd hx hb dX17_walks_157 ?_
            obtain ⟨h9, hv, hw⟩ := sv_bd hw
            refine sv_rpI hx hb hown hC.1 hR hS (fl_X17_walks_185 hts hC hni) rfl (by decide) rfl rfl hv dX17_walks_158 (fun H locs hR hS => ?_)
            refine lv_aload_n hx hb dX17_walks_161 rfl (lv_at hl 0 rfl) ?_
            refine lv_iload_n hx hb dX17_walks_162 rfl (lv_at hl 3 rfl) ?_
            obtain ⟨h10, hv, hw⟩ := sv_bd hw
            refine sv_rpI hx hb hown hC.1 hR hS (fl_X17_walks_224 hts hC hni) rfl (by decide) rfl rfl hv dX17_walks_163 (fun H locs hR hS => ?_)
            refine lv_iconst (v := 0) hx hb dX17_walks_166 (by decide) ?_
            refine lv_istore (lv' := [(5, .int 0), (0, .ref x0), (1, .int x1), (2, .int x2), (3, .int x3), (4, .int x4)]) hx hb dX17_walks_167 hl (by decide) rfl (fun ls hl => ?_)
            exact lk_X17_walks_169 K sv_fuel hw hR hS (lv_sub hl [1, 5, 0] rfl)
          · have hw := sv_iff cc hw
            exact lk_X17_walks_139 K hw hR hS (lv_sub hl [] rfl)
  · have hw := sv_iff cc hw
    refine lv_aload_n hx hb dX17_walks_28 rfl (lv_at hl 0 rfl) ?_
    refine lv_aload_n hx hb dX17_walks_29 rfl (lv_at hl 0 rfl) ?_
    obtain ⟨v11, hv, hw⟩ := sv_bd hw
    refine sv_rgP hx hb hown hC.1 hR (fl_X17_walks_45 hts hC hni) rfl (by decide) rfl rfl hv dX17_walks_30 ?_
    refine lv_iload hx hb dX17_walks_33 (lv_at hl 5 rfl) ?_
    obtain ⟨v12, hv, hw⟩ := sv_bd hw
    refine sv_rlI hx hb hC.1 rfl hR hv dX17_walks_35 ?_
    obtain ⟨r13, h14, hv1, hw⟩ := sv_b_some hw
    refine sv_call (va_runV (As := [.int v12]) (rest := []) ⟨hx, hb, hml, hown, hts⟩ (mt_X17_meets l G B hv1) (cwV 1 hts (sv_gV wd_2039 wd_2041 wd_92 wd_144 wd_2042) rfl rfl rfl (by decide +kernel) ⟨Nat.le_of_ble_eq_true rfl, Nat.le_of_ble_eq_true rfl⟩) ⟨sv_blind, sv_recv hC.1 hR (ci := 17) (sv_go hv1).1 (by decide) rfl, fun U hU hW => sv_pre hC hR hS hBs hU hW⟩ rfl rfl hl.1 rfl (lv_room (Nat.le_of_ble_eq_true rfl)) dX17_walks_36 ⟨Nat.zero_le _, Nat.zero_le _⟩) hS (fun H locs hR hS => ?_)
    refine lv_istore (lv' := [(6, .int r13), (0, .ref x0), (1, .int x1), (2, .int x2), (3, .int x3), (4, .int x4), (5, .int x5)]) hx hb dX17_walks_39 hl (by decide) rfl (fun ls hl => ?_)
    refine lv_aload_n hx hb dX17_walks_41 rfl (lv_at hl 1 rfl) ?_
    obtain ⟨v15, hv, hw⟩ := sv_bd hw
    refine sv_rgJ hx hb hown hC.1 hR (fl_X17_walks_198 hts hC hni) rfl (by decide) rfl rfl hv dX17_walks_42 ?_
    refine lv_aload_n hx hb dX17_walks_45 rfl (lv_at hl 1 rfl) ?_
    obtain ⟨v16, hv, hw⟩ := sv_bd hw
    refine sv_rgJ hx hb hown hC.1 hR (fl_X17_walks_201 hts hC hni) rfl (by decide) rfl rfl hv dX17_walks_46 ?_
    refine W.lcmp hx hb dX17_walks_49 ?_
    refine lv_if_gt (tgt := 85) hx hb dX17_walks_50 (by decide) (fun cc => ?_) (fun cc => ?_)
    · have hw := sv_ift cc hw
      exact lk_X17_walks_85 K hk19 hw hR hS (lv_sub hl [1, 2, 3, 4, 5, 6] rfl)
    · have hw := sv_iff cc hw
      refine lv_aload_n hx hb dX17_walks_53 rfl (lv_at hl 1 rfl) ?_
      refine lv_aload_n hx hb dX17_walks_54 rfl (lv_at hl 1 rfl) ?_
      obtain ⟨v17, hv, hw⟩ := sv_bd hw
      refine sv_rgP hx hb hown hC.1 hR (fl_X17_walks_45 hts hC hni) rfl (by decide) rfl rfl hv dX17_walks_55 ?_
      refine lv_iload hx hb dX17_walks_58 (lv_at hl 6 rfl) ?_
      obtain ⟨v18, hv, hw⟩ := sv_bd hw
      refine sv_rlI hx hb hC.1 rfl hR hv dX17_walks_60 ?_
      obtain ⟨r19, h20, hv2, hw⟩ := sv_b_some hw
      refine sv_call (va_runV (As := [.int v18]) (rest := []) ⟨hx, hb, hml, hown, hts⟩ (mt_X17_stops l G B hv2) (cwV 1 hts (sv_gV wd_2176 wd_2178 wd_108 wd_144 wd_2179) rfl rfl rfl (by decide +kernel) ⟨Nat.le_of_ble_eq_true rfl, Nat.le_of_ble_eq_true rfl⟩) ⟨sv_blind, sv_recv hC.1 hR (ci := 17) (sv_go hv2).1 (by decide) rfl, fun U hU hW => sv_pre hC hR hS hBs hU hW⟩ rfl rfl hl.1 rfl (lv_room (Nat.le_of_ble_eq_true rfl)) dX17_walks_61 ⟨Nat.zero_le _, Nat.zero_le _⟩) hS (fun H locs hR hS => ?_)
      refine lv_if_eq (tgt := 69) hx hb dX17_walks_64 (by decide) (fun cc => ?_) (fun cc => ?_)
      · have hw := sv_ift cc hw
        refine lv_aload_n hx hb dX17_walks_69 rfl (lv_at hl 1 rfl) ?_
        refine lv_aload_n hx hb dX17_walks_70 rfl (lv_at hl 1 rfl) ?_
        obtain ⟨v21, hv, hw⟩ := sv_bd hw
        refine sv_rgP hx hb hown hC.1 hR (fl_X17_walks_45 hts hC hni) rfl (by decide) rfl rfl hv dX17_walks_71 ?_
        refine lv_iload hx hb dX17_walks_74 (lv_at hl 6 rfl) ?_
        obtain ⟨v22, hv, hw⟩ := sv_bd hw
        refine sv_rlI hx hb hC.1 rfl hR hv dX17_walks_76 ?_
        refine lv_iconst (v := 0) hx hb dX17_walks_77 (by decide) ?_
        obtain ⟨r23, h24, hv3, hw⟩ := sv_b_some hw
        refine sv_call (va_runV (As := [.int v22, .int 0]) (rest := []) ⟨hx, hb, hml, hown, hts⟩ (mt_X17_sideOf l G B hv3) (cwV 2 hts (sv_gV wd_2054 wd_2056 wd_93 wd_144 wd_2057) rfl rfl rfl (by decide +kernel) ⟨Nat.le_of_ble_eq_true rfl, Nat.le_of_ble_eq_true rfl⟩) ⟨sv_blind, sv_recv hC.1 hR (ci := 17) (sv_go hv3).1 (by decide) rfl, fun U hU hW => sv_pre hC hR hS hBs hU hW⟩ rfl rfl hl.1 rfl (lv_room (Nat.le_of_ble_eq_true rfl)) dX17_walks_78 ⟨Nat.zero_le _, Nat.zero_le _⟩) hS (fun H locs hR hS => ?_)
        refine lv_istore_n (lv' := [(3, .int r23), (6, .int r13), (0, .ref x0), (1, .int x1), (2, .int x2), (4, .int x4), (5, .int x5)]) hx hb dX17_walks_81 rfl hl (by decide) rfl (fun ls hl => ?_)
        refine lv_iinc (v := x4 + 1) (lv' := [(4, .int (x4 + 1)), (3, .int r23), (6, .int r13), (0, .ref x0), (1, .int x1), (2, .int x2), (5, .int x5)]) hx hb dX17_walks_82 hl (k := 5) rfl rfl (by decide) rfl (fun ls hl => ?_)
        exact lk_X17_walks_85 K hk19 hw hR hS (lv_sub hl [3, 4, 5, 1, 0, 6] rfl)
      · have hw := sv_iff cc hw
        refine lv_iconst (v := 0) hx hb dX17_walks_67 (by decide) ?_
        obtain ⟨rfl, rfl⟩ := sv_ret hw
        exact W.zret hx hb hr (by decide +kernel) (fun t ht hW => ⟨⟨rfl, by rw [ht]; exact hR⟩, hS.F ht⟩) hS.2.2 dX17_walks_68
theorem lk_X17_walks_19 {p : Program} {l : Launch} {e : Env} {s : State} {m : MethodId} {args : Array Value} {below : List Frame} {meth : Method} {c : Code} {G : sv_G} {B : Nat} (K : sv_W p s m args meth c cX17_walks RX17 7 (some .boolean) G B "walks") {r : Int32} {hE : sv_H} : ∀ (n : Nat) {x0 : Nat} {x1 : Int32} {x2 : Int32} {x3 : Int32} {x4 : Int32} {x5 : Int32} {h : sv_H}, fn_X17_walks_19 n x0 x1 x2 x3 x4 x5 h = some (r, hE) → ∀ {H : Heap} {locs : List Loc} {ls : Array Slot}, sv_R G vwCl sv_ft B h H → va_S (fun q => B ≤ q) s.heap H locs → lv_has ls 7 [(0, .ref x0), (1, .int x1), (2, .int x2), (3, .int x3), (4, .int x4), (5, .int x5)] → W p l e rm_X17_walks s m args below meth c H locs 0 0 (sv_Z below s args G B (some (.int r)) hE) (F0 m 19 ls []) := by
  intro n
  induction n with
  | zero => intro x0 x1 x2 x3 x4 x5 h hw; cases (show (none : Option (Int32 × sv_H)) = some (r, hE) from hw)
  | succ n ih => intro x0 x1 x2 x3 x4 x5 h hw H locs ls hR hS hl; exact lk_X17_walks_19b K (fun hw => ih hw) hw hR hS hl
set_option maxHeartbeats 4000000 in
set_option maxRecDepth 100000 in
theorem lk_X17_walks_0 {p : Program} {l : Launch} {e : Env} {s : State} {m : MethodId} {args : Array Value} {below : List Frame} {meth : Method} {c : Code} {G : sv_G} {B : Nat} (K : sv_W p s m args meth c cX17_walks RX17 7 (some .boolean) G B "walks") {r : Int32} {hE : sv_H} {x0 : Nat} {x1 : Int32} {x2 : Int32} {h : sv_H} (hw : fn_X17_walks x0 x1 x2 h = some (r, hE)) {H : Heap} {locs : List Loc} {ls : Array Slot} (hR : sv_R G vwCl sv_ft B h H) (hS : va_S (fun q => B ≤ q) s.heap H locs) (hl : lv_has ls 7 [(0, .ref x0), (1, .int x1), (2, .int x2)]) : W p l e rm_X17_walks s m args below meth c H locs 0 0 (sv_Z below s args G B (some (.int r)) hE) (F0 m 0 ls []) := by
  obtain ⟨hx, hb, hml, hown, hts, hC, hlk, hr, hBs, hni⟩ := id K
  unfold fn_X17_walks at hw
  have hw := (sv_go hw).2
  refine lv_aload_n hx hb dX17_walks_0 rfl (lv_at hl 0 rfl) ?_
  refine lv_iload_n hx hb dX17_walks_1 rfl (lv_at hl 1 rfl) ?_
  refine lv_i2l hx hb dX17_walks_2 rfl ?_
  refine lv_iload_n hx hb dX17_walks_3 rfl (lv_at hl 2 rfl) ?_
  refine lv_i2l hx hb dX17_walks_4 rfl ?_
  obtain ⟨_, h1, hv1, hw⟩ := sv_b_some hw
  refine sv_call (va_runV (As := [.long (Int32.toInt64 x1), .long (Int32.toInt64 x2)]) (rest := []) ⟨hx, hb, hml, hown, hts⟩ (mt_X17_gather l G B hv1) (cwV 2 hts (sv_gV wd_2035 wd_2037 wd_91 wd_144 wd_2038) rfl rfl rfl (by decide +kernel) ⟨Nat.le_of_ble_eq_true rfl, Nat.le_of_ble_eq_true rfl⟩) ⟨sv_blind, sv_recv hC.1 hR (ci := 17) (sv_go hv1).1 (by decide) rfl, fun U hU hW => sv_pre hC hR hS hBs hU hW⟩ rfl rfl hl.1 rfl (lv_room (Nat.le_of_ble_eq_true rfl)) dX17_walks_5 ⟨Nat.zero_le _, Nat.zero_le _⟩) hS (fun H locs hR hS => ?_)
  refine lv_aload_n hx hb dX17_walks_8 rfl (lv_at hl 0 rfl) ?_
  obtain ⟨v2, hv, hw⟩ := sv_bd hw
  refine sv_rgI hx hb hown hC.1 hR (fl_X17_walks_224 hts hC hni) rfl (by decide) rfl rfl hv dX17_walks_9 ?_
  refine lv_istore_n (lv' := [(3, .int v2), (0, .ref x0), (1, .int x1), (2, .int x2)]) hx hb dX17_walks_12 rfl hl (by decide) rfl (fun ls hl => ?_)
  refine lv_iconst (v := 0) hx hb dX17_walks_13 (by decide) ?_
  refine lv_istore (lv' := [(4, .int 0), (3, .int v2), (0, .ref x0), (1, .int x1), (2, .int x2)]) hx hb dX17_walks_14 hl (by decide) rfl (fun ls hl => ?_)
  refine lv_iconst (v := 0) hx hb dX17_walks_16 (by decide) ?_
  refine lv_istore (lv' := [(5, .int 0), (4, .int 0), (3, .int v2), (0, .ref x0), (1, .int x1), (2, .int x2)]) hx hb dX17_walks_17 hl (by decide) rfl (fun ls hl => ?_)
  exact lk_X17_walks_19 K sv_fuel hw hR hS (lv_sub hl [3, 4, 5, 2, 1, 0] rfl)
set_option maxHeartbeats 4000000 in
set_option maxRecDepth 100000 in
theorem mt_X17_walks (l : Launch) (G : sv_G) (B : Nat) {x0 : Nat} {x1 : Int32} {x2 : Int32} {h : sv_H} {r : Int32} {hE : sv_H} (hw : fn_X17_walks x0 x1 x2 h = some (r, hE)) : Met l yX17_walks (.code yX17_walks cX17_walks 7 (some .boolean) :: sv_tb) rm_X17_walks (sv_Pc G B [.ref x0, .int x1, .int x2] h) (sv_Q G B (some (.int r)) hE) 0 0 (fun q => B ≤ q) := by
  refine Met.ofW (cc := cX17_walks) (maxL := 7) (ret := (some .boolean)) (by decide +kernel) rfl ?_
  intro p e s m args below meth c s₁ Bd hml hv
  obtain ⟨rfl, hR, hC, hB⟩ := hv
  have hl := lv_entry ([.ref x0, .int x1, .int x2]) (n := 7) (Nat.le_of_ble_eq_true rfl)
  rw [lg_entry_eq]
  generalize (lg_sl ([.ref x0, .int x1, .int x2]) ++ List.replicate (7 - (lg_sl ([.ref x0, .int x1, .int x2])).length) Slot.unset).toArray = ls at hl ⊢
  have hl : lv_has ls 7 [(0, .ref x0), (1, .int x1), (2, .int x2)] := hl
  exact lk_X17_walks_0 ⟨Bd.exec, Bd.bytes, hml, findClass_of_methodNamed Bd.named, fun w h => atoms_spec (ws := .code yX17_walks cX17_walks 7 (some .boolean) :: sv_tb) Bd.pre w (List.mem_cons_of_mem _ h), hC, Bd.notSynchronized, Bd.returns, hB, (name_of_methodNamed Bd.named Bd.method).1⟩ hw hR va_S.rf hl

def rm_X17_use : Room := { frames := 6, cells := 0, slots := 0, locals := 131 }
theorem fl_X17_use_265 {s : State} {meth : Method} {args : Array Value} {G : sv_G} {B : Nat} (hts : ∀ w ∈ sv_tb, w.before args s = true) (hC : sv_Cx G B s s.heap) (hni : meth.name = "use") : sv_FL s meth args vwCl RX17 265 17 13 .int true :=
  ⟨_, RX17, TX17, 29, sv_tb, tyX17, rfl, by decide, hts, uw_X17, Or.inl (hts _ wd_1704), fun _ h => h, tyX17_ok 13 (by decide), tyX17_ok, nmX17, fun _ => Or.inl rfl⟩
theorem fl_X17_use_207 {s : State} {meth : Method} {args : Array Value} {G : sv_G} {B : Nat} (hts : ∀ w ∈ sv_tb, w.before args s = true) (hC : sv_Cx G B s s.heap) (hni : meth.name = "use") : sv_FL s meth args vwCl RX17 207 17 21 .int true :=
  ⟨_, RX17, TX17, 29, sv_tb, tyX17, rfl, by decide, hts, uw_X17, Or.inl (hts _ wd_1712), fun _ h => h, tyX17_ok 21 (by decide), tyX17_ok, nmX17, fun _ => Or.inl rfl⟩
theorem fl_X17_use_45 {s : State} {meth : Method} {args : Array Value} {G : sv_G} {B : Nat} (hts : ∀ w ∈ sv_tb, w.before args s = true) (hC : sv_Cx G B s s.heap) (hni : meth.name = "use") : sv_FL s meth args vwCl RX17 45 17 20 (.array .int) false :=
  ⟨_, RX17, TX17, 29, sv_tb, tyX17, rfl, by decide, hts, uw_X17, Or.inl (hts _ wd_1711), fun _ h => h, tyX17_ok 20 (by decide), tyX17_ok, nmX17, fun h => by cases h⟩
theorem fl_X17_use_198 {s : State} {meth : Method} {args : Array Value} {G : sv_G} {B : Nat} (hts : ∀ w ∈ sv_tb, w.before args s = true) (hC : sv_Cx G B s s.heap) (hni : meth.name = "use") : sv_FL s meth args vwCl RX17 198 17 17 .long true :=
  ⟨_, RX17, TX17, 29, sv_tb, tyX17, rfl, by decide, hts, uw_X17, Or.inl (hts _ wd_1708), fun _ h => h, tyX17_ok 17 (by decide), tyX17_ok, nmX17, fun _ => Or.inl rfl⟩
theorem fl_X17_use_201 {s : State} {meth : Method} {args : Array Value} {G : sv_G} {B : Nat} (hts : ∀ w ∈ sv_tb, w.before args s = true) (hC : sv_Cx G B s s.heap) (hni : meth.name = "use") : sv_FL s meth args vwCl RX17 201 17 18 .long true :=
  ⟨_, RX17, TX17, 29, sv_tb, tyX17, rfl, by decide, hts, uw_X17, Or.inl (hts _ wd_1709), fun _ h => h, tyX17_ok 18 (by decide), tyX17_ok, nmX17, fun _ => Or.inl rfl⟩
theorem fl_X17_use_204 {s : State} {meth : Method} {args : Array Value} {G : sv_G} {B : Nat} (hts : ∀ w ∈ sv_tb, w.before args s = true) (hC : sv_Cx G B s s.heap) (hni : meth.name = "use") : sv_FL s meth args vwCl RX17 204 17 19 .boolean true :=
  ⟨_, RX17, TX17, 29, sv_tb, tyX17, rfl, by decide, hts, uw_X17, Or.inl (hts _ wd_1710), fun _ h => h, tyX17_ok 19 (by decide), tyX17_ok, nmX17, fun _ => Or.inl rfl⟩
theorem fl_X17_use_26 {s : State} {meth : Method} {args : Array Value} {G : sv_G} {B : Nat} (hts : ∀ w ∈ sv_tb, w.before args s = true) (hC : sv_Cx G B s s.heap) (hni : meth.name = "use") : sv_FL s meth args vwCl RX17 26 17 3 (.object "SectorViewModel$Hall") false :=
  ⟨_, RX17, TX17, 29, sv_tb, tyX17, rfl, by decide, hts, uw_X17, Or.inl (hts _ wd_1694), fun _ h => h, tyX17_ok 3 (by decide), tyX17_ok, nmX17, fun h => by cases h⟩
set_option maxHeartbeats 4000000 in
set_option maxRecDepth 100000 in
theorem lk_X17_use_63 {p : Program} {l : Launch} {e : Env} {s : State} {m : MethodId} {args : Array Value} {below : List Frame} {meth : Method} {c : Code} {G : sv_G} {B : Nat} (K : sv_W p s m args meth c cX17_use RX17 4 none G B "use") {r : Unit} {hE : sv_H} {h : sv_H} (hw : fn_X17_use_63 h = some (r, hE)) {H : Heap} {locs : List Loc} {ls : Array Slot} (hR : sv_R G vwCl sv_ft B h H) (hS : va_S (fun q => B ≤ q) s.heap H locs) (hl : lv_has ls 4 []) : W p l e rm_X17_use s m args below meth c H locs 0 0 (sv_Z below s args G B none hE) (F0 m 63 ls []) := by
  obtain ⟨hx, hb, hml, hown, hts, hC, hlk, hr, hBs, hni⟩ := id K
  unfold fn_X17_use_63 at hw
  obtain ⟨rfl, rfl⟩ := sv_ret hw
  exact W.vret hx hb hr (fun t ht hW => ⟨⟨rfl, by rw [ht]; exact hR⟩, hS.F ht⟩) hS.2.2 dX17_use_63
set_option maxHeartbeats 4000000 in
set_option maxRecDepth 100000 in
theorem lk_X17_use_132 {p : Program} {l : Launch} {e : Env} {s : State} {m : MethodId} {args : Array Value} {below : List Frame} {meth : Method} {c : Code} {G : sv_G} {B : Nat} (K : sv_W p s m args meth c cX17_use RX17 4 none G B "use") {r : Unit} {hE : sv_H} {h : sv_H} (hw : fn_X17_use_132 h = some (r, hE)) {H : Heap} {locs : List Loc} {ls : Array Slot} (hR : sv_R G vwCl sv_ft B h H) (hS : va_S (fun q => B ≤ q) s.heap H locs) (hl : lv_has ls 4 []) : W p l e rm_X17_use s m args below meth c H locs 0 0 (sv_Z below s args G B none hE) (F0 m 132 ls []) := by
  obtain ⟨hx, hb, hml, hown, hts, hC, hlk, hr, hBs, hni⟩ := id K
  unfold fn_X17_use_132 at hw
  obtain ⟨rfl, rfl⟩ := sv_ret hw
  exact W.vret hx hb hr (fun t ht hW => ⟨⟨rfl, by rw [ht]; exact hR⟩, hS.F ht⟩) hS.2.2 dX17_use_132
set_option maxHeartbeats 4000000 in
set_option maxRecDepth 100000 in
theorem lk_X17_use_109 {p : Program} {l : Launch} {e : Env} {s : State} {m : MethodId} {args : Array Value} {below : List Frame} {meth : Method} {c : Code} {G : sv_G} {B : Nat} (K : sv_W p s m args meth c cX17_use RX17 4 none G B "use") {r : Unit} {hE : sv_H} {x0 : Nat} {x1 : Int32} {h : sv_H} (hw : fn_X17_use_109 x0 x1 h = some (r, hE)) {H : Heap} {locs : List Loc} {ls : Array Slot} (hR : sv_R G vwCl sv_ft B h H) (hS : va_S (fun q => B ≤ q) s.heap H locs) (hl : lv_has ls 4 [(0, .ref x0), (1, .int x1)]) : W p l e rm_X17_use s m args below meth c H locs 0 0 (sv_Z below s args G B none hE) (F0 m 109 ls []) := by
  obtain ⟨hx, hb, hml, hown, hts, hC, hlk, hr, hBs, hni⟩ := id K
  unfold fn_X17_use_109 at hw
  refine lv_aload_n hx hb dX17_use_109 rfl (lv_at hl 0 rfl) ?_
  refine lv_iload_n hx hb dX17_use_110 rfl (lv_at hl 1 rfl) ?_
  refine lv_bipush (v := 13) hx hb dX17_use_111 (by decide) ?_
  obtain ⟨r1, h2, hv1, hw⟩ := sv_b_some hw
  refine sv_call (va_runV (As := [.int x1, .int 13]) (rest := []) ⟨hx, hb, hml, hown, hts⟩ (mt_X17_wallPart l G B hv1) (cwV 2 hts (sv_gV wd_2058 wd_2060 wd_94 wd_144 wd_2061) rfl rfl rfl (by decide +kernel) ⟨Nat.le_of_ble_eq_true rfl, Nat.le_of_ble_eq_true rfl⟩) ⟨sv_blind, sv_recv hC.1 hR (ci := 17) (sv_go hv1).1 (by decide) rfl, fun U hU hW => sv_pre hC hR hS hBs hU hW⟩ rfl rfl hl.1 rfl (lv_room (Nat.le_of_ble_eq_true rfl)) dX17_use_113 ⟨Nat.zero_le _, Nat.zero_le _⟩) hS (fun H locs hR hS => ?_)
  refine lv_iconst (v := 4) hx hb dX17_use_116 (by decide) ?_
  refine lv_icmp_ne (tgt := 132) hx hb dX17_use_117 (by decide) (fun cc => ?_) (fun cc => ?_)
  · have hw := sv_iff cc hw
    exact lk_X17_use_132 K hw hR hS (lv_sub hl [] rfl)
  · have hw := sv_ift cc hw
    refine lv_aload_n hx hb dX17_use_120 rfl (lv_at hl 0 rfl) ?_
    refine lv_aload_n hx hb dX17_use_121 rfl (lv_at hl 0 rfl) ?_
    refine lv_iload_n hx hb dX17_use_122 rfl (lv_at hl 1 rfl) ?_
    refine lv_bipush (v := 14) hx hb dX17_use_123 (by decide) ?_
    obtain ⟨r3, h4, hv2, hw⟩ := sv_b_some hw
    refine sv_call (va_runV (As := [.int x1, .int 14]) (rest := [.ref x0]) ⟨hx, hb, hml, hown, hts⟩ (mt_X17_wallPart l G B hv2) (cwV 2 hts (sv_gV wd_2058 wd_2060 wd_94 wd_144 wd_2061) rfl rfl rfl (by decide +kernel) ⟨Nat.le_of_ble_eq_true rfl, Nat.le_of_ble_eq_true rfl⟩) ⟨sv_blind, sv_recv hC.1 hR (ci := 17) (sv_go hv2).1 (by decide) rfl, fun U hU hW => sv_pre hC hR hS hBs hU hW⟩ rfl rfl hl.1 rfl (lv_room (Nat.le_of_ble_eq_true rfl)) dX17_use_125 ⟨Nat.zero_le _, Nat.zero_le _⟩) hS (fun H locs hR hS => ?_)
    refine lv_iconst (v := 1) hx hb dX17_use_128 (by decide) ?_
    obtain ⟨_, h5, hv3, hw⟩ := sv_b_some hw
    refine sv_call (va_runV (As := [.int r3, .int 1]) (rest := []) ⟨hx, hb, hml, hown, hts⟩ (mt_X17_startAll l G B hv3) (cwV 2 hts (sv_gV wd_2182 wd_2184 wd_109 wd_144 wd_2185) rfl rfl rfl (by decide +kernel) ⟨Nat.le_of_ble_eq_true rfl, Nat.le_of_ble_eq_true rfl⟩) ⟨sv_blind, sv_recv hC.1 hR (ci := 17) (sv_go hv3).1 (by decide) rfl, fun U hU hW => sv_pre hC hR hS hBs hU hW⟩ rfl rfl hl.1 rfl (lv_room (Nat.le_of_ble_eq_true rfl)) dX17_use_129 ⟨Nat.zero_le _, Nat.zero_le _⟩) hS (fun H locs hR hS => ?_)
    exact lk_X17_use_132 K hw hR hS (lv_sub hl [] rfl)
set_option maxHeartbeats 4000000 in
set_option maxRecDepth 100000 in
theorem lk_X17_use_0 {p : Program} {l : Launch} {e : Env} {s : State} {m : MethodId} {args : Array Value} {below : List Frame} {meth : Method} {c : Code} {G : sv_G} {B : Nat} (K : sv_W p s m args meth c cX17_use RX17 4 none G B "use") {r : Unit} {hE : sv_H} {x0 : Nat} {h : sv_H} (hw : fn_X17_use x0 h = some (r, hE)) {H : Heap} {locs : List Loc} {ls : Array Slot} (hR : sv_R G vwCl sv_ft B h H) (hS : va_S (fun q => B ≤ q) s.heap H locs) (hl : lv_has ls 4 [(0, .ref x0)]) : W p l e rm_X17_use s m args below meth c H locs 0 0 (sv_Z below s args G B none hE) (F0 m 0 ls []) := by
  obtain ⟨hx, hb, hml, hown, hts, hC, hlk, hr, hBs, hni⟩ := id K
  unfold fn_X17_use at hw
  have hw := (sv_go hw).2
  refine lv_aload_n hx hb dX17_use_0 rfl (lv_at hl 0 rfl) ?_
  refine lv_aload_n hx hb dX17_use_1 rfl (lv_at hl 0 rfl) ?_
  obtain ⟨v1, hv, hw⟩ := sv_bd hw
  refine sv_rgI hx hb hown hC.1 hR (fl_X17_use_265 hts hC hni) rfl (by decide) rfl rfl hv dX17_use_2 ?_
  obtain ⟨r2, h3, hv1, hw⟩ := sv_b_some hw
  refine sv_call (va_runS (As := [.int v1]) (rest := [.ref x0]) ⟨hx, hb, hml, hown, hts⟩ (mt_X17_cosine l G B hv1) (va_cwS 1 hts (sv_gS wd_2024 wd_2025 wd_144 wd_2026) rfl rfl rfl (by decide +kernel) ⟨Nat.le_of_ble_eq_true rfl, Nat.le_of_ble_eq_true rfl⟩) ⟨sv_blind, fun U hU hW => sv_pre hC hR hS hBs hU hW⟩ rfl rfl hl.1 rfl (lv_room (Nat.le_of_ble_eq_true rfl)) dX17_use_5 ⟨Nat.zero_le _, Nat.zero_le _⟩) hS (fun H locs hR hS => ?_)
  refine lv_i2l hx hb dX17_use_8 rfl ?_
  refine lv_aload_n hx hb dX17_use_9 rfl (lv_at hl 0 rfl) ?_
  obtain ⟨v4, hv, hw⟩ := sv_bd hw
  refine sv_rgI hx hb hown hC.1 hR (fl_X17_use_265 hts hC hni) rfl (by decide) rfl rfl hv dX17_use_10 ?_
  obtain ⟨r5, h6, hv2, hw⟩ := sv_b_some hw
  refine sv_call (va_runS (As := [.int v4]) (rest := [.long (Int32.toInt64 r2), .ref x0]) ⟨hx, hb, hml, hown, hts⟩ (mt_X17_sine l G B hv2) (va_cwS 1 hts (sv_gS wd_2032 wd_2033 wd_144 wd_2034) rfl rfl rfl (by decide +kernel) ⟨Nat.le_of_ble_eq_true rfl, Nat.le_of_ble_eq_true rfl⟩) ⟨sv_blind, fun U hU hW => sv_pre hC hR hS hBs hU hW⟩ rfl rfl hl.1 rfl (lv_room (Nat.le_of_ble_eq_true rfl)) dX17_use_13 ⟨Nat.zero_le _, Nat.zero_le _⟩) hS (fun H locs hR hS => ?_)
  refine lv_i2l hx hb dX17_use_16 rfl ?_
  obtain ⟨_, h7, hv3, hw⟩ := sv_b_some hw
  refine sv_call (va_runV (As := [.long (Int32.toInt64 r2), .long (Int32.toInt64 r5)]) (rest := []) ⟨hx, hb, hml, hown, hts⟩ (mt_X17_gather l G B hv3) (cwV 2 hts (sv_gV wd_2035 wd_2037 wd_91 wd_144 wd_2038) rfl rfl rfl (by decide +kernel) ⟨Nat.le_of_ble_eq_true rfl, Nat.le_of_ble_eq_true rfl⟩) ⟨sv_blind, sv_recv hC.1 hR (ci := 17) (sv_go hv3).1 (by decide) rfl, fun U hU hW => sv_pre hC hR hS hBs hU hW⟩ rfl rfl hl.1 rfl (lv_room (Nat.le_of_ble_eq_true rfl)) dX17_use_17 ⟨Nat.zero_le _, Nat.zero_le _⟩) hS (fun H locs hR hS => ?_)
  refine lv_aload_n hx hb dX17_use_20 rfl (lv_at hl 0 rfl) ?_
  obtain ⟨v8, hv, hw⟩ := sv_bd hw
  refine sv_rgI hx hb hown hC.1 hR (fl_X17_use_207 hts hC hni) rfl (by decide) rfl rfl hv dX17_use_21 ?_
  refine lv_if_eq (tgt := 63) hx hb dX17_use_24 (by decide) (fun cc => ?_) (fun cc => ?_)
  · have hw := sv_ift cc hw
    exact lk_X17_use_63 K hw hR hS (lv_sub hl [] rfl)
  · have hw := sv_iff cc hw
    refine lv_aload_n hx hb dX17_use_27 rfl (lv_at hl 0 rfl) ?_
    refine lv_aload_n hx hb dX17_use_28 rfl (lv_at hl 0 rfl) ?_
    obtain ⟨v9, hv, hw⟩ := sv_bd hw
    refine sv_rgP hx hb hown hC.1 hR (fl_X17_use_45 hts hC hni) rfl (by decide) rfl rfl hv dX17_use_29 ?_
    refine lv_iconst (v := 0) hx hb dX17_use_32 (by decide) ?_
    obtain ⟨v10, hv, hw⟩ := sv_bd hw
    refine sv_rlI hx hb hC.1 rfl hR hv dX17_use_33 ?_
    obtain ⟨r11, h12, hv4, hw⟩ := sv_b_some hw
    refine sv_call (va_runV (As := [.int v10]) (rest := []) ⟨hx, hb, hml, hown, hts⟩ (mt_X17_meets l G B hv4) (cwV 1 hts (sv_gV wd_2039 wd_2041 wd_92 wd_144 wd_2042) rfl rfl rfl (by decide +kernel) ⟨Nat.le_of_ble_eq_true rfl, Nat.le_of_ble_eq_true rfl⟩) ⟨sv_blind, sv_recv hC.1 hR (ci := 17) (sv_go hv4).1 (by decide) rfl, fun U hU hW => sv_pre hC hR hS hBs hU hW⟩ rfl rfl hl.1 rfl (lv_room (Nat.le_of_ble_eq_true rfl)) dX17_use_34 ⟨Nat.zero_le _, Nat.zero_le _⟩) hS (fun H locs hR hS => ?_)
    refine lv_if_eq (tgt := 63) hx hb dX17_use_37 (by decide) (fun cc => ?_) (fun cc => ?_)
    · have hw := sv_ift cc hw
      exact lk_X17_use_63 K hw hR hS (lv_sub hl [] rfl)
    · have hw := sv_iff cc hw
      refine lv_ldc2 (v := 4) hx hb hown (hts _ wd_2194) dX17_use_40 ?_
      refine lv_aload_n hx hb dX17_use_43 rfl (lv_at hl 0 rfl) ?_
      obtain ⟨v13, hv, hw⟩ := sv_bd hw
      refine sv_rgJ hx hb hown hC.1 hR (fl_X17_use_198 hts hC hni) rfl (by decide) rfl rfl hv dX17_use_44 ?_
      refine lv_lmul hx hb dX17_use_47 ?_
      refine lv_aload_n hx hb dX17_use_48 rfl (lv_at hl 0 rfl) ?_
      obtain ⟨v14, hv, hw⟩ := sv_bd hw
      refine sv_rgJ hx hb hown hC.1 hR (fl_X17_use_201 hts hC hni) rfl (by decide) rfl rfl hv dX17_use_49 ?_
      refine W.lcmp hx hb dX17_use_52 ?_
      refine lv_if_gt (tgt := 63) hx hb dX17_use_53 (by decide) (fun cc => ?_) (fun cc => ?_)
      · have hw := sv_ift cc hw
        exact lk_X17_use_63 K hw hR hS (lv_sub hl [] rfl)
      · have hw := sv_iff cc hw
        refine lv_aload_n hx hb dX17_use_56 rfl (lv_at hl 0 rfl) ?_
        obtain ⟨v15, hv, hw⟩ := sv_bd hw
        refine sv_rgI hx hb hown hC.1 hR (fl_X17_use_204 hts hC hni) rfl (by decide) rfl rfl hv dX17_use_57 ?_
        refine lv_if_ne (tgt := 64) hx hb dX17_use_60 (by decide) (fun cc => ?_) (fun cc => ?_)
        · have hw := sv_iff cc hw
          refine lv_aload_n hx hb dX17_use_64 rfl (lv_at hl 0 rfl) ?_
          obtain ⟨v16, hv, hw⟩ := sv_bd hw
          refine sv_rgP hx hb hown hC.1 hR (fl_X17_use_45 hts hC hni) rfl (by decide) rfl rfl hv dX17_use_65 ?_
          refine lv_iconst (v := 0) hx hb dX17_use_68 (by decide) ?_
          obtain ⟨v17, hv, hw⟩ := sv_bd hw
          refine sv_rlI hx hb hC.1 rfl hR hv dX17_use_69 ?_
          refine lv_istore_n (lv' := [(1, .int v17), (0, .ref x0)]) hx hb dX17_use_70 rfl hl (by decide) rfl (fun ls hl => ?_)
          refine lv_aload_n hx hb dX17_use_71 rfl (lv_at hl 1 rfl) ?_
          refine lv_iload_n hx hb dX17_use_72 rfl (lv_at hl 0 rfl) ?_
          refine lv_iconst (v := 3) hx hb dX17_use_73 (by decide) ?_
          obtain ⟨r18, h19, hv5, hw⟩ := sv_b_some hw
          refine sv_call (va_runV (As := [.int v17, .int 3]) (rest := []) ⟨hx, hb, hml, hown, hts⟩ (mt_X17_wallPart l G B hv5) (cwV 2 hts (sv_gV wd_2058 wd_2060 wd_94 wd_144 wd_2061) rfl rfl rfl (by decide +kernel) ⟨Nat.le_of_ble_eq_true rfl, Nat.le_of_ble_eq_true rfl⟩) ⟨sv_blind, sv_recv hC.1 hR (ci := 17) (sv_go hv5).1 (by decide) rfl, fun U hU hW => sv_pre hC hR hS hBs hU hW⟩ rfl rfl hl.1 rfl (lv_room (Nat.le_of_ble_eq_true rfl)) dX17_use_74 ⟨Nat.zero_le _, Nat.zero_le _⟩) hS (fun H locs hR hS => ?_)
          refine lv_istore_n (lv' := [(2, .int r18), (1, .int v17), (0, .ref x0)]) hx hb dX17_use_77 rfl hl (by decide) rfl (fun ls hl => ?_)
          refine lv_aload_n hx hb dX17_use_78 rfl (lv_at hl 2 rfl) ?_
          refine lv_iload_n hx hb dX17_use_79 rfl (lv_at hl 1 rfl) ?_
          refine lv_bipush (v := 13) hx hb dX17_use_80 (by decide) ?_
          obtain ⟨r20, h21, hv6, hw⟩ := sv_b_some hw
          refine sv_call (va_runV (As := [.int v17, .int 13]) (rest := []) ⟨hx, hb, hml, hown, hts⟩ (mt_X17_wallPart l G B hv6) (cwV 2 hts (sv_gV wd_2058 wd_2060 wd_94 wd_144 wd_2061) rfl rfl rfl (by decide +kernel) ⟨Nat.le_of_ble_eq_true rfl, Nat.le_of_ble_eq_true rfl⟩) ⟨sv_blind, sv_recv hC.1 hR (ci := 17) (sv_go hv6).1 (by decide) rfl, fun U hU hW => sv_pre hC hR hS hBs hU hW⟩ rfl rfl hl.1 rfl (lv_room (Nat.le_of_ble_eq_true rfl)) dX17_use_82 ⟨Nat.zero_le _, Nat.zero_le _⟩) hS (fun H locs hR hS => ?_)
          refine lv_iconst (v := 1) hx hb dX17_use_85 (by decide) ?_
          refine lv_icmp_ne (tgt := 109) hx hb dX17_use_86 (by decide) (fun cc => ?_) (fun cc => ?_)
          · have hw := sv_iff cc hw
            exact lk_X17_use_109 K hw hR hS (lv_sub hl [2, 1] rfl)
          · have hw := sv_ift cc hw
            refine lv_iload_n hx hb dX17_use_89 rfl (lv_at hl 0 rfl) ?_
            refine lv_sipush (v := 255) hx hb dX17_use_90 (by decide) ?_
            refine lv_icmp_eq (tgt := 109) hx hb dX17_use_93 (by decide) (fun cc => ?_) (fun cc => ?_)
            · have hw := sv_ift cc hw
              exact lk_X17_use_109 K hw hR hS (lv_sub hl [2, 1] rfl)
            · have hw := sv_iff cc hw
              refine lv_aload_n hx hb dX17_use_96 rfl (lv_at hl 2 rfl) ?_
              obtain ⟨v22, hv, hw⟩ := sv_bd hw
              refine sv_rgP hx hb hown hC.1 hR (fl_X17_use_26 hts hC hni) rfl (by decide) rfl rfl hv dX17_use_97 ?_
              refine lv_iload_n hx hb dX17_use_100 rfl (lv_at hl 0 rfl) ?_
              refine lv_iconst (v := 0) hx hb dX17_use_101 (by decide) ?_
              obtain ⟨r23, h24, hv7, hw⟩ := sv_b_some hw
              refine sv_call (va_runV (As := [.int r18, .int 0]) (rest := []) ⟨hx, hb, hml, hown, hts⟩ (mt_X13_begin l G B hv7) (cwV 2 hts (sv_gV wd_2186 wd_2187 wd_2188 wd_147 wd_2189) rfl rfl rfl (by decide +kernel) ⟨Nat.le_of_ble_eq_true rfl, Nat.le_of_ble_eq_true rfl⟩) ⟨sv_blind, sv_recv hC.1 hR (ci := 13) (sv_go hv7).1 (by decide) rfl, fun U hU hW => sv_pre hC hR hS hBs hU hW⟩ rfl rfl hl.1 rfl (lv_room (Nat.le_of_ble_eq_true rfl)) dX17_use_102 ⟨Nat.zero_le _, Nat.zero_le _⟩) hS (fun H locs hR hS => ?_)
              refine lv_istore_n (lv' := [(3, .int r23), (2, .int r18), (1, .int v17), (0, .ref x0)]) hx hb dX17_use_105 rfl hl (by decide) rfl (fun ls hl => ?_)
              refine lv_goto (tgt := 132) hx hb dX17_use_106 (by decide) ?_
              exact lk_X17_use_132 K hw hR hS (lv_sub hl [] rfl)
        · have hw := sv_ift cc hw
          exact lk_X17_use_63 K hw hR hS (lv_sub hl [] rfl)
set_option maxHeartbeats 4000000 in
set_option maxRecDepth 100000 in
theorem mt_X17_use (l : Launch) (G : sv_G) (B : Nat) {x0 : Nat} {h : sv_H} {r : Unit} {hE : sv_H} (hw : fn_X17_use x0 h = some (r, hE)) : Met l yX17_use (.code yX17_use cX17_use 4 none :: sv_tb) rm_X17_use (sv_Pc G B [.ref x0] h) (sv_Q G B none hE) 0 0 (fun q => B ≤ q) := by
  refine Met.ofW (cc := cX17_use) (maxL := 4) (ret := none) (by decide +kernel) rfl ?_
  intro p e s m args below meth c s₁ Bd hml hv
  obtain ⟨rfl, hR, hC, hB⟩ := hv
  have hl := lv_entry ([.ref x0]) (n := 4) (Nat.le_of_ble_eq_true rfl)
  rw [lg_entry_eq]
  generalize (lg_sl ([.ref x0]) ++ List.replicate (4 - (lg_sl ([.ref x0])).length) Slot.unset).toArray = ls at hl ⊢
  have hl : lv_has ls 4 [(0, .ref x0)] := hl
  exact lk_X17_use_0 ⟨Bd.exec, Bd.bytes, hml, findClass_of_methodNamed Bd.named, fun w h => atoms_spec (ws := .code yX17_use cX17_use 4 none :: sv_tb) Bd.pre w (List.mem_cons_of_mem _ h), hC, Bd.notSynchronized, Bd.returns, hB, (name_of_methodNamed Bd.named Bd.method).1⟩ hw hR va_S.rf hl

def rm_X13_await : Room := { frames := 0, cells := 0, slots := 0, locals := 0 }
theorem fl_X13_await_40 {s : State} {meth : Method} {args : Array Value} {G : sv_G} {B : Nat} (hts : ∀ w ∈ sv_tb, w.before args s = true) (hC : sv_Cx G B s s.heap) (hni : meth.name = "await") : sv_FL s meth args vwCl RX13 40 13 11 (.array .int) false :=
  ⟨_, RX13, TX13, 18, sv_tb, tyX13, rfl, by decide, hts, uw_X13, Or.inl (hts _ wd_1545), fun _ h => h, tyX13_ok 11 (by decide), tyX13_ok, nmX13, fun h => by cases h⟩
theorem fl_X13_await_43 {s : State} {meth : Method} {args : Array Value} {G : sv_G} {B : Nat} (hts : ∀ w ∈ sv_tb, w.before args s = true) (hC : sv_Cx G B s s.heap) (hni : meth.name = "await") : sv_FL s meth args vwCl RX13 43 13 12 (.array .int) false :=
  ⟨_, RX13, TX13, 18, sv_tb, tyX13, rfl, by decide, hts, uw_X13, Or.inl (hts _ wd_1546), fun _ h => h, tyX13_ok 12 (by decide), tyX13_ok, nmX13, fun h => by cases h⟩
set_option maxHeartbeats 4000000 in
set_option maxRecDepth 100000 in
theorem lk_X13_await_0 {p : Program} {l : Launch} {e : Env} {s : State} {m : MethodId} {args : Array Value} {below : List Frame} {meth : Method} {c : Code} {G : sv_G} {B : Nat} (K : sv_W p s m args meth c cX13_await RX13 3 none G B "await") {r : Unit} {hE : sv_H} {x0 : Nat} {x1 : Int32} {x2 : Int32} {h : sv_H} (hw : fn_X13_await x0 x1 x2 h = some (r, hE)) {H : Heap} {locs : List Loc} {ls : Array Slot} (hR : sv_R G vwCl sv_ft B h H) (hS : va_S (fun q => B ≤ q) s.heap H locs) (hl : lv_has ls 3 [(0, .ref x0), (1, .int x1), (2, .int x2)]) : W p l e rm_X13_await s m args below meth c H locs 0 0 (sv_Z below s args G B none hE) (F0 m 0 ls []) := by
  obtain ⟨hx, hb, hml, hown, hts, hC, hlk, hr, hBs, hni⟩ := id K
  unfold fn_X13_await at hw
  have hw := (sv_go hw).2
  refine lv_aload_n hx hb dX13_await_0 rfl (lv_at hl 0 rfl) ?_
  obtain ⟨v1, hv, hw⟩ := sv_bd hw
  refine sv_rgP hx hb hown hC.1 hR (fl_X13_await_40 hts hC hni) rfl (by decide) rfl rfl hv dX13_await_1 ?_
  refine lv_iload_n hx hb dX13_await_4 rfl (lv_at hl 1 rfl) ?_
  refine lv_iconst (v := 0) hx hb dX13_await_5 (by decide) ?_
  obtain ⟨h2, hv, hw⟩ := sv_bd hw
  refine sv_rsI hx hb hC.1 rfl hR hS hv dX13_await_6 (fun H locs hR hS => ?_)
  refine lv_aload_n hx hb dX13_await_7 rfl (lv_at hl 0 rfl) ?_
  obtain ⟨v3, hv, hw⟩ := sv_bd hw
  refine sv_rgP hx hb hown hC.1 hR (fl_X13_await_43 hts hC hni) rfl (by decide) rfl rfl hv dX13_await_8 ?_
  refine lv_iload_n hx hb dX13_await_11 rfl (lv_at hl 1 rfl) ?_
  refine lv_iload_n hx hb dX13_await_12 rfl (lv_at hl 2 rfl) ?_
  obtain ⟨h4, hv, hw⟩ := sv_bd hw
  refine sv_rsI hx hb hC.1 rfl hR hS hv dX13_await_13 (fun H locs hR hS => ?_)
  obtain ⟨rfl, rfl⟩ := sv_ret hw
  exact W.vret hx hb hr (fun t ht hW => ⟨⟨rfl, by rw [ht]; exact hR⟩, hS.F ht⟩) hS.2.2 dX13_await_14
set_option maxHeartbeats 4000000 in
set_option maxRecDepth 100000 in
theorem mt_X13_await (l : Launch) (G : sv_G) (B : Nat) {x0 : Nat} {x1 : Int32} {x2 : Int32} {h : sv_H} {r : Unit} {hE : sv_H} (hw : fn_X13_await x0 x1 x2 h = some (r, hE)) : Met l yX13_await (.code yX13_await cX13_await 3 none :: sv_tb) rm_X13_await (sv_Pc G B [.ref x0, .int x1, .int x2] h) (sv_Q G B none hE) 0 0 (fun q => B ≤ q) := by
  refine Met.ofW (cc := cX13_await) (maxL := 3) (ret := none) (by decide +kernel) rfl ?_
  intro p e s m args below meth c s₁ Bd hml hv
  obtain ⟨rfl, hR, hC, hB⟩ := hv
  have hl := lv_entry ([.ref x0, .int x1, .int x2]) (n := 3) (Nat.le_of_ble_eq_true rfl)
  rw [lg_entry_eq]
  generalize (lg_sl ([.ref x0, .int x1, .int x2]) ++ List.replicate (3 - (lg_sl ([.ref x0, .int x1, .int x2])).length) Slot.unset).toArray = ls at hl ⊢
  have hl : lv_has ls 3 [(0, .ref x0), (1, .int x1), (2, .int x2)] := hl
  exact lk_X13_await_0 ⟨Bd.exec, Bd.bytes, hml, findClass_of_methodNamed Bd.named, fun w h => atoms_spec (ws := .code yX13_await cX13_await 3 none :: sv_tb) Bd.pre w (List.mem_cons_of_mem _ h), hC, Bd.notSynchronized, Bd.returns, hB, (name_of_methodNamed Bd.named Bd.method).1⟩ hw hR va_S.rf hl

def rm_X13_end : Room := { frames := 0, cells := 0, slots := 0, locals := 0 }
theorem fl_X13_end_37 {s : State} {meth : Method} {args : Array Value} {G : sv_G} {B : Nat} (hts : ∀ w ∈ sv_tb, w.before args s = true) (hC : sv_Cx G B s s.heap) (hni : meth.name = "end") : sv_FL s meth args vwCl RX13 37 13 10 (.array .int) false :=
  ⟨_, RX13, TX13, 18, sv_tb, tyX13, rfl, by decide, hts, uw_X13, Or.inl (hts _ wd_1544), fun _ h => h, tyX13_ok 10 (by decide), tyX13_ok, nmX13, fun h => by cases h⟩
theorem fl_X13_end_40 {s : State} {meth : Method} {args : Array Value} {G : sv_G} {B : Nat} (hts : ∀ w ∈ sv_tb, w.before args s = true) (hC : sv_Cx G B s s.heap) (hni : meth.name = "end") : sv_FL s meth args vwCl RX13 40 13 11 (.array .int) false :=
  ⟨_, RX13, TX13, 18, sv_tb, tyX13, rfl, by decide, hts, uw_X13, Or.inl (hts _ wd_1545), fun _ h => h, tyX13_ok 11 (by decide), tyX13_ok, nmX13, fun h => by cases h⟩
theorem fl_X13_end_46 {s : State} {meth : Method} {args : Array Value} {G : sv_G} {B : Nat} (hts : ∀ w ∈ sv_tb, w.before args s = true) (hC : sv_Cx G B s s.heap) (hni : meth.name = "end") : sv_FL s meth args vwCl RX13 46 13 13 (.array .int) false :=
  ⟨_, RX13, TX13, 18, sv_tb, tyX13, rfl, by decide, hts, uw_X13, Or.inl (hts _ wd_1547), fun _ h => h, tyX13_ok 13 (by decide), tyX13_ok, nmX13, fun h => by cases h⟩
set_option maxHeartbeats 4000000 in
set_option maxRecDepth 100000 in
theorem lk_X13_end_0 {p : Program} {l : Launch} {e : Env} {s : State} {m : MethodId} {args : Array Value} {below : List Frame} {meth : Method} {c : Code} {G : sv_G} {B : Nat} (K : sv_W p s m args meth c cX13_end RX13 2 none G B "end") {r : Unit} {hE : sv_H} {x0 : Nat} {x1 : Int32} {h : sv_H} (hw : fn_X13_end x0 x1 h = some (r, hE)) {H : Heap} {locs : List Loc} {ls : Array Slot} (hR : sv_R G vwCl sv_ft B h H) (hS : va_S (fun q => B ≤ q) s.heap H locs) (hl : lv_has ls 2 [(0, .ref x0), (1, .int x1)]) : W p l e rm_X13_end s m args below meth c H locs 0 0 (sv_Z below s args G B none hE) (F0 m 0 ls []) := by
  obtain ⟨hx, hb, hml, hown, hts, hC, hlk, hr, hBs, hni⟩ := id K
  unfold fn_X13_end at hw
  have hw := (sv_go hw).2
  refine lv_aload_n hx hb dX13_end_0 rfl (lv_at hl 0 rfl) ?_
  obtain ⟨v1, hv, hw⟩ := sv_bd hw
  refine sv_rgP hx hb hown hC.1 hR (fl_X13_end_37 hts hC hni) rfl (by decide) rfl rfl hv dX13_end_1 ?_
  refine lv_iload_n hx hb dX13_end_4 rfl (lv_at hl 1 rfl) ?_
  refine lv_iconst (v := (-1)) hx hb dX13_end_5 (by decide) ?_
  obtain ⟨h2, hv, hw⟩ := sv_bd hw
  refine sv_rsI hx hb hC.1 rfl hR hS hv dX13_end_6 (fun H locs hR hS => ?_)
  refine lv_aload_n hx hb dX13_end_7 rfl (lv_at hl 0 rfl) ?_
  obtain ⟨v3, hv, hw⟩ := sv_bd hw
  refine sv_rgP hx hb hown hC.1 hR (fl_X13_end_40 hts hC hni) rfl (by decide) rfl rfl hv dX13_end_8 ?_
  refine lv_iload_n hx hb dX13_end_11 rfl (lv_at hl 1 rfl) ?_
  refine lv_iconst (v := 0) hx hb dX13_end_12 (by decide) ?_
  obtain ⟨h4, hv, hw⟩ := sv_bd hw
  refine sv_rsI hx hb hC.1 rfl hR hS hv dX13_end_13 (fun H locs hR hS => ?_)
  refine lv_aload_n hx hb dX13_end_14 rfl (lv_at hl 0 rfl) ?_
  obtain ⟨v5, hv, hw⟩ := sv_bd hw
  refine sv_rgP hx hb hown hC.1 hR (fl_X13_end_46 hts hC hni) rfl (by decide) rfl rfl hv dX13_end_15 ?_
  refine lv_iload_n hx hb dX13_end_18 rfl (lv_at hl 1 rfl) ?_
  refine lv_iconst (v := (-1)) hx hb dX13_end_19 (by decide) ?_
  obtain ⟨h6, hv, hw⟩ := sv_bd hw
  refine sv_rsI hx hb hC.1 rfl hR hS hv dX13_end_20 (fun H locs hR hS => ?_)
  obtain ⟨rfl, rfl⟩ := sv_ret hw
  exact W.vret hx hb hr (fun t ht hW => ⟨⟨rfl, by rw [ht]; exact hR⟩, hS.F ht⟩) hS.2.2 dX13_end_21
set_option maxHeartbeats 4000000 in
set_option maxRecDepth 100000 in
theorem mt_X13_end (l : Launch) (G : sv_G) (B : Nat) {x0 : Nat} {x1 : Int32} {h : sv_H} {r : Unit} {hE : sv_H} (hw : fn_X13_end x0 x1 h = some (r, hE)) : Met l yX13_end (.code yX13_end cX13_end 2 none :: sv_tb) rm_X13_end (sv_Pc G B [.ref x0, .int x1] h) (sv_Q G B none hE) 0 0 (fun q => B ≤ q) := by
  refine Met.ofW (cc := cX13_end) (maxL := 2) (ret := none) (by decide +kernel) rfl ?_
  intro p e s m args below meth c s₁ Bd hml hv
  obtain ⟨rfl, hR, hC, hB⟩ := hv
  have hl := lv_entry ([.ref x0, .int x1]) (n := 2) (Nat.le_of_ble_eq_true rfl)
  rw [lg_entry_eq]
  generalize (lg_sl ([.ref x0, .int x1]) ++ List.replicate (2 - (lg_sl ([.ref x0, .int x1])).length) Slot.unset).toArray = ls at hl ⊢
  have hl : lv_has ls 2 [(0, .ref x0), (1, .int x1)] := hl
  exact lk_X13_end_0 ⟨Bd.exec, Bd.bytes, hml, findClass_of_methodNamed Bd.named, fun w h => atoms_spec (ws := .code yX13_end cX13_end 2 none :: sv_tb) Bd.pre w (List.mem_cons_of_mem _ h), hC, Bd.notSynchronized, Bd.returns, hB, (name_of_methodNamed Bd.named Bd.method).1⟩ hw hR va_S.rf hl

def rm_X13_stepDoor : Room := { frames := 1, cells := 0, slots := 0, locals := 22 }
theorem fl_X13_stepDoor_34 {s : State} {meth : Method} {args : Array Value} {G : sv_G} {B : Nat} (hts : ∀ w ∈ sv_tb, w.before args s = true) (hC : sv_Cx G B s s.heap) (hni : meth.name = "stepDoor") : sv_FL s meth args vwCl RX13 34 13 9 (.array .int) false :=
  ⟨_, RX13, TX13, 18, sv_tb, tyX13, rfl, by decide, hts, uw_X13, Or.inl (hts _ wd_1542), fun _ h => h, tyX13_ok 9 (by decide), tyX13_ok, nmX13, fun h => by cases h⟩
theorem fl_X13_stepDoor_31 {s : State} {meth : Method} {args : Array Value} {G : sv_G} {B : Nat} (hts : ∀ w ∈ sv_tb, w.before args s = true) (hC : sv_Cx G B s s.heap) (hni : meth.name = "stepDoor") : sv_FL s meth args vwCl RX13 31 13 8 (.array .int) false :=
  ⟨_, RX13, TX13, 18, sv_tb, tyX13, rfl, by decide, hts, uw_X13, Or.inl (hts _ wd_1540), fun _ h => h, tyX13_ok 8 (by decide), tyX13_ok, nmX13, fun h => by cases h⟩
theorem fl_X13_stepDoor_52 {s : State} {meth : Method} {args : Array Value} {G : sv_G} {B : Nat} (hts : ∀ w ∈ sv_tb, w.before args s = true) (hC : sv_Cx G B s s.heap) (hni : meth.name = "stepDoor") : sv_FL s meth args vwCl RX13 52 13 16 .int true :=
  ⟨_, RX13, TX13, 18, sv_tb, tyX13, rfl, by decide, hts, uw_X13, Or.inl (hts _ wd_1551), fun _ h => h, tyX13_ok 16 (by decide), tyX13_ok, nmX13, fun _ => Or.inl rfl⟩
theorem fl_X13_stepDoor_72 {s : State} {meth : Method} {args : Array Value} {G : sv_G} {B : Nat} (hts : ∀ w ∈ sv_tb, w.before args s = true) (hC : sv_Cx G B s s.heap) (hni : meth.name = "stepDoor") : sv_FL s meth args vwCl RX13 72 13 17 .int true :=
  ⟨_, RX13, TX13, 18, sv_tb, tyX13, rfl, by decide, hts, uw_X13, Or.inl (hts _ wd_1553), fun _ h => h, tyX13_ok 17 (by decide), tyX13_ok, nmX13, fun _ => Or.inl rfl⟩
theorem fl_X13_stepDoor_40 {s : State} {meth : Method} {args : Array Value} {G : sv_G} {B : Nat} (hts : ∀ w ∈ sv_tb, w.before args s = true) (hC : sv_Cx G B s s.heap) (hni : meth.name = "stepDoor") : sv_FL s meth args vwCl RX13 40 13 11 (.array .int) false :=
  ⟨_, RX13, TX13, 18, sv_tb, tyX13, rfl, by decide, hts, uw_X13, Or.inl (hts _ wd_1545), fun _ h => h, tyX13_ok 11 (by decide), tyX13_ok, nmX13, fun h => by cases h⟩
theorem fl_X13_stepDoor_46 {s : State} {meth : Method} {args : Array Value} {G : sv_G} {B : Nat} (hts : ∀ w ∈ sv_tb, w.before args s = true) (hC : sv_Cx G B s s.heap) (hni : meth.name = "stepDoor") : sv_FL s meth args vwCl RX13 46 13 13 (.array .int) false :=
  ⟨_, RX13, TX13, 18, sv_tb, tyX13, rfl, by decide, hts, uw_X13, Or.inl (hts _ wd_1547), fun _ h => h, tyX13_ok 13 (by decide), tyX13_ok, nmX13, fun h => by cases h⟩
set_option maxHeartbeats 4000000 in
set_option maxRecDepth 100000 in
theorem lk_X13_stepDoor_157 {p : Program} {l : Launch} {e : Env} {s : State} {m : MethodId} {args : Array Value} {below : List Frame} {meth : Method} {c : Code} {G : sv_G} {B : Nat} (K : sv_W p s m args meth c cX13_stepDoor RX13 3 none G B "stepDoor") {r : Unit} {hE : sv_H} {h : sv_H} (hw : fn_X13_stepDoor_157 h = some (r, hE)) {H : Heap} {locs : List Loc} {ls : Array Slot} (hR : sv_R G vwCl sv_ft B h H) (hS : va_S (fun q => B ≤ q) s.heap H locs) (hl : lv_has ls 3 []) : W p l e rm_X13_stepDoor s m args below meth c H locs 0 0 (sv_Z below s args G B none hE) (F0 m 157 ls []) := by
  obtain ⟨hx, hb, hml, hown, hts, hC, hlk, hr, hBs, hni⟩ := id K
  unfold fn_X13_stepDoor_157 at hw
  obtain ⟨rfl, rfl⟩ := sv_ret hw
  exact W.vret hx hb hr (fun t ht hW => ⟨⟨rfl, by rw [ht]; exact hR⟩, hS.F ht⟩) hS.2.2 dX13_stepDoor_157
set_option maxHeartbeats 4000000 in
set_option maxRecDepth 100000 in
theorem lk_X13_stepDoor_135 {p : Program} {l : Launch} {e : Env} {s : State} {m : MethodId} {args : Array Value} {below : List Frame} {meth : Method} {c : Code} {G : sv_G} {B : Nat} (K : sv_W p s m args meth c cX13_stepDoor RX13 3 none G B "stepDoor") {r : Unit} {hE : sv_H} {x0 : Nat} {x1 : Int32} {x2 : Int32} {h : sv_H} (hw : fn_X13_stepDoor_135 x0 x1 x2 h = some (r, hE)) {H : Heap} {locs : List Loc} {ls : Array Slot} (hR : sv_R G vwCl sv_ft B h H) (hS : va_S (fun q => B ≤ q) s.heap H locs) (hl : lv_has ls 3 [(0, .ref x0), (1, .int x1), (2, .int x2)]) : W p l e rm_X13_stepDoor s m args below meth c H locs 0 0 (sv_Z below s args G B none hE) (F0 m 135 ls []) := by
  obtain ⟨hx, hb, hml, hown, hts, hC, hlk, hr, hBs, hni⟩ := id K
  unfold fn_X13_stepDoor_135 at hw
  refine lv_aload_n hx hb dX13_stepDoor_135 rfl (lv_at hl 0 rfl) ?_
  obtain ⟨v1, hv, hw⟩ := sv_bd hw
  refine sv_rgP hx hb hown hC.1 hR (fl_X13_stepDoor_34 hts hC hni) rfl (by decide) rfl rfl hv dX13_stepDoor_136 ?_
  refine lv_iload_n hx hb dX13_stepDoor_139 rfl (lv_at hl 1 rfl) ?_
  refine lv_iload_n hx hb dX13_stepDoor_140 rfl (lv_at hl 2 rfl) ?_
  obtain ⟨h2, hv, hw⟩ := sv_bd hw
  refine sv_rsI hx hb hC.1 rfl hR hS hv dX13_stepDoor_141 (fun H locs hR hS => ?_)
  refine lv_iload_n hx hb dX13_stepDoor_142 rfl (lv_at hl 2 rfl) ?_
  refine lv_aload_n hx hb dX13_stepDoor_143 rfl (lv_at hl 0 rfl) ?_
  obtain ⟨v3, hv, hw⟩ := sv_bd hw
  refine sv_rgP hx hb hown hC.1 hR (fl_X13_stepDoor_31 hts hC hni) rfl (by decide) rfl rfl hv dX13_stepDoor_144 ?_
  refine lv_iload_n hx hb dX13_stepDoor_147 rfl (lv_at hl 1 rfl) ?_
  obtain ⟨v4, hv, hw⟩ := sv_bd hw
  refine sv_rlI hx hb hC.1 rfl hR hv dX13_stepDoor_148 ?_
  refine lv_icmp_ne (tgt := 157) hx hb dX13_stepDoor_149 (by decide) (fun cc => ?_) (fun cc => ?_)
  · have hw := sv_iff cc hw
    exact lk_X13_stepDoor_157 K hw hR hS (lv_sub hl [] rfl)
  · have hw := sv_ift cc hw
    refine lv_aload_n hx hb dX13_stepDoor_152 rfl (lv_at hl 0 rfl) ?_
    refine lv_iload_n hx hb dX13_stepDoor_153 rfl (lv_at hl 1 rfl) ?_
    obtain ⟨_, h5, hv1, hw⟩ := sv_b_some hw
    refine sv_call (va_runV (As := [.int x1]) (rest := []) ⟨hx, hb, hml, hown, hts⟩ (mt_X13_end l G B hv1) (cwV 1 hts (sv_gV wd_2211 wd_2213 wd_114 wd_147 wd_2214) rfl rfl rfl (by decide +kernel) ⟨Nat.le_of_ble_eq_true rfl, Nat.le_of_ble_eq_true rfl⟩) ⟨sv_blind, sv_recv hC.1 hR (ci := 13) (sv_go hv1).1 (by decide) rfl, fun U hU hW => sv_pre hC hR hS hBs hU hW⟩ rfl rfl hl.1 rfl (lv_room (Nat.le_of_ble_eq_true rfl)) dX13_stepDoor_154 ⟨Nat.zero_le _, Nat.zero_le _⟩) hS (fun H locs hR hS => ?_)
    exact lk_X13_stepDoor_157 K hw hR hS (lv_sub hl [] rfl)
set_option maxHeartbeats 4000000 in
set_option maxRecDepth 100000 in
theorem lk_X13_stepDoor_95 {p : Program} {l : Launch} {e : Env} {s : State} {m : MethodId} {args : Array Value} {below : List Frame} {meth : Method} {c : Code} {G : sv_G} {B : Nat} (K : sv_W p s m args meth c cX13_stepDoor RX13 3 none G B "stepDoor") {r : Unit} {hE : sv_H} {x0 : Nat} {x1 : Int32} {s0 : Int32} {h : sv_H} (hw : fn_X13_stepDoor_95 x0 x1 s0 h = some (r, hE)) {H : Heap} {locs : List Loc} {ls : Array Slot} (hR : sv_R G vwCl sv_ft B h H) (hS : va_S (fun q => B ≤ q) s.heap H locs) (hl : lv_has ls 3 [(0, .ref x0), (1, .int x1)]) : W p l e rm_X13_stepDoor s m args below meth c H locs 0 0 (sv_Z below s args G B none hE) (F0 m 95 ls [.int s0]) := by
  obtain ⟨hx, hb, hml, hown, hts, hC, hlk, hr, hBs, hni⟩ := id K
  unfold fn_X13_stepDoor_95 at hw
  refine lv_istore_n (lv' := [(2, .int s0), (0, .ref x0), (1, .int x1)]) hx hb dX13_stepDoor_95 rfl hl (by decide) rfl (fun ls hl => ?_)
  refine lv_aload_n hx hb dX13_stepDoor_96 rfl (lv_at hl 1 rfl) ?_
  obtain ⟨v1, hv, hw⟩ := sv_bd hw
  refine sv_rgI hx hb hown hC.1 hR (fl_X13_stepDoor_52 hts hC hni) rfl (by decide) rfl rfl hv dX13_stepDoor_97 ?_
  refine lv_iload_n hx hb dX13_stepDoor_100 rfl (lv_at hl 2 rfl) ?_
  refine lv_icmp_ne (tgt := 135) hx hb dX13_stepDoor_101 (by decide) (fun cc => ?_) (fun cc => ?_)
  · have hw := sv_iff cc hw
    exact lk_X13_stepDoor_135 K hw hR hS (lv_sub hl [1, 2, 0] rfl)
  · have hw := sv_ift cc hw
    refine lv_iload_n hx hb dX13_stepDoor_104 rfl (lv_at hl 0 rfl) ?_
    refine lv_aload_n hx hb dX13_stepDoor_105 rfl (lv_at hl 1 rfl) ?_
    obtain ⟨v2, hv, hw⟩ := sv_bd hw
    refine sv_rgP hx hb hown hC.1 hR (fl_X13_stepDoor_31 hts hC hni) rfl (by decide) rfl rfl hv dX13_stepDoor_106 ?_
    refine lv_iload_n hx hb dX13_stepDoor_109 rfl (lv_at hl 2 rfl) ?_
    obtain ⟨v3, hv, hw⟩ := sv_bd hw
    refine sv_rlI hx hb hC.1 rfl hR hv dX13_stepDoor_110 ?_
    refine lv_isub hx hb dX13_stepDoor_111 ?_
    refine lv_bipush (v := 56) hx hb dX13_stepDoor_112 (by decide) ?_
    refine lv_icmp_ge (tgt := 135) hx hb dX13_stepDoor_114 (by decide) (fun cc => ?_) (fun cc => ?_)
    · have hw := sv_ift cc hw
      exact lk_X13_stepDoor_135 K hw hR hS (lv_sub hl [1, 2, 0] rfl)
    · have hw := sv_iff cc hw
      refine lv_aload_n hx hb dX13_stepDoor_117 rfl (lv_at hl 1 rfl) ?_
      refine lv_dup hx hb dX13_stepDoor_118 rfl ?_
      obtain ⟨v4, hv, hw⟩ := sv_bd hw
      refine sv_rgI hx hb hown hC.1 hR (fl_X13_stepDoor_72 hts hC hni) rfl (by decide) rfl rfl hv dX13_stepDoor_119 ?_
      refine lv_iconst (v := 1) hx hb dX13_stepDoor_122 (by decide) ?_
      refine lv_iadd hx hb dX13_stepDoor_123 ?_
      obtain ⟨h5, hv, hw⟩ := sv_bd hw
      refine sv_rpI hx hb hown hC.1 hR hS (fl_X13_stepDoor_72 hts hC hni) rfl (by decide) rfl rfl hv dX13_stepDoor_124 (fun H locs hR hS => ?_)
      refine lv_aload_n hx hb dX13_stepDoor_127 rfl (lv_at hl 1 rfl) ?_
      obtain ⟨v6, hv, hw⟩ := sv_bd hw
      refine sv_rgP hx hb hown hC.1 hR (fl_X13_stepDoor_40 hts hC hni) rfl (by decide) rfl rfl hv dX13_stepDoor_128 ?_
      refine lv_iload_n hx hb dX13_stepDoor_131 rfl (lv_at hl 2 rfl) ?_
      refine lv_iconst (v := 1) hx hb dX13_stepDoor_132 (by decide) ?_
      obtain ⟨h7, hv, hw⟩ := sv_bd hw
      refine sv_rsI hx hb hC.1 rfl hR hS hv dX13_stepDoor_133 (fun H locs hR hS => ?_)
      obtain ⟨rfl, rfl⟩ := sv_ret hw
      exact W.vret hx hb hr (fun t ht hW => ⟨⟨rfl, by rw [ht]; exact hR⟩, hS.F ht⟩) hS.2.2 dX13_stepDoor_134
set_option maxHeartbeats 4000000 in
set_option maxRecDepth 100000 in
theorem lk_X13_stepDoor_74 {p : Program} {l : Launch} {e : Env} {s : State} {m : MethodId} {args : Array Value} {below : List Frame} {meth : Method} {c : Code} {G : sv_G} {B : Nat} (K : sv_W p s m args meth c cX13_stepDoor RX13 3 none G B "stepDoor") {r : Unit} {hE : sv_H} {h : sv_H} (hw : fn_X13_stepDoor_74 h = some (r, hE)) {H : Heap} {locs : List Loc} {ls : Array Slot} (hR : sv_R G vwCl sv_ft B h H) (hS : va_S (fun q => B ≤ q) s.heap H locs) (hl : lv_has ls 3 []) : W p l e rm_X13_stepDoor s m args below meth c H locs 0 0 (sv_Z below s args G B none hE) (F0 m 74 ls []) := by
  obtain ⟨hx, hb, hml, hown, hts, hC, hlk, hr, hBs, hni⟩ := id K
  unfold fn_X13_stepDoor_74 at hw
  obtain ⟨rfl, rfl⟩ := sv_ret hw
  exact W.vret hx hb hr (fun t ht hW => ⟨⟨rfl, by rw [ht]; exact hR⟩, hS.F ht⟩) hS.2.2 dX13_stepDoor_74
set_option maxHeartbeats 4000000 in
set_option maxRecDepth 100000 in
theorem lk_X13_stepDoor_51 {p : Program} {l : Launch} {e : Env} {s : State} {m : MethodId} {args : Array Value} {below : List Frame} {meth : Method} {c : Code} {G : sv_G} {B : Nat} (K : sv_W p s m args meth c cX13_stepDoor RX13 3 none G B "stepDoor") {r : Unit} {hE : sv_H} {x0 : Nat} {x1 : Int32} {s0 : Nat} {s1 : Int32} {s2 : Int32} {h : sv_H} (hw : fn_X13_stepDoor_51 x0 x1 s0 s1 s2 h = some (r, hE)) {H : Heap} {locs : List Loc} {ls : Array Slot} (hR : sv_R G vwCl sv_ft B h H) (hS : va_S (fun q => B ≤ q) s.heap H locs) (hl : lv_has ls 3 [(0, .ref x0), (1, .int x1)]) : W p l e rm_X13_stepDoor s m args below meth c H locs 0 0 (sv_Z below s args G B none hE) (F0 m 51 ls [.int s2, .int s1, .ref s0]) := by
  obtain ⟨hx, hb, hml, hown, hts, hC, hlk, hr, hBs, hni⟩ := id K
  unfold fn_X13_stepDoor_51 at hw
  obtain ⟨h1, hv, hw⟩ := sv_bd hw
  refine sv_rsI hx hb hC.1 rfl hR hS hv dX13_stepDoor_51 (fun H locs hR hS => ?_)
  refine lv_aload_n hx hb dX13_stepDoor_52 rfl (lv_at hl 0 rfl) ?_
  obtain ⟨v2, hv, hw⟩ := sv_bd hw
  refine sv_rgP hx hb hown hC.1 hR (fl_X13_stepDoor_34 hts hC hni) rfl (by decide) rfl rfl hv dX13_stepDoor_53 ?_
  refine lv_iload_n hx hb dX13_stepDoor_56 rfl (lv_at hl 1 rfl) ?_
  obtain ⟨v3, hv, hw⟩ := sv_bd hw
  refine sv_rlI hx hb hC.1 rfl hR hv dX13_stepDoor_57 ?_
  refine lv_aload_n hx hb dX13_stepDoor_58 rfl (lv_at hl 0 rfl) ?_
  obtain ⟨v4, hv, hw⟩ := sv_bd hw
  refine sv_rgP hx hb hown hC.1 hR (fl_X13_stepDoor_46 hts hC hni) rfl (by decide) rfl rfl hv dX13_stepDoor_59 ?_
  refine lv_iload_n hx hb dX13_stepDoor_62 rfl (lv_at hl 1 rfl) ?_
  obtain ⟨v5, hv, hw⟩ := sv_bd hw
  refine sv_rlI hx hb hC.1 rfl hR hv dX13_stepDoor_63 ?_
  refine lv_icmp_ne (tgt := 74) hx hb dX13_stepDoor_64 (by decide) (fun cc => ?_) (fun cc => ?_)
  · have hw := sv_iff cc hw
    exact lk_X13_stepDoor_74 K hw hR hS (lv_sub hl [] rfl)
  · have hw := sv_ift cc hw
    refine lv_aload_n hx hb dX13_stepDoor_67 rfl (lv_at hl 0 rfl) ?_
    refine lv_iload_n hx hb dX13_stepDoor_68 rfl (lv_at hl 1 rfl) ?_
    refine lv_bipush (v := 20) hx hb dX13_stepDoor_69 (by decide) ?_
    obtain ⟨_, h6, hv1, hw⟩ := sv_b_some hw
    refine sv_call (va_runV (As := [.int x1, .int 20]) (rest := []) ⟨hx, hb, hml, hown, hts⟩ (mt_X13_await l G B hv1) (cwV 2 hts (sv_gV wd_2207 wd_2209 wd_113 wd_147 wd_2210) rfl rfl rfl (by decide +kernel) ⟨Nat.le_of_ble_eq_true rfl, Nat.le_of_ble_eq_true rfl⟩) ⟨sv_blind, sv_recv hC.1 hR (ci := 13) (sv_go hv1).1 (by decide) rfl, fun U hU hW => sv_pre hC hR hS hBs hU hW⟩ rfl rfl hl.1 rfl (lv_room (Nat.le_of_ble_eq_true rfl)) dX13_stepDoor_71 ⟨Nat.zero_le _, Nat.zero_le _⟩) hS (fun H locs hR hS => ?_)
    exact lk_X13_stepDoor_74 K hw hR hS (lv_sub hl [] rfl)
set_option maxHeartbeats 4000000 in
set_option maxRecDepth 100000 in
theorem lk_X13_stepDoor_0 {p : Program} {l : Launch} {e : Env} {s : State} {m : MethodId} {args : Array Value} {below : List Frame} {meth : Method} {c : Code} {G : sv_G} {B : Nat} (K : sv_W p s m args meth c cX13_stepDoor RX13 3 none G B "stepDoor") {r : Unit} {hE : sv_H} {x0 : Nat} {x1 : Int32} {h : sv_H} (hw : fn_X13_stepDoor x0 x1 h = some (r, hE)) {H : Heap} {locs : List Loc} {ls : Array Slot} (hR : sv_R G vwCl sv_ft B h H) (hS : va_S (fun q => B ≤ q) s.heap H locs) (hl : lv_has ls 3 [(0, .ref x0), (1, .int x1)]) : W p l e rm_X13_stepDoor s m args below meth c H locs 0 0 (sv_Z below s args G B none hE) (F0 m 0 ls []) := by
  obtain ⟨hx, hb, hml, hown, hts, hC, hlk, hr, hBs, hni⟩ := id K
  unfold fn_X13_stepDoor at hw
  have hw := (sv_go hw).2
  refine lv_aload_n hx hb dX13_stepDoor_0 rfl (lv_at hl 0 rfl) ?_
  obtain ⟨v1, hv, hw⟩ := sv_bd hw
  refine sv_rgP hx hb hown hC.1 hR (fl_X13_stepDoor_34 hts hC hni) rfl (by decide) rfl rfl hv dX13_stepDoor_1 ?_
  refine lv_iload_n hx hb dX13_stepDoor_4 rfl (lv_at hl 1 rfl) ?_
  obtain ⟨v2, hv, hw⟩ := sv_bd hw
  refine sv_rlI hx hb hC.1 rfl hR hv dX13_stepDoor_5 ?_
  refine lv_bipush (v := 8) hx hb dX13_stepDoor_6 (by decide) ?_
  refine lv_aload_n hx hb dX13_stepDoor_8 rfl (lv_at hl 0 rfl) ?_
  obtain ⟨v3, hv, hw⟩ := sv_bd hw
  refine sv_rgP hx hb hown hC.1 hR (fl_X13_stepDoor_40 hts hC hni) rfl (by decide) rfl rfl hv dX13_stepDoor_9 ?_
  refine lv_iload_n hx hb dX13_stepDoor_12 rfl (lv_at hl 1 rfl) ?_
  obtain ⟨v4, hv, hw⟩ := sv_bd hw
  refine sv_rlI hx hb hC.1 rfl hR hv dX13_stepDoor_13 ?_
  refine lv_imul hx hb dX13_stepDoor_14 ?_
  refine lv_iadd hx hb dX13_stepDoor_15 ?_
  refine lv_istore_n (lv' := [(2, .int (v2 + (8 * v4))), (0, .ref x0), (1, .int x1)]) hx hb dX13_stepDoor_16 rfl hl (by decide) rfl (fun ls hl => ?_)
  refine lv_aload_n hx hb dX13_stepDoor_17 rfl (lv_at hl 1 rfl) ?_
  obtain ⟨v5, hv, hw⟩ := sv_bd hw
  refine sv_rgP hx hb hown hC.1 hR (fl_X13_stepDoor_40 hts hC hni) rfl (by decide) rfl rfl hv dX13_stepDoor_18 ?_
  refine lv_iload_n hx hb dX13_stepDoor_21 rfl (lv_at hl 2 rfl) ?_
  obtain ⟨v6, hv, hw⟩ := sv_bd hw
  refine sv_rlI hx hb hC.1 rfl hR hv dX13_stepDoor_22 ?_
  refine lv_if_le (tgt := 75) hx hb dX13_stepDoor_23 (by decide) (fun cc => ?_) (fun cc => ?_)
  · have hw := sv_ift cc hw
    refine lv_iload_n hx hb dX13_stepDoor_75 rfl (lv_at hl 0 rfl) ?_
    refine lv_aload_n hx hb dX13_stepDoor_76 rfl (lv_at hl 1 rfl) ?_
    obtain ⟨v7, hv, hw⟩ := sv_bd hw
    refine sv_rgP hx hb hown hC.1 hR (fl_X13_stepDoor_31 hts hC hni) rfl (by decide) rfl rfl hv dX13_stepDoor_77 ?_
    refine lv_iload_n hx hb dX13_stepDoor_80 rfl (lv_at hl 2 rfl) ?_
    obtain ⟨v8, hv, hw⟩ := sv_bd hw
    refine sv_rlI hx hb hC.1 rfl hR hv dX13_stepDoor_81 ?_
    refine lv_icmp_ge (tgt := 94) hx hb dX13_stepDoor_82 (by decide) (fun cc => ?_) (fun cc => ?_)
    · have hw := sv_ift cc hw
      refine lv_iload_n hx hb dX13_stepDoor_94 rfl (lv_at hl 0 rfl) ?_
      exact lk_X13_stepDoor_95 K hw hR hS (lv_sub hl [1, 2] rfl)
    · have hw := sv_iff cc hw
      refine lv_aload_n hx hb dX13_stepDoor_85 rfl (lv_at hl 1 rfl) ?_
      obtain ⟨v9, hv, hw⟩ := sv_bd hw
      refine sv_rgP hx hb hown hC.1 hR (fl_X13_stepDoor_31 hts hC hni) rfl (by decide) rfl rfl hv dX13_stepDoor_86 ?_
      refine lv_iload_n hx hb dX13_stepDoor_89 rfl (lv_at hl 2 rfl) ?_
      obtain ⟨v10, hv, hw⟩ := sv_bd hw
      refine sv_rlI hx hb hC.1 rfl hR hv dX13_stepDoor_90 ?_
      refine lv_goto (tgt := 95) hx hb dX13_stepDoor_91 (by decide) ?_
      exact lk_X13_stepDoor_95 K hw hR hS (lv_sub hl [1, 2] rfl)
  · have hw := sv_iff cc hw
    refine lv_aload_n hx hb dX13_stepDoor_26 rfl (lv_at hl 1 rfl) ?_
    obtain ⟨v11, hv, hw⟩ := sv_bd hw
    refine sv_rgP hx hb hown hC.1 hR (fl_X13_stepDoor_34 hts hC hni) rfl (by decide) rfl rfl hv dX13_stepDoor_27 ?_
    refine lv_iload_n hx hb dX13_stepDoor_30 rfl (lv_at hl 2 rfl) ?_
    refine lv_iload_n hx hb dX13_stepDoor_31 rfl (lv_at hl 0 rfl) ?_
    refine lv_aload_n hx hb dX13_stepDoor_32 rfl (lv_at hl 1 rfl) ?_
    obtain ⟨v12, hv, hw⟩ := sv_bd hw
    refine sv_rgP hx hb hown hC.1 hR (fl_X13_stepDoor_46 hts hC hni) rfl (by decide) rfl rfl hv dX13_stepDoor_33 ?_
    refine lv_iload_n hx hb dX13_stepDoor_36 rfl (lv_at hl 2 rfl) ?_
    obtain ⟨v13, hv, hw⟩ := sv_bd hw
    refine sv_rlI hx hb hC.1 rfl hR hv dX13_stepDoor_37 ?_
    refine lv_icmp_le (tgt := 50) hx hb dX13_stepDoor_38 (by decide) (fun cc => ?_) (fun cc => ?_)
    · have hw := sv_ift cc hw
      refine lv_iload_n hx hb dX13_stepDoor_50 rfl (lv_at hl 0 rfl) ?_
      exact lk_X13_stepDoor_51 K hw hR hS (lv_sub hl [1, 2] rfl)
    · have hw := sv_iff cc hw
      refine lv_aload_n hx hb dX13_stepDoor_41 rfl (lv_at hl 1 rfl) ?_
      obtain ⟨v14, hv, hw⟩ := sv_bd hw
      refine sv_rgP hx hb hown hC.1 hR (fl_X13_stepDoor_46 hts hC hni) rfl (by decide) rfl rfl hv dX13_stepDoor_42 ?_
      refine lv_iload_n hx hb dX13_stepDoor_45 rfl (lv_at hl 2 rfl) ?_
      obtain ⟨v15, hv, hw⟩ := sv_bd hw
      refine sv_rlI hx hb hC.1 rfl hR hv dX13_stepDoor_46 ?_
      refine lv_goto (tgt := 51) hx hb dX13_stepDoor_47 (by decide) ?_
      exact lk_X13_stepDoor_51 K hw hR hS (lv_sub hl [1, 2] rfl)
set_option maxHeartbeats 4000000 in
set_option maxRecDepth 100000 in
theorem mt_X13_stepDoor (l : Launch) (G : sv_G) (B : Nat) {x0 : Nat} {x1 : Int32} {h : sv_H} {r : Unit} {hE : sv_H} (hw : fn_X13_stepDoor x0 x1 h = some (r, hE)) : Met l yX13_stepDoor (.code yX13_stepDoor cX13_stepDoor 3 none :: sv_tb) rm_X13_stepDoor (sv_Pc G B [.ref x0, .int x1] h) (sv_Q G B none hE) 0 0 (fun q => B ≤ q) := by
  refine Met.ofW (cc := cX13_stepDoor) (maxL := 3) (ret := none) (by decide +kernel) rfl ?_
  intro p e s m args below meth c s₁ Bd hml hv
  obtain ⟨rfl, hR, hC, hB⟩ := hv
  have hl := lv_entry ([.ref x0, .int x1]) (n := 3) (Nat.le_of_ble_eq_true rfl)
  rw [lg_entry_eq]
  generalize (lg_sl ([.ref x0, .int x1]) ++ List.replicate (3 - (lg_sl ([.ref x0, .int x1])).length) Slot.unset).toArray = ls at hl ⊢
  have hl : lv_has ls 3 [(0, .ref x0), (1, .int x1)] := hl
  exact lk_X13_stepDoor_0 ⟨Bd.exec, Bd.bytes, hml, findClass_of_methodNamed Bd.named, fun w h => atoms_spec (ws := .code yX13_stepDoor cX13_stepDoor 3 none :: sv_tb) Bd.pre w (List.mem_cons_of_mem _ h), hC, Bd.notSynchronized, Bd.returns, hB, (name_of_methodNamed Bd.named Bd.method).1⟩ hw hR va_S.rf hl

def rm_X13_rise : Room := { frames := 1, cells := 0, slots := 0, locals := 21 }
theorem fl_X13_rise_31 {s : State} {meth : Method} {args : Array Value} {G : sv_G} {B : Nat} (hts : ∀ w ∈ sv_tb, w.before args s = true) (hC : sv_Cx G B s s.heap) (hni : meth.name = "rise") : sv_FL s meth args vwCl RX13 31 13 8 (.array .int) false :=
  ⟨_, RX13, TX13, 18, sv_tb, tyX13, rfl, by decide, hts, uw_X13, Or.inl (hts _ wd_1540), fun _ h => h, tyX13_ok 8 (by decide), tyX13_ok, nmX13, fun h => by cases h⟩
theorem fl_X13_rise_52 {s : State} {meth : Method} {args : Array Value} {G : sv_G} {B : Nat} (hts : ∀ w ∈ sv_tb, w.before args s = true) (hC : sv_Cx G B s s.heap) (hni : meth.name = "rise") : sv_FL s meth args vwCl RX13 52 13 16 .int true :=
  ⟨_, RX13, TX13, 18, sv_tb, tyX13, rfl, by decide, hts, uw_X13, Or.inl (hts _ wd_1551), fun _ h => h, tyX13_ok 16 (by decide), tyX13_ok, nmX13, fun _ => Or.inl rfl⟩
theorem fl_X13_rise_34 {s : State} {meth : Method} {args : Array Value} {G : sv_G} {B : Nat} (hts : ∀ w ∈ sv_tb, w.before args s = true) (hC : sv_Cx G B s s.heap) (hni : meth.name = "rise") : sv_FL s meth args vwCl RX13 34 13 9 (.array .int) false :=
  ⟨_, RX13, TX13, 18, sv_tb, tyX13, rfl, by decide, hts, uw_X13, Or.inl (hts _ wd_1542), fun _ h => h, tyX13_ok 9 (by decide), tyX13_ok, nmX13, fun h => by cases h⟩
theorem fl_X13_rise_72 {s : State} {meth : Method} {args : Array Value} {G : sv_G} {B : Nat} (hts : ∀ w ∈ sv_tb, w.before args s = true) (hC : sv_Cx G B s s.heap) (hni : meth.name = "rise") : sv_FL s meth args vwCl RX13 72 13 17 .int true :=
  ⟨_, RX13, TX13, 18, sv_tb, tyX13, rfl, by decide, hts, uw_X13, Or.inl (hts _ wd_1553), fun _ h => h, tyX13_ok 17 (by decide), tyX13_ok, nmX13, fun _ => Or.inl rfl⟩
set_option maxHeartbeats 4000000 in
set_option maxRecDepth 100000 in
theorem lk_X13_rise_78 {p : Program} {l : Launch} {e : Env} {s : State} {m : MethodId} {args : Array Value} {below : List Frame} {meth : Method} {c : Code} {G : sv_G} {B : Nat} (K : sv_W p s m args meth c cX13_rise RX13 5 none G B "rise") {r : Unit} {hE : sv_H} {h : sv_H} (hw : fn_X13_rise_78 h = some (r, hE)) {H : Heap} {locs : List Loc} {ls : Array Slot} (hR : sv_R G vwCl sv_ft B h H) (hS : va_S (fun q => B ≤ q) s.heap H locs) (hl : lv_has ls 5 []) : W p l e rm_X13_rise s m args below meth c H locs 0 0 (sv_Z below s args G B none hE) (F0 m 78 ls []) := by
  obtain ⟨hx, hb, hml, hown, hts, hC, hlk, hr, hBs, hni⟩ := id K
  unfold fn_X13_rise_78 at hw
  obtain ⟨rfl, rfl⟩ := sv_ret hw
  exact W.vret hx hb hr (fun t ht hW => ⟨⟨rfl, by rw [ht]; exact hR⟩, hS.F ht⟩) hS.2.2 dX13_rise_78
set_option maxHeartbeats 4000000 in
set_option maxRecDepth 100000 in
theorem lk_X13_rise_59 {p : Program} {l : Launch} {e : Env} {s : State} {m : MethodId} {args : Array Value} {below : List Frame} {meth : Method} {c : Code} {G : sv_G} {B : Nat} (K : sv_W p s m args meth c cX13_rise RX13 5 none G B "rise") {r : Unit} {hE : sv_H} {x0 : Nat} {x1 : Int32} {x3 : Int32} {x4 : Int32} {h : sv_H} (hw : fn_X13_rise_59 x0 x1 x3 x4 h = some (r, hE)) {H : Heap} {locs : List Loc} {ls : Array Slot} (hR : sv_R G vwCl sv_ft B h H) (hS : va_S (fun q => B ≤ q) s.heap H locs) (hl : lv_has ls 5 [(0, .ref x0), (1, .int x1), (3, .int x3), (4, .int x4)]) : W p l e rm_X13_rise s m args below meth c H locs 0 0 (sv_Z below s args G B none hE) (F0 m 59 ls []) := by
  obtain ⟨hx, hb, hml, hown, hts, hC, hlk, hr, hBs, hni⟩ := id K
  unfold fn_X13_rise_59 at hw
  refine lv_aload_n hx hb dX13_rise_59 rfl (lv_at hl 0 rfl) ?_
  obtain ⟨v1, hv, hw⟩ := sv_bd hw
  refine sv_rgP hx hb hown hC.1 hR (fl_X13_rise_31 hts hC hni) rfl (by decide) rfl rfl hv dX13_rise_60 ?_
  refine lv_iload_n hx hb dX13_rise_63 rfl (lv_at hl 1 rfl) ?_
  refine lv_iload hx hb dX13_rise_64 (lv_at hl 3 rfl) ?_
  obtain ⟨h2, hv, hw⟩ := sv_bd hw
  refine sv_rsI hx hb hC.1 rfl hR hS hv dX13_rise_66 (fun H locs hR hS => ?_)
  refine lv_iload hx hb dX13_rise_67 (lv_at hl 3 rfl) ?_
  refine lv_iload_n hx hb dX13_rise_69 rfl (lv_at hl 2 rfl) ?_
  refine lv_icmp_ne (tgt := 78) hx hb dX13_rise_70 (by decide) (fun cc => ?_) (fun cc => ?_)
  · have hw := sv_iff cc hw
    exact lk_X13_rise_78 K hw hR hS (lv_sub hl [] rfl)
  · have hw := sv_ift cc hw
    refine lv_aload_n hx hb dX13_rise_73 rfl (lv_at hl 0 rfl) ?_
    refine lv_iload_n hx hb dX13_rise_74 rfl (lv_at hl 1 rfl) ?_
    obtain ⟨_, h3, hv1, hw⟩ := sv_b_some hw
    refine sv_call (va_runV (As := [.int x1]) (rest := []) ⟨hx, hb, hml, hown, hts⟩ (mt_X13_end l G B hv1) (cwV 1 hts (sv_gV wd_2211 wd_2213 wd_114 wd_147 wd_2214) rfl rfl rfl (by decide +kernel) ⟨Nat.le_of_ble_eq_true rfl, Nat.le_of_ble_eq_true rfl⟩) ⟨sv_blind, sv_recv hC.1 hR (ci := 13) (sv_go hv1).1 (by decide) rfl, fun U hU hW => sv_pre hC hR hS hBs hU hW⟩ rfl rfl hl.1 rfl (lv_room (Nat.le_of_ble_eq_true rfl)) dX13_rise_75 ⟨Nat.zero_le _, Nat.zero_le _⟩) hS (fun H locs hR hS => ?_)
    exact lk_X13_rise_78 K hw hR hS (lv_sub hl [] rfl)
set_option maxHeartbeats 4000000 in
set_option maxRecDepth 100000 in
theorem lk_X13_rise_24 {p : Program} {l : Launch} {e : Env} {s : State} {m : MethodId} {args : Array Value} {below : List Frame} {meth : Method} {c : Code} {G : sv_G} {B : Nat} (K : sv_W p s m args meth c cX13_rise RX13 5 none G B "rise") {r : Unit} {hE : sv_H} {x0 : Nat} {x1 : Int32} {x3 : Int32} {s0 : Int32} {h : sv_H} (hw : fn_X13_rise_24 x0 x1 x3 s0 h = some (r, hE)) {H : Heap} {locs : List Loc} {ls : Array Slot} (hR : sv_R G vwCl sv_ft B h H) (hS : va_S (fun q => B ≤ q) s.heap H locs) (hl : lv_has ls 5 [(0, .ref x0), (1, .int x1), (3, .int x3)]) : W p l e rm_X13_rise s m args below meth c H locs 0 0 (sv_Z below s args G B none hE) (F0 m 24 ls [.int s0]) := by
  obtain ⟨hx, hb, hml, hown, hts, hC, hlk, hr, hBs, hni⟩ := id K
  unfold fn_X13_rise_24 at hw
  refine lv_istore (lv' := [(4, .int s0), (0, .ref x0), (1, .int x1), (3, .int x3)]) hx hb dX13_rise_24 hl (by decide) rfl (fun ls hl => ?_)
  refine lv_aload_n hx hb dX13_rise_26 rfl (lv_at hl 1 rfl) ?_
  obtain ⟨v1, hv, hw⟩ := sv_bd hw
  refine sv_rgI hx hb hown hC.1 hR (fl_X13_rise_52 hts hC hni) rfl (by decide) rfl rfl hv dX13_rise_27 ?_
  refine lv_iload_n hx hb dX13_rise_30 rfl (lv_at hl 2 rfl) ?_
  refine lv_icmp_ne (tgt := 59) hx hb dX13_rise_31 (by decide) (fun cc => ?_) (fun cc => ?_)
  · have hw := sv_iff cc hw
    exact lk_X13_rise_59 K hw hR hS (lv_sub hl [1, 2, 3, 0] rfl)
  · have hw := sv_ift cc hw
    refine lv_aload_n hx hb dX13_rise_34 rfl (lv_at hl 1 rfl) ?_
    obtain ⟨v2, hv, hw⟩ := sv_bd hw
    refine sv_rgP hx hb hown hC.1 hR (fl_X13_rise_34 hts hC hni) rfl (by decide) rfl rfl hv dX13_rise_35 ?_
    refine lv_iload_n hx hb dX13_rise_38 rfl (lv_at hl 2 rfl) ?_
    obtain ⟨v3, hv, hw⟩ := sv_bd hw
    refine sv_rlI hx hb hC.1 rfl hR hv dX13_rise_39 ?_
    refine lv_iload hx hb dX13_rise_40 (lv_at hl 0 rfl) ?_
    refine lv_isub hx hb dX13_rise_42 ?_
    refine lv_bipush (v := 56) hx hb dX13_rise_43 (by decide) ?_
    refine lv_icmp_ge (tgt := 59) hx hb dX13_rise_45 (by decide) (fun cc => ?_) (fun cc => ?_)
    · have hw := sv_ift cc hw
      exact lk_X13_rise_59 K hw hR hS (lv_sub hl [1, 2, 3, 0] rfl)
    · have hw := sv_iff cc hw
      refine lv_aload_n hx hb dX13_rise_48 rfl (lv_at hl 1 rfl) ?_
      refine lv_dup hx hb dX13_rise_49 rfl ?_
      obtain ⟨v4, hv, hw⟩ := sv_bd hw
      refine sv_rgI hx hb hown hC.1 hR (fl_X13_rise_72 hts hC hni) rfl (by decide) rfl rfl hv dX13_rise_50 ?_
      refine lv_iconst (v := 1) hx hb dX13_rise_53 (by decide) ?_
      refine lv_iadd hx hb dX13_rise_54 ?_
      obtain ⟨h5, hv, hw⟩ := sv_bd hw
      refine sv_rpI hx hb hown hC.1 hR hS (fl_X13_rise_72 hts hC hni) rfl (by decide) rfl rfl hv dX13_rise_55 (fun H locs hR hS => ?_)
      obtain ⟨rfl, rfl⟩ := sv_ret hw
      exact W.vret hx hb hr (fun t ht hW => ⟨⟨rfl, by rw [ht]; exact hR⟩, hS.F ht⟩) hS.2.2 dX13_rise_58
set_option maxHeartbeats 4000000 in
set_option maxRecDepth 100000 in
theorem lk_X13_rise_0 {p : Program} {l : Launch} {e : Env} {s : State} {m : MethodId} {args : Array Value} {below : List Frame} {meth : Method} {c : Code} {G : sv_G} {B : Nat} (K : sv_W p s m args meth c cX13_rise RX13 5 none G B "rise") {r : Unit} {hE : sv_H} {x0 : Nat} {x1 : Int32} {x2 : Int32} {x3 : Int32} {h : sv_H} (hw : fn_X13_rise x0 x1 x2 x3 h = some (r, hE)) {H : Heap} {locs : List Loc} {ls : Array Slot} (hR : sv_R G vwCl sv_ft B h H) (hS : va_S (fun q => B ≤ q) s.heap H locs) (hl : lv_has ls 5 [(0, .ref x0), (1, .int x1), (2, .int x2), (3, .int x3)]) : W p l e rm_X13_rise s m args below meth c H locs 0 0 (sv_Z below s args G B none hE) (F0 m 0 ls []) := by
  obtain ⟨hx, hb, hml, hown, hts, hC, hlk, hr, hBs, hni⟩ := id K
  unfold fn_X13_rise at hw
  have hw := (sv_go hw).2
  refine lv_aload_n hx hb dX13_rise_0 rfl (lv_at hl 0 rfl) ?_
  obtain ⟨v1, hv, hw⟩ := sv_bd hw
  refine sv_rgP hx hb hown hC.1 hR (fl_X13_rise_31 hts hC hni) rfl (by decide) rfl rfl hv dX13_rise_1 ?_
  refine lv_iload_n hx hb dX13_rise_4 rfl (lv_at hl 1 rfl) ?_
  obtain ⟨v2, hv, hw⟩ := sv_bd hw
  refine sv_rlI hx hb hC.1 rfl hR hv dX13_rise_5 ?_
  refine lv_iload_n hx hb dX13_rise_6 rfl (lv_at hl 2 rfl) ?_
  refine lv_iadd hx hb dX13_rise_7 ?_
  refine lv_iload_n hx hb dX13_rise_8 rfl (lv_at hl 3 rfl) ?_
  refine lv_icmp_le (tgt := 16) hx hb dX13_rise_9 (by decide) (fun cc => ?_) (fun cc => ?_)
  · have hw := sv_ift cc hw
    refine lv_aload_n hx hb dX13_rise_16 rfl (lv_at hl 0 rfl) ?_
    obtain ⟨v3, hv, hw⟩ := sv_bd hw
    refine sv_rgP hx hb hown hC.1 hR (fl_X13_rise_31 hts hC hni) rfl (by decide) rfl rfl hv dX13_rise_17 ?_
    refine lv_iload_n hx hb dX13_rise_20 rfl (lv_at hl 1 rfl) ?_
    obtain ⟨v4, hv, hw⟩ := sv_bd hw
    refine sv_rlI hx hb hC.1 rfl hR hv dX13_rise_21 ?_
    refine lv_iload_n hx hb dX13_rise_22 rfl (lv_at hl 2 rfl) ?_
    refine lv_iadd hx hb dX13_rise_23 ?_
    exact lk_X13_rise_24 K hw hR hS (lv_sub hl [0, 1, 3] rfl)
  · have hw := sv_iff cc hw
    refine lv_iload_n hx hb dX13_rise_12 rfl (lv_at hl 3 rfl) ?_
    refine lv_goto (tgt := 24) hx hb dX13_rise_13 (by decide) ?_
    exact lk_X13_rise_24 K hw hR hS (lv_sub hl [0, 1, 3] rfl)
set_option maxHeartbeats 4000000 in
set_option maxRecDepth 100000 in
theorem mt_X13_rise (l : Launch) (G : sv_G) (B : Nat) {x0 : Nat} {x1 : Int32} {x2 : Int32} {x3 : Int32} {h : sv_H} {r : Unit} {hE : sv_H} (hw : fn_X13_rise x0 x1 x2 x3 h = some (r, hE)) : Met l yX13_rise (.code yX13_rise cX13_rise 5 none :: sv_tb) rm_X13_rise (sv_Pc G B [.ref x0, .int x1, .int x2, .int x3] h) (sv_Q G B none hE) 0 0 (fun q => B ≤ q) := by
  refine Met.ofW (cc := cX13_rise) (maxL := 5) (ret := none) (by decide +kernel) rfl ?_
  intro p e s m args below meth c s₁ Bd hml hv
  obtain ⟨rfl, hR, hC, hB⟩ := hv
  have hl := lv_entry ([.ref x0, .int x1, .int x2, .int x3]) (n := 5) (Nat.le_of_ble_eq_true rfl)
  rw [lg_entry_eq]
  generalize (lg_sl ([.ref x0, .int x1, .int x2, .int x3]) ++ List.replicate (5 - (lg_sl ([.ref x0, .int x1, .int x2, .int x3])).length) Slot.unset).toArray = ls at hl ⊢
  have hl : lv_has ls 5 [(0, .ref x0), (1, .int x1), (2, .int x2), (3, .int x3)] := hl
  exact lk_X13_rise_0 ⟨Bd.exec, Bd.bytes, hml, findClass_of_methodNamed Bd.named, fun w h => atoms_spec (ws := .code yX13_rise cX13_rise 5 none :: sv_tb) Bd.pre w (List.mem_cons_of_mem _ h), hC, Bd.notSynchronized, Bd.returns, hB, (name_of_methodNamed Bd.named Bd.method).1⟩ hw hR va_S.rf hl

def rm_X13_step : Room := { frames := 2, cells := 0, slots := 0, locals := 45 }
theorem fl_X13_step_31 {s : State} {meth : Method} {args : Array Value} {G : sv_G} {B : Nat} (hts : ∀ w ∈ sv_tb, w.before args s = true) (hC : sv_Cx G B s s.heap) (hni : meth.name = "step") : sv_FL s meth args vwCl RX13 31 13 8 (.array .int) false :=
  ⟨_, RX13, TX13, 18, sv_tb, tyX13, rfl, by decide, hts, uw_X13, Or.inl (hts _ wd_1540), fun _ h => h, tyX13_ok 8 (by decide), tyX13_ok, nmX13, fun h => by cases h⟩
theorem fl_X13_step_46 {s : State} {meth : Method} {args : Array Value} {G : sv_G} {B : Nat} (hts : ∀ w ∈ sv_tb, w.before args s = true) (hC : sv_Cx G B s s.heap) (hni : meth.name = "step") : sv_FL s meth args vwCl RX13 46 13 13 (.array .int) false :=
  ⟨_, RX13, TX13, 18, sv_tb, tyX13, rfl, by decide, hts, uw_X13, Or.inl (hts _ wd_1547), fun _ h => h, tyX13_ok 13 (by decide), tyX13_ok, nmX13, fun h => by cases h⟩
theorem fl_X13_step_37 {s : State} {meth : Method} {args : Array Value} {G : sv_G} {B : Nat} (hts : ∀ w ∈ sv_tb, w.before args s = true) (hC : sv_Cx G B s s.heap) (hni : meth.name = "step") : sv_FL s meth args vwCl RX13 37 13 10 (.array .int) false :=
  ⟨_, RX13, TX13, 18, sv_tb, tyX13, rfl, by decide, hts, uw_X13, Or.inl (hts _ wd_1544), fun _ h => h, tyX13_ok 10 (by decide), tyX13_ok, nmX13, fun h => by cases h⟩
theorem fl_X13_step_40 {s : State} {meth : Method} {args : Array Value} {G : sv_G} {B : Nat} (hts : ∀ w ∈ sv_tb, w.before args s = true) (hC : sv_Cx G B s s.heap) (hni : meth.name = "step") : sv_FL s meth args vwCl RX13 40 13 11 (.array .int) false :=
  ⟨_, RX13, TX13, 18, sv_tb, tyX13, rfl, by decide, hts, uw_X13, Or.inl (hts _ wd_1545), fun _ h => h, tyX13_ok 11 (by decide), tyX13_ok, nmX13, fun h => by cases h⟩
theorem fl_X13_step_49 {s : State} {meth : Method} {args : Array Value} {G : sv_G} {B : Nat} (hts : ∀ w ∈ sv_tb, w.before args s = true) (hC : sv_Cx G B s s.heap) (hni : meth.name = "step") : sv_FL s meth args vwCl RX13 49 13 14 (.array .int) false :=
  ⟨_, RX13, TX13, 18, sv_tb, tyX13, rfl, by decide, hts, uw_X13, Or.inl (hts _ wd_1548), fun _ h => h, tyX13_ok 14 (by decide), tyX13_ok, nmX13, fun h => by cases h⟩
set_option maxHeartbeats 4000000 in
set_option maxRecDepth 100000 in
theorem lk_X13_step_128 {p : Program} {l : Launch} {e : Env} {s : State} {m : MethodId} {args : Array Value} {below : List Frame} {meth : Method} {c : Code} {G : sv_G} {B : Nat} (K : sv_W p s m args meth c cX13_step RX13 2 none G B "step") {r : Unit} {hE : sv_H} {h : sv_H} (hw : fn_X13_step_128 h = some (r, hE)) {H : Heap} {locs : List Loc} {ls : Array Slot} (hR : sv_R G vwCl sv_ft B h H) (hS : va_S (fun q => B ≤ q) s.heap H locs) (hl : lv_has ls 2 []) : W p l e rm_X13_step s m args below meth c H locs 0 0 (sv_Z below s args G B none hE) (F0 m 128 ls []) := by
  obtain ⟨hx, hb, hml, hown, hts, hC, hlk, hr, hBs, hni⟩ := id K
  unfold fn_X13_step_128 at hw
  obtain ⟨rfl, rfl⟩ := sv_ret hw
  exact W.vret hx hb hr (fun t ht hW => ⟨⟨rfl, by rw [ht]; exact hR⟩, hS.F ht⟩) hS.2.2 dX13_step_128
set_option maxHeartbeats 4000000 in
set_option maxRecDepth 100000 in
theorem lk_X13_step_105 {p : Program} {l : Launch} {e : Env} {s : State} {m : MethodId} {args : Array Value} {below : List Frame} {meth : Method} {c : Code} {G : sv_G} {B : Nat} (K : sv_W p s m args meth c cX13_step RX13 2 none G B "step") {r : Unit} {hE : sv_H} {x0 : Nat} {x1 : Int32} {s0 : Nat} {s1 : Int32} {s2 : Int32} {h : sv_H} (hw : fn_X13_step_105 x0 x1 s0 s1 s2 h = some (r, hE)) {H : Heap} {locs : List Loc} {ls : Array Slot} (hR : sv_R G vwCl sv_ft B h H) (hS : va_S (fun q => B ≤ q) s.heap H locs) (hl : lv_has ls 2 [(0, .ref x0), (1, .int x1)]) : W p l e rm_X13_step s m args below meth c H locs 0 0 (sv_Z below s args G B none hE) (F0 m 105 ls [.int s2, .int s1, .ref s0]) := by
  obtain ⟨hx, hb, hml, hown, hts, hC, hlk, hr, hBs, hni⟩ := id K
  unfold fn_X13_step_105 at hw
  obtain ⟨h1, hv, hw⟩ := sv_bd hw
  refine sv_rsI hx hb hC.1 rfl hR hS hv dX13_step_105 (fun H locs hR hS => ?_)
  refine lv_aload_n hx hb dX13_step_106 rfl (lv_at hl 0 rfl) ?_
  obtain ⟨v2, hv, hw⟩ := sv_bd hw
  refine sv_rgP hx hb hown hC.1 hR (fl_X13_step_31 hts hC hni) rfl (by decide) rfl rfl hv dX13_step_107 ?_
  refine lv_iload_n hx hb dX13_step_110 rfl (lv_at hl 1 rfl) ?_
  obtain ⟨v3, hv, hw⟩ := sv_bd hw
  refine sv_rlI hx hb hC.1 rfl hR hv dX13_step_111 ?_
  refine lv_aload_n hx hb dX13_step_112 rfl (lv_at hl 0 rfl) ?_
  obtain ⟨v4, hv, hw⟩ := sv_bd hw
  refine sv_rgP hx hb hown hC.1 hR (fl_X13_step_46 hts hC hni) rfl (by decide) rfl rfl hv dX13_step_113 ?_
  refine lv_iload_n hx hb dX13_step_116 rfl (lv_at hl 1 rfl) ?_
  obtain ⟨v5, hv, hw⟩ := sv_bd hw
  refine sv_rlI hx hb hC.1 rfl hR hv dX13_step_117 ?_
  refine lv_icmp_ne (tgt := 128) hx hb dX13_step_118 (by decide) (fun cc => ?_) (fun cc => ?_)
  · have hw := sv_iff cc hw
    exact lk_X13_step_128 K hw hR hS (lv_sub hl [] rfl)
  · have hw := sv_ift cc hw
    refine lv_aload_n hx hb dX13_step_121 rfl (lv_at hl 0 rfl) ?_
    refine lv_iload_n hx hb dX13_step_122 rfl (lv_at hl 1 rfl) ?_
    refine lv_bipush (v := 30) hx hb dX13_step_123 (by decide) ?_
    obtain ⟨_, h6, hv1, hw⟩ := sv_b_some hw
    refine sv_call (va_runV (As := [.int x1, .int 30]) (rest := []) ⟨hx, hb, hml, hown, hts⟩ (mt_X13_await l G B hv1) (cwV 2 hts (sv_gV wd_2207 wd_2209 wd_113 wd_147 wd_2210) rfl rfl rfl (by decide +kernel) ⟨Nat.le_of_ble_eq_true rfl, Nat.le_of_ble_eq_true rfl⟩) ⟨sv_blind, sv_recv hC.1 hR (ci := 13) (sv_go hv1).1 (by decide) rfl, fun U hU hW => sv_pre hC hR hS hBs hU hW⟩ rfl rfl hl.1 rfl (lv_room (Nat.le_of_ble_eq_true rfl)) dX13_step_125 ⟨Nat.zero_le _, Nat.zero_le _⟩) hS (fun H locs hR hS => ?_)
    exact lk_X13_step_128 K hw hR hS (lv_sub hl [] rfl)
set_option maxHeartbeats 4000000 in
set_option maxRecDepth 100000 in
theorem lk_X13_step_0 {p : Program} {l : Launch} {e : Env} {s : State} {m : MethodId} {args : Array Value} {below : List Frame} {meth : Method} {c : Code} {G : sv_G} {B : Nat} (K : sv_W p s m args meth c cX13_step RX13 2 none G B "step") {r : Unit} {hE : sv_H} {x0 : Nat} {x1 : Int32} {h : sv_H} (hw : fn_X13_step x0 x1 h = some (r, hE)) {H : Heap} {locs : List Loc} {ls : Array Slot} (hR : sv_R G vwCl sv_ft B h H) (hS : va_S (fun q => B ≤ q) s.heap H locs) (hl : lv_has ls 2 [(0, .ref x0), (1, .int x1)]) : W p l e rm_X13_step s m args below meth c H locs 0 0 (sv_Z below s args G B none hE) (F0 m 0 ls []) := by
  obtain ⟨hx, hb, hml, hown, hts, hC, hlk, hr, hBs, hni⟩ := id K
  unfold fn_X13_step at hw
  have hw := (sv_go hw).2
  refine lv_aload_n hx hb dX13_step_0 rfl (lv_at hl 0 rfl) ?_
  obtain ⟨v1, hv, hw⟩ := sv_bd hw
  refine sv_rgP hx hb hown hC.1 hR (fl_X13_step_37 hts hC hni) rfl (by decide) rfl rfl hv dX13_step_1 ?_
  refine lv_iload_n hx hb dX13_step_4 rfl (lv_at hl 1 rfl) ?_
  obtain ⟨v2, hv, hw⟩ := sv_bd hw
  refine sv_rlI hx hb hC.1 rfl hR hv dX13_step_5 ?_
  refine lv_if_ne (tgt := 17) hx hb dX13_step_6 (by decide) (fun cc => ?_) (fun cc => ?_)
  · have hw := sv_iff cc hw
    refine lv_aload_n hx hb dX13_step_17 rfl (lv_at hl 0 rfl) ?_
    obtain ⟨v3, hv, hw⟩ := sv_bd hw
    refine sv_rgP hx hb hown hC.1 hR (fl_X13_step_37 hts hC hni) rfl (by decide) rfl rfl hv dX13_step_18 ?_
    refine lv_iload_n hx hb dX13_step_21 rfl (lv_at hl 1 rfl) ?_
    obtain ⟨v4, hv, hw⟩ := sv_bd hw
    refine sv_rlI hx hb hC.1 rfl hR hv dX13_step_22 ?_
    refine lv_iconst (v := 2) hx hb dX13_step_23 (by decide) ?_
    refine lv_icmp_ne (tgt := 42) hx hb dX13_step_24 (by decide) (fun cc => ?_) (fun cc => ?_)
    · have hw := sv_iff cc hw
      refine lv_aload_n hx hb dX13_step_42 rfl (lv_at hl 0 rfl) ?_
      obtain ⟨v5, hv, hw⟩ := sv_bd hw
      refine sv_rgP hx hb hown hC.1 hR (fl_X13_step_40 hts hC hni) rfl (by decide) rfl rfl hv dX13_step_43 ?_
      refine lv_iload_n hx hb dX13_step_46 rfl (lv_at hl 1 rfl) ?_
      obtain ⟨v6, hv, hw⟩ := sv_bd hw
      refine sv_rlI hx hb hC.1 rfl hR hv dX13_step_47 ?_
      refine lv_if_le (tgt := 66) hx hb dX13_step_48 (by decide) (fun cc => ?_) (fun cc => ?_)
      · have hw := sv_ift cc hw
        refine lv_aload_n hx hb dX13_step_66 rfl (lv_at hl 0 rfl) ?_
        obtain ⟨v7, hv, hw⟩ := sv_bd hw
        refine sv_rgP hx hb hown hC.1 hR (fl_X13_step_31 hts hC hni) rfl (by decide) rfl rfl hv dX13_step_67 ?_
        refine lv_iload_n hx hb dX13_step_70 rfl (lv_at hl 1 rfl) ?_
        refine lv_aload_n hx hb dX13_step_71 rfl (lv_at hl 0 rfl) ?_
        obtain ⟨v8, hv, hw⟩ := sv_bd hw
        refine sv_rgP hx hb hown hC.1 hR (fl_X13_step_31 hts hC hni) rfl (by decide) rfl rfl hv dX13_step_72 ?_
        refine lv_iload_n hx hb dX13_step_75 rfl (lv_at hl 1 rfl) ?_
        obtain ⟨v9, hv, hw⟩ := sv_bd hw
        refine sv_rlI hx hb hC.1 rfl hR hv dX13_step_76 ?_
        refine lv_iconst (v := 4) hx hb dX13_step_77 (by decide) ?_
        refine lv_isub hx hb dX13_step_78 ?_
        refine lv_aload_n hx hb dX13_step_79 rfl (lv_at hl 0 rfl) ?_
        obtain ⟨v10, hv, hw⟩ := sv_bd hw
        refine sv_rgP hx hb hown hC.1 hR (fl_X13_step_46 hts hC hni) rfl (by decide) rfl rfl hv dX13_step_80 ?_
        refine lv_iload_n hx hb dX13_step_83 rfl (lv_at hl 1 rfl) ?_
        obtain ⟨v11, hv, hw⟩ := sv_bd hw
        refine sv_rlI hx hb hC.1 rfl hR hv dX13_step_84 ?_
        refine lv_icmp_ge (tgt := 97) hx hb dX13_step_85 (by decide) (fun cc => ?_) (fun cc => ?_)
        · have hw := sv_ift cc hw
          refine lv_aload_n hx hb dX13_step_97 rfl (lv_at hl 0 rfl) ?_
          obtain ⟨v12, hv, hw⟩ := sv_bd hw
          refine sv_rgP hx hb hown hC.1 hR (fl_X13_step_31 hts hC hni) rfl (by decide) rfl rfl hv dX13_step_98 ?_
          refine lv_iload_n hx hb dX13_step_101 rfl (lv_at hl 1 rfl) ?_
          obtain ⟨v13, hv, hw⟩ := sv_bd hw
          refine sv_rlI hx hb hC.1 rfl hR hv dX13_step_102 ?_
          refine lv_iconst (v := 4) hx hb dX13_step_103 (by decide) ?_
          refine lv_isub hx hb dX13_step_104 ?_
          exact lk_X13_step_105 K hw hR hS (lv_sub hl [0, 1] rfl)
        · have hw := sv_iff cc hw
          refine lv_aload_n hx hb dX13_step_88 rfl (lv_at hl 0 rfl) ?_
          obtain ⟨v14, hv, hw⟩ := sv_bd hw
          refine sv_rgP hx hb hown hC.1 hR (fl_X13_step_46 hts hC hni) rfl (by decide) rfl rfl hv dX13_step_89 ?_
          refine lv_iload_n hx hb dX13_step_92 rfl (lv_at hl 1 rfl) ?_
          obtain ⟨v15, hv, hw⟩ := sv_bd hw
          refine sv_rlI hx hb hC.1 rfl hR hv dX13_step_93 ?_
          refine lv_goto (tgt := 105) hx hb dX13_step_94 (by decide) ?_
          exact lk_X13_step_105 K hw hR hS (lv_sub hl [0, 1] rfl)
      · have hw := sv_iff cc hw
        refine lv_aload_n hx hb dX13_step_51 rfl (lv_at hl 0 rfl) ?_
        refine lv_iload_n hx hb dX13_step_52 rfl (lv_at hl 1 rfl) ?_
        refine lv_iconst (v := 4) hx hb dX13_step_53 (by decide) ?_
        refine lv_aload_n hx hb dX13_step_54 rfl (lv_at hl 0 rfl) ?_
        obtain ⟨v16, hv, hw⟩ := sv_bd hw
        refine sv_rgP hx hb hown hC.1 hR (fl_X13_step_49 hts hC hni) rfl (by decide) rfl rfl hv dX13_step_55 ?_
        refine lv_iload_n hx hb dX13_step_58 rfl (lv_at hl 1 rfl) ?_
        obtain ⟨v17, hv, hw⟩ := sv_bd hw
        refine sv_rlI hx hb hC.1 rfl hR hv dX13_step_59 ?_
        obtain ⟨_, h18, hv1, hw⟩ := sv_b_some hw
        refine sv_call (va_runV (As := [.int x1, .int 4, .int v17]) (rest := []) ⟨hx, hb, hml, hown, hts⟩ (mt_X13_rise l G B hv1) (cwV 3 hts (sv_gV wd_2215 wd_2217 wd_115 wd_147 wd_2218) rfl rfl rfl (by decide +kernel) ⟨Nat.le_of_ble_eq_true rfl, Nat.le_of_ble_eq_true rfl⟩) ⟨sv_blind, sv_recv hC.1 hR (ci := 13) (sv_go hv1).1 (by decide) rfl, fun U hU hW => sv_pre hC hR hS hBs hU hW⟩ rfl rfl hl.1 rfl (lv_room (Nat.le_of_ble_eq_true rfl)) dX13_step_60 ⟨Nat.zero_le _, Nat.zero_le _⟩) hS (fun H locs hR hS => ?_)
        refine lv_goto (tgt := 128) hx hb dX13_step_63 (by decide) ?_
        exact lk_X13_step_128 K hw hR hS (lv_sub hl [] rfl)
    · have hw := sv_ift cc hw
      refine lv_aload_n hx hb dX13_step_27 rfl (lv_at hl 0 rfl) ?_
      refine lv_iload_n hx hb dX13_step_28 rfl (lv_at hl 1 rfl) ?_
      refine lv_iconst (v := 2) hx hb dX13_step_29 (by decide) ?_
      refine lv_aload_n hx hb dX13_step_30 rfl (lv_at hl 0 rfl) ?_
      obtain ⟨v19, hv, hw⟩ := sv_bd hw
      refine sv_rgP hx hb hown hC.1 hR (fl_X13_step_46 hts hC hni) rfl (by decide) rfl rfl hv dX13_step_31 ?_
      refine lv_iload_n hx hb dX13_step_34 rfl (lv_at hl 1 rfl) ?_
      obtain ⟨v20, hv, hw⟩ := sv_bd hw
      refine sv_rlI hx hb hC.1 rfl hR hv dX13_step_35 ?_
      obtain ⟨_, h21, hv2, hw⟩ := sv_b_some hw
      refine sv_call (va_runV (As := [.int x1, .int 2, .int v20]) (rest := []) ⟨hx, hb, hml, hown, hts⟩ (mt_X13_rise l G B hv2) (cwV 3 hts (sv_gV wd_2215 wd_2217 wd_115 wd_147 wd_2218) rfl rfl rfl (by decide +kernel) ⟨Nat.le_of_ble_eq_true rfl, Nat.le_of_ble_eq_true rfl⟩) ⟨sv_blind, sv_recv hC.1 hR (ci := 13) (sv_go hv2).1 (by decide) rfl, fun U hU hW => sv_pre hC hR hS hBs hU hW⟩ rfl rfl hl.1 rfl (lv_room (Nat.le_of_ble_eq_true rfl)) dX13_step_36 ⟨Nat.zero_le _, Nat.zero_le _⟩) hS (fun H locs hR hS => ?_)
      refine lv_goto (tgt := 128) hx hb dX13_step_39 (by decide) ?_
      exact lk_X13_step_128 K hw hR hS (lv_sub hl [] rfl)
  · have hw := sv_ift cc hw
    refine lv_aload_n hx hb dX13_step_9 rfl (lv_at hl 0 rfl) ?_
    refine lv_iload_n hx hb dX13_step_10 rfl (lv_at hl 1 rfl) ?_
    obtain ⟨_, h22, hv3, hw⟩ := sv_b_some hw
    refine sv_call (va_runV (As := [.int x1]) (rest := []) ⟨hx, hb, hml, hown, hts⟩ (mt_X13_stepDoor l G B hv3) (cwV 1 hts (sv_gV wd_2203 wd_2205 wd_112 wd_147 wd_2206) rfl rfl rfl (by decide +kernel) ⟨Nat.le_of_ble_eq_true rfl, Nat.le_of_ble_eq_true rfl⟩) ⟨sv_blind, sv_recv hC.1 hR (ci := 13) (sv_go hv3).1 (by decide) rfl, fun U hU hW => sv_pre hC hR hS hBs hU hW⟩ rfl rfl hl.1 rfl (lv_room (Nat.le_of_ble_eq_true rfl)) dX13_step_11 ⟨Nat.zero_le _, Nat.zero_le _⟩) hS (fun H locs hR hS => ?_)
    refine lv_goto (tgt := 128) hx hb dX13_step_14 (by decide) ?_
    exact lk_X13_step_128 K hw hR hS (lv_sub hl [] rfl)
set_option maxHeartbeats 4000000 in
set_option maxRecDepth 100000 in
theorem mt_X13_step (l : Launch) (G : sv_G) (B : Nat) {x0 : Nat} {x1 : Int32} {h : sv_H} {r : Unit} {hE : sv_H} (hw : fn_X13_step x0 x1 h = some (r, hE)) : Met l yX13_step (.code yX13_step cX13_step 2 none :: sv_tb) rm_X13_step (sv_Pc G B [.ref x0, .int x1] h) (sv_Q G B none hE) 0 0 (fun q => B ≤ q) := by
  refine Met.ofW (cc := cX13_step) (maxL := 2) (ret := none) (by decide +kernel) rfl ?_
  intro p e s m args below meth c s₁ Bd hml hv
  obtain ⟨rfl, hR, hC, hB⟩ := hv
  have hl := lv_entry ([.ref x0, .int x1]) (n := 2) (Nat.le_of_ble_eq_true rfl)
  rw [lg_entry_eq]
  generalize (lg_sl ([.ref x0, .int x1]) ++ List.replicate (2 - (lg_sl ([.ref x0, .int x1])).length) Slot.unset).toArray = ls at hl ⊢
  have hl : lv_has ls 2 [(0, .ref x0), (1, .int x1)] := hl
  exact lk_X13_step_0 ⟨Bd.exec, Bd.bytes, hml, findClass_of_methodNamed Bd.named, fun w h => atoms_spec (ws := .code yX13_step cX13_step 2 none :: sv_tb) Bd.pre w (List.mem_cons_of_mem _ h), hC, Bd.notSynchronized, Bd.returns, hB, (name_of_methodNamed Bd.named Bd.method).1⟩ hw hR va_S.rf hl

def rm_X13_ticks : Room := { frames := 3, cells := 0, slots := 0, locals := 66 }
theorem fl_X13_ticks_37 {s : State} {meth : Method} {args : Array Value} {G : sv_G} {B : Nat} (hts : ∀ w ∈ sv_tb, w.before args s = true) (hC : sv_Cx G B s s.heap) (hni : meth.name = "ticks") : sv_FL s meth args vwCl RX13 37 13 10 (.array .int) false :=
  ⟨_, RX13, TX13, 18, sv_tb, tyX13, rfl, by decide, hts, uw_X13, Or.inl (hts _ wd_1544), fun _ h => h, tyX13_ok 10 (by decide), tyX13_ok, nmX13, fun h => by cases h⟩
theorem fl_X13_ticks_56 {s : State} {meth : Method} {args : Array Value} {G : sv_G} {B : Nat} (hts : ∀ w ∈ sv_tb, w.before args s = true) (hC : sv_Cx G B s s.heap) (hni : meth.name = "ticks") : sv_FL s meth args vwCl RX13 56 13 0 .int true :=
  ⟨_, RX13, TX13, 18, sv_tb, tyX13, rfl, by decide, hts, uw_X13, Or.inl (hts _ wd_1531), fun _ h => h, tyX13_ok 0 (by decide), tyX13_ok, nmX13, fun _ => Or.inl rfl⟩
theorem fl_X13_ticks_43 {s : State} {meth : Method} {args : Array Value} {G : sv_G} {B : Nat} (hts : ∀ w ∈ sv_tb, w.before args s = true) (hC : sv_Cx G B s s.heap) (hni : meth.name = "ticks") : sv_FL s meth args vwCl RX13 43 13 12 (.array .int) false :=
  ⟨_, RX13, TX13, 18, sv_tb, tyX13, rfl, by decide, hts, uw_X13, Or.inl (hts _ wd_1546), fun _ h => h, tyX13_ok 12 (by decide), tyX13_ok, nmX13, fun h => by cases h⟩
theorem fl_X13_ticks_40 {s : State} {meth : Method} {args : Array Value} {G : sv_G} {B : Nat} (hts : ∀ w ∈ sv_tb, w.before args s = true) (hC : sv_Cx G B s s.heap) (hni : meth.name = "ticks") : sv_FL s meth args vwCl RX13 40 13 11 (.array .int) false :=
  ⟨_, RX13, TX13, 18, sv_tb, tyX13, rfl, by decide, hts, uw_X13, Or.inl (hts _ wd_1545), fun _ h => h, tyX13_ok 11 (by decide), tyX13_ok, nmX13, fun h => by cases h⟩
theorem fl_X13_ticks_69 {s : State} {meth : Method} {args : Array Value} {G : sv_G} {B : Nat} (hts : ∀ w ∈ sv_tb, w.before args s = true) (hC : sv_Cx G B s s.heap) (hni : meth.name = "ticks") : sv_FL s meth args vwCl RX13 69 13 15 .int true :=
  ⟨_, RX13, TX13, 18, sv_tb, tyX13, rfl, by decide, hts, uw_X13, Or.inl (hts _ wd_1549), fun _ h => h, tyX13_ok 15 (by decide), tyX13_ok, nmX13, fun _ => Or.inl rfl⟩
set_option maxHeartbeats 4000000 in
set_option maxRecDepth 100000 in
theorem lk_X13_ticks_11 {p : Program} {l : Launch} {e : Env} {s : State} {m : MethodId} {args : Array Value} {below : List Frame} {meth : Method} {c : Code} {G : sv_G} {B : Nat} (K : sv_W p s m args meth c cX13_ticks RX13 4 (some .int) G B "ticks") {r : Int32} {hE : sv_H} {h : sv_H} (hw : fn_X13_ticks_11 h = some (r, hE)) {H : Heap} {locs : List Loc} {ls : Array Slot} (hR : sv_R G vwCl sv_ft B h H) (hS : va_S (fun q => B ≤ q) s.heap H locs) (hl : lv_has ls 4 []) : W p l e rm_X13_ticks s m args below meth c H locs 0 0 (sv_Z below s args G B (some (.int r)) hE) (F0 m 11 ls []) := by
  obtain ⟨hx, hb, hml, hown, hts, hC, hlk, hr, hBs, hni⟩ := id K
  unfold fn_X13_ticks_11 at hw
  refine lv_iconst (v := (-1)) hx hb dX13_ticks_11 (by decide) ?_
  obtain ⟨rfl, rfl⟩ := sv_ret hw
  exact W.iret hx hb hr (fun t ht hW => ⟨⟨rfl, by rw [ht]; exact hR⟩, hS.F ht⟩) hS.2.2 dX13_ticks_12
set_option maxHeartbeats 4000000 in
set_option maxRecDepth 100000 in
theorem lk_X13_ticks_118 {p : Program} {l : Launch} {e : Env} {s : State} {m : MethodId} {args : Array Value} {below : List Frame} {meth : Method} {c : Code} {G : sv_G} {B : Nat} (K : sv_W p s m args meth c cX13_ticks RX13 4 (some .int) G B "ticks") {r : Int32} {hE : sv_H} {k15 : Nat → Int32 → Int32 → sv_H → Option (Int32 × sv_H)} (hk15 : ∀ {x0 : Nat} {x1 : Int32} {x2 : Int32} {h : sv_H}, k15 x0 x1 x2 h = some (r, hE) → ∀ {H : Heap} {locs : List Loc} {ls : Array Slot}, sv_R G vwCl sv_ft B h H → va_S (fun q => B ≤ q) s.heap H locs → lv_has ls 4 [(0, .ref x0), (1, .int x1), (2, .int x2)] → W p l e rm_X13_ticks s m args below meth c H locs 0 0 (sv_Z below s args G B (some (.int r)) hE) (F0 m 15 ls [])) {k32 : Nat → Int32 → Int32 → Int32 → sv_H → Option (Int32 × sv_H)} (hk32 : ∀ {x0 : Nat} {x1 : Int32} {x2 : Int32} {x3 : Int32} {h : sv_H}, k32 x0 x1 x2 x3 h = some (r, hE) → ∀ {H : Heap} {locs : List Loc} {ls : Array Slot}, sv_R G vwCl sv_ft B h H → va_S (fun q => B ≤ q) s.heap H locs → lv_has ls 4 [(0, .ref x0), (1, .int x1), (2, .int x2), (3, .int x3)] → W p l e rm_X13_ticks s m args below meth c H locs 0 0 (sv_Z below s args G B (some (.int r)) hE) (F0 m 32 ls [])) {x0 : Nat} {x1 : Int32} {x2 : Int32} {x3 : Int32} {h : sv_H} (hw : fn_X13_ticks_118 k15 k32 x0 x1 x2 x3 h = some (r, hE)) {H : Heap} {locs : List Loc} {ls : Array Slot} (hR : sv_R G vwCl sv_ft B h H) (hS : va_S (fun q => B ≤ q) s.heap H locs) (hl : lv_has ls 4 [(0, .ref x0), (1, .int x1), (2, .int x2), (3, .int x3)]) : W p l e rm_X13_ticks s m args below meth c H locs 0 0 (sv_Z below s args G B (some (.int r)) hE) (F0 m 118 ls []) := by
  obtain ⟨hx, hb, hml, hown, hts, hC, hlk, hr, hBs, hni⟩ := id K
  unfold fn_X13_ticks_118 at hw
  refine lv_iinc (v := x3 + 1) (lv' := [(3, .int (x3 + 1)), (0, .ref x0), (1, .int x1), (2, .int x2)]) hx hb dX13_ticks_118 hl (k := 3) rfl rfl (by decide) rfl (fun ls hl => ?_)
  refine lv_goto (tgt := 32) hx hb dX13_ticks_121 (by decide) ?_
  exact hk32 hw hR hS (lv_sub hl [1, 2, 3, 0] rfl)
set_option maxHeartbeats 4000000 in
set_option maxRecDepth 100000 in
theorem lk_X13_ticks_104 {p : Program} {l : Launch} {e : Env} {s : State} {m : MethodId} {args : Array Value} {below : List Frame} {meth : Method} {c : Code} {G : sv_G} {B : Nat} (K : sv_W p s m args meth c cX13_ticks RX13 4 (some .int) G B "ticks") {r : Int32} {hE : sv_H} {k15 : Nat → Int32 → Int32 → sv_H → Option (Int32 × sv_H)} (hk15 : ∀ {x0 : Nat} {x1 : Int32} {x2 : Int32} {h : sv_H}, k15 x0 x1 x2 h = some (r, hE) → ∀ {H : Heap} {locs : List Loc} {ls : Array Slot}, sv_R G vwCl sv_ft B h H → va_S (fun q => B ≤ q) s.heap H locs → lv_has ls 4 [(0, .ref x0), (1, .int x1), (2, .int x2)] → W p l e rm_X13_ticks s m args below meth c H locs 0 0 (sv_Z below s args G B (some (.int r)) hE) (F0 m 15 ls [])) {k32 : Nat → Int32 → Int32 → Int32 → sv_H → Option (Int32 × sv_H)} (hk32 : ∀ {x0 : Nat} {x1 : Int32} {x2 : Int32} {x3 : Int32} {h : sv_H}, k32 x0 x1 x2 x3 h = some (r, hE) → ∀ {H : Heap} {locs : List Loc} {ls : Array Slot}, sv_R G vwCl sv_ft B h H → va_S (fun q => B ≤ q) s.heap H locs → lv_has ls 4 [(0, .ref x0), (1, .int x1), (2, .int x2), (3, .int x3)] → W p l e rm_X13_ticks s m args below meth c H locs 0 0 (sv_Z below s args G B (some (.int r)) hE) (F0 m 32 ls [])) {x0 : Nat} {x1 : Int32} {x2 : Int32} {x3 : Int32} {h : sv_H} (hw : fn_X13_ticks_104 k15 k32 x0 x1 x2 x3 h = some (r, hE)) {H : Heap} {locs : List Loc} {ls : Array Slot} (hR : sv_R G vwCl sv_ft B h H) (hS : va_S (fun q => B ≤ q) s.heap H locs) (hl : lv_has ls 4 [(0, .ref x0), (1, .int x1), (2, .int x2), (3, .int x3)]) : W p l e rm_X13_ticks s m args below meth c H locs 0 0 (sv_Z below s args G B (some (.int r)) hE) (F0 m 104 ls []) := by
  obtain ⟨hx, hb, hml, hown, hts, hC, hlk, hr, hBs, hni⟩ := id K
  unfold fn_X13_ticks_104 at hw
  refine lv_aload_n hx hb dX13_ticks_104 rfl (lv_at hl 0 rfl) ?_
  obtain ⟨v1, hv, hw⟩ := sv_bd hw
  refine sv_rgP hx hb hown hC.1 hR (fl_X13_ticks_37 hts hC hni) rfl (by decide) rfl rfl hv dX13_ticks_105 ?_
  refine lv_iload_n hx hb dX13_ticks_108 rfl (lv_at hl 3 rfl) ?_
  obtain ⟨v2, hv, hw⟩ := sv_bd hw
  refine sv_rlI hx hb hC.1 rfl hR hv dX13_ticks_109 ?_
  refine lv_if_lt (tgt := 118) hx hb dX13_ticks_110 (by decide) (fun cc => ?_) (fun cc => ?_)
  · have hw := sv_ift cc hw
    exact lk_X13_ticks_118 K hk15 hk32 hw hR hS (lv_sub hl [0, 1, 2, 3] rfl)
  · have hw := sv_iff cc hw
    refine lv_aload_n hx hb dX13_ticks_113 rfl (lv_at hl 0 rfl) ?_
    refine lv_iload_n hx hb dX13_ticks_114 rfl (lv_at hl 3 rfl) ?_
    obtain ⟨_, h3, hv1, hw⟩ := sv_b_some hw
    refine sv_call (va_runV (As := [.int x3]) (rest := []) ⟨hx, hb, hml, hown, hts⟩ (mt_X13_step l G B hv1) (cwV 1 hts (sv_gV wd_2199 wd_2201 wd_111 wd_147 wd_2202) rfl rfl rfl (by decide +kernel) ⟨Nat.le_of_ble_eq_true rfl, Nat.le_of_ble_eq_true rfl⟩) ⟨sv_blind, sv_recv hC.1 hR (ci := 13) (sv_go hv1).1 (by decide) rfl, fun U hU hW => sv_pre hC hR hS hBs hU hW⟩ rfl rfl hl.1 rfl (lv_room (Nat.le_of_ble_eq_true rfl)) dX13_ticks_115 ⟨Nat.zero_le _, Nat.zero_le _⟩) hS (fun H locs hR hS => ?_)
    exact lk_X13_ticks_118 K hk15 hk32 hw hR hS (lv_sub hl [0, 1, 2, 3] rfl)
set_option maxHeartbeats 4000000 in
set_option maxRecDepth 100000 in
theorem lk_X13_ticks_100 {p : Program} {l : Launch} {e : Env} {s : State} {m : MethodId} {args : Array Value} {below : List Frame} {meth : Method} {c : Code} {G : sv_G} {B : Nat} (K : sv_W p s m args meth c cX13_ticks RX13 4 (some .int) G B "ticks") {r : Int32} {hE : sv_H} {k15 : Nat → Int32 → Int32 → sv_H → Option (Int32 × sv_H)} (hk15 : ∀ {x0 : Nat} {x1 : Int32} {x2 : Int32} {h : sv_H}, k15 x0 x1 x2 h = some (r, hE) → ∀ {H : Heap} {locs : List Loc} {ls : Array Slot}, sv_R G vwCl sv_ft B h H → va_S (fun q => B ≤ q) s.heap H locs → lv_has ls 4 [(0, .ref x0), (1, .int x1), (2, .int x2)] → W p l e rm_X13_ticks s m args below meth c H locs 0 0 (sv_Z below s args G B (some (.int r)) hE) (F0 m 15 ls [])) {k32 : Nat → Int32 → Int32 → Int32 → sv_H → Option (Int32 × sv_H)} (hk32 : ∀ {x0 : Nat} {x1 : Int32} {x2 : Int32} {x3 : Int32} {h : sv_H}, k32 x0 x1 x2 x3 h = some (r, hE) → ∀ {H : Heap} {locs : List Loc} {ls : Array Slot}, sv_R G vwCl sv_ft B h H → va_S (fun q => B ≤ q) s.heap H locs → lv_has ls 4 [(0, .ref x0), (1, .int x1), (2, .int x2), (3, .int x3)] → W p l e rm_X13_ticks s m args below meth c H locs 0 0 (sv_Z below s args G B (some (.int r)) hE) (F0 m 32 ls [])) {x0 : Nat} {x1 : Int32} {x2 : Int32} {x3 : Int32} {s0 : Nat} {s1 : Int32} {s2 : Int32} {h : sv_H} (hw : fn_X13_ticks_100 k15 k32 x0 x1 x2 x3 s0 s1 s2 h = some (r, hE)) {H : Heap} {locs : List Loc} {ls : Array Slot} (hR : sv_R G vwCl sv_ft B h H) (hS : va_S (fun q => B ≤ q) s.heap H locs) (hl : lv_has ls 4 [(0, .ref x0), (1, .int x1), (2, .int x2), (3, .int x3)]) : W p l e rm_X13_ticks s m args below meth c H locs 0 0 (sv_Z below s args G B (some (.int r)) hE) (F0 m 100 ls [.int s2, .int s1, .ref s0]) := by
  obtain ⟨hx, hb, hml, hown, hts, hC, hlk, hr, hBs, hni⟩ := id K
  unfold fn_X13_ticks_100 at hw
  obtain ⟨h1, hv, hw⟩ := sv_bd hw
  refine sv_rsI hx hb hC.1 rfl hR hS hv dX13_ticks_100 (fun H locs hR hS => ?_)
  refine lv_goto (tgt := 118) hx hb dX13_ticks_101 (by decide) ?_
  exact lk_X13_ticks_118 K hk15 hk32 hw hR hS (lv_sub hl [0, 1, 2, 3] rfl)
set_option maxHeartbeats 4000000 in
set_option maxRecDepth 100000 in
theorem lk_X13_ticks_32b {p : Program} {l : Launch} {e : Env} {s : State} {m : MethodId} {args : Array Value} {below : List Frame} {meth : Method} {c : Code} {G : sv_G} {B : Nat} (K : sv_W p s m args meth c cX13_ticks RX13 4 (some .int) G B "ticks") {r : Int32} {hE : sv_H} {k15 : Nat → Int32 → Int32 → sv_H → Option (Int32 × sv_H)} (hk15 : ∀ {x0 : Nat} {x1 : Int32} {x2 : Int32} {h : sv_H}, k15 x0 x1 x2 h = some (r, hE) → ∀ {H : Heap} {locs : List Loc} {ls : Array Slot}, sv_R G vwCl sv_ft B h H → va_S (fun q => B ≤ q) s.heap H locs → lv_has ls 4 [(0, .ref x0), (1, .int x1), (2, .int x2)] → W p l e rm_X13_ticks s m args below meth c H locs 0 0 (sv_Z below s args G B (some (.int r)) hE) (F0 m 15 ls [])) {k32 : Nat → Int32 → Int32 → Int32 → sv_H → Option (Int32 × sv_H)} (hk32 : ∀ {x0 : Nat} {x1 : Int32} {x2 : Int32} {x3 : Int32} {h : sv_H}, k32 x0 x1 x2 x3 h = some (r, hE) → ∀ {H : Heap} {locs : List Loc} {ls : Array Slot}, sv_R G vwCl sv_ft B h H → va_S (fun q => B ≤ q) s.heap H locs → lv_has ls 4 [(0, .ref x0), (1, .int x1), (2, .int x2), (3, .int x3)] → W p l e rm_X13_ticks s m args below meth c H locs 0 0 (sv_Z below s args G B (some (.int r)) hE) (F0 m 32 ls [])) {x0 : Nat} {x1 : Int32} {x2 : Int32} {x3 : Int32} {h : sv_H} (hw : fn_X13_ticks_32b k15 k32 x0 x1 x2 x3 h = some (r, hE)) {H : Heap} {locs : List Loc} {ls : Array Slot} (hR : sv_R G vwCl sv_ft B h H) (hS : va_S (fun q => B ≤ q) s.heap H locs) (hl : lv_has ls 4 [(0, .ref x0), (1, .int x1), (2, .int x2), (3, .int x3)]) : W p l e rm_X13_ticks s m args below meth c H locs 0 0 (sv_Z below s args G B (some (.int r)) hE) (F0 m 32 ls []) := by
  obtain ⟨hx, hb, hml, hown, hts, hC, hlk, hr, hBs, hni⟩ := id K
  unfold fn_X13_ticks_32b at hw
  refine lv_iload_n hx hb dX13_ticks_32 rfl (lv_at hl 3 rfl) ?_
  refine lv_aload_n hx hb dX13_ticks_33 rfl (lv_at hl 0 rfl) ?_
  obtain ⟨v1, hv, hw⟩ := sv_bd hw
  refine sv_rgI hx hb hown hC.1 hR (fl_X13_ticks_56 hts hC hni) rfl (by decide) rfl rfl hv dX13_ticks_34 ?_
  refine lv_icmp_ge (tgt := 124) hx hb dX13_ticks_37 (by decide) (fun cc => ?_) (fun cc => ?_)
  · have hw := sv_ift cc hw
    refine lv_iinc (v := x2 + 1) (lv' := [(2, .int (x2 + 1)), (0, .ref x0), (1, .int x1), (3, .int x3)]) hx hb dX13_ticks_124 hl (k := 2) rfl rfl (by decide) rfl (fun ls hl => ?_)
    refine lv_goto (tgt := 15) hx hb dX13_ticks_127 (by decide) ?_
    exact hk15 hw hR hS (lv_sub hl [1, 2, 0] rfl)
  · have hw := sv_iff cc hw
    refine lv_aload_n hx hb dX13_ticks_40 rfl (lv_at hl 0 rfl) ?_
    obtain ⟨v2, hv, hw⟩ := sv_bd hw
    refine sv_rgP hx hb hown hC.1 hR (fl_X13_ticks_37 hts hC hni) rfl (by decide) rfl rfl hv dX13_ticks_41 ?_
    refine lv_iload_n hx hb dX13_ticks_44 rfl (lv_at hl 3 rfl) ?_
    obtain ⟨v3, hv, hw⟩ := sv_bd hw
    refine sv_rlI hx hb hC.1 rfl hR hv dX13_ticks_45 ?_
    refine lv_if_lt (tgt := 104) hx hb dX13_ticks_46 (by decide) (fun cc => ?_) (fun cc => ?_)
    · have hw := sv_ift cc hw
      exact lk_X13_ticks_104 K hk15 hk32 hw hR hS (lv_sub hl [0, 1, 2, 3] rfl)
    · have hw := sv_iff cc hw
      refine lv_aload_n hx hb dX13_ticks_49 rfl (lv_at hl 0 rfl) ?_
      obtain ⟨v4, hv, hw⟩ := sv_bd hw
      refine sv_rgP hx hb hown hC.1 hR (fl_X13_ticks_43 hts hC hni) rfl (by decide) rfl rfl hv dX13_ticks_50 ?_
      refine lv_iload_n hx hb dX13_ticks_53 rfl (lv_at hl 3 rfl) ?_
      obtain ⟨v5, hv, hw⟩ := sv_bd hw
      refine sv_rlI hx hb hC.1 rfl hR hv dX13_ticks_54 ?_
      refine lv_if_le (tgt := 104) hx hb dX13_ticks_55 (by decide) (fun cc => ?_) (fun cc => ?_)
      · have hw := sv_ift cc hw
        exact lk_X13_ticks_104 K hk15 hk32 hw hR hS (lv_sub hl [0, 1, 2, 3] rfl)
      · have hw := sv_iff cc hw
        refine lv_aload_n hx hb dX13_ticks_58 rfl (lv_at hl 0 rfl) ?_
        obtain ⟨v6, hv, hw⟩ := sv_bd hw
        refine sv_rgP hx hb hown hC.1 hR (fl_X13_ticks_43 hts hC hni) rfl (by decide) rfl rfl hv dX13_ticks_59 ?_
        refine lv_iload_n hx hb dX13_ticks_62 rfl (lv_at hl 3 rfl) ?_
        refine lv_dup2_11 hx hb dX13_ticks_63 rfl rfl ?_
        obtain ⟨v7, hv, hw⟩ := sv_bd hw
        refine sv_rlI hx hb hC.1 rfl hR hv dX13_ticks_64 ?_
        refine lv_iconst (v := 1) hx hb dX13_ticks_65 (by decide) ?_
        refine lv_isub hx hb dX13_ticks_66 ?_
        obtain ⟨h8, hv, hw⟩ := sv_bd hw
        refine sv_rsI hx hb hC.1 rfl hR hS hv dX13_ticks_67 (fun H locs hR hS => ?_)
        refine lv_aload_n hx hb dX13_ticks_68 rfl (lv_at hl 0 rfl) ?_
        obtain ⟨v9, hv, hw⟩ := sv_bd hw
        refine sv_rgP hx hb hown hC.1 hR (fl_X13_ticks_40 hts hC hni) rfl (by decide) rfl rfl hv dX13_ticks_69 ?_
        refine lv_iload_n hx hb dX13_ticks_72 rfl (lv_at hl 3 rfl) ?_
        refine lv_aload_n hx hb dX13_ticks_73 rfl (lv_at hl 0 rfl) ?_
        obtain ⟨v10, hv, hw⟩ := sv_bd hw
        refine sv_rgP hx hb hown hC.1 hR (fl_X13_ticks_43 hts hC hni) rfl (by decide) rfl rfl hv dX13_ticks_74 ?_
        refine lv_iload_n hx hb dX13_ticks_77 rfl (lv_at hl 3 rfl) ?_
        obtain ⟨v11, hv, hw⟩ := sv_bd hw
        refine sv_rlI hx hb hC.1 rfl hR hv dX13_ticks_78 ?_
        refine lv_if_le (tgt := 86) hx hb dX13_ticks_79 (by decide) (fun cc => ?_) (fun cc => ?_)
        · have hw := sv_ift cc hw
          refine lv_aload_n hx hb dX13_ticks_86 rfl (lv_at hl 0 rfl) ?_
          obtain ⟨v12, hv, hw⟩ := sv_bd hw
          refine sv_rgP hx hb hown hC.1 hR (fl_X13_ticks_37 hts hC hni) rfl (by decide) rfl rfl hv dX13_ticks_87 ?_
          refine lv_iload_n hx hb dX13_ticks_90 rfl (lv_at hl 3 rfl) ?_
          obtain ⟨v13, hv, hw⟩ := sv_bd hw
          refine sv_rlI hx hb hC.1 rfl hR hv dX13_ticks_91 ?_
          refine lv_if_ne (tgt := 99) hx hb dX13_ticks_92 (by decide) (fun cc => ?_) (fun cc => ?_)
          · have hw := sv_iff cc hw
            refine lv_iconst (v := 1) hx hb dX13_ticks_99 (by decide) ?_
            exact lk_X13_ticks_100 K hk15 hk32 hw hR hS (lv_sub hl [0, 1, 2, 3] rfl)
          · have hw := sv_ift cc hw
            refine lv_iconst (v := (-1)) hx hb dX13_ticks_95 (by decide) ?_
            refine lv_goto (tgt := 100) hx hb dX13_ticks_96 (by decide) ?_
            exact lk_X13_ticks_100 K hk15 hk32 hw hR hS (lv_sub hl [0, 1, 2, 3] rfl)
        · have hw := sv_iff cc hw
          refine lv_iconst (v := 0) hx hb dX13_ticks_82 (by decide) ?_
          refine lv_goto (tgt := 100) hx hb dX13_ticks_83 (by decide) ?_
          exact lk_X13_ticks_100 K hk15 hk32 hw hR hS (lv_sub hl [0, 1, 2, 3] rfl)
theorem lk_X13_ticks_32 {p : Program} {l : Launch} {e : Env} {s : State} {m : MethodId} {args : Array Value} {below : List Frame} {meth : Method} {c : Code} {G : sv_G} {B : Nat} (K : sv_W p s m args meth c cX13_ticks RX13 4 (some .int) G B "ticks") {r : Int32} {hE : sv_H} {k15 : Nat → Int32 → Int32 → sv_H → Option (Int32 × sv_H)} (hk15 : ∀ {x0 : Nat} {x1 : Int32} {x2 : Int32} {h : sv_H}, k15 x0 x1 x2 h = some (r, hE) → ∀ {H : Heap} {locs : List Loc} {ls : Array Slot}, sv_R G vwCl sv_ft B h H → va_S (fun q => B ≤ q) s.heap H locs → lv_has ls 4 [(0, .ref x0), (1, .int x1), (2, .int x2)] → W p l e rm_X13_ticks s m args below meth c H locs 0 0 (sv_Z below s args G B (some (.int r)) hE) (F0 m 15 ls [])) : ∀ (n : Nat) {x0 : Nat} {x1 : Int32} {x2 : Int32} {x3 : Int32} {h : sv_H}, fn_X13_ticks_32 k15 n x0 x1 x2 x3 h = some (r, hE) → ∀ {H : Heap} {locs : List Loc} {ls : Array Slot}, sv_R G vwCl sv_ft B h H → va_S (fun q => B ≤ q) s.heap H locs → lv_has ls 4 [(0, .ref x0), (1, .int x1), (2, .int x2), (3, .int x3)] → W p l e rm_X13_ticks s m args below meth c H locs 0 0 (sv_Z below s args G B (some (.int r)) hE) (F0 m 32 ls []) := by
  intro n
  induction n with
  | zero => intro x0 x1 x2 x3 h hw; cases (show (none : Option (Int32 × sv_H)) = some (r, hE) from hw)
  | succ n ih => intro x0 x1 x2 x3 h hw H locs ls hR hS hl; exact lk_X13_ticks_32b K hk15 (fun hw => ih hw) hw hR hS hl
set_option maxHeartbeats 4000000 in
set_option maxRecDepth 100000 in
theorem lk_X13_ticks_15b {p : Program} {l : Launch} {e : Env} {s : State} {m : MethodId} {args : Array Value} {below : List Frame} {meth : Method} {c : Code} {G : sv_G} {B : Nat} (K : sv_W p s m args meth c cX13_ticks RX13 4 (some .int) G B "ticks") {r : Int32} {hE : sv_H} {k15 : Nat → Int32 → Int32 → sv_H → Option (Int32 × sv_H)} (hk15 : ∀ {x0 : Nat} {x1 : Int32} {x2 : Int32} {h : sv_H}, k15 x0 x1 x2 h = some (r, hE) → ∀ {H : Heap} {locs : List Loc} {ls : Array Slot}, sv_R G vwCl sv_ft B h H → va_S (fun q => B ≤ q) s.heap H locs → lv_has ls 4 [(0, .ref x0), (1, .int x1), (2, .int x2)] → W p l e rm_X13_ticks s m args below meth c H locs 0 0 (sv_Z below s args G B (some (.int r)) hE) (F0 m 15 ls [])) {x0 : Nat} {x1 : Int32} {x2 : Int32} {h : sv_H} (hw : fn_X13_ticks_15b k15 x0 x1 x2 h = some (r, hE)) {H : Heap} {locs : List Loc} {ls : Array Slot} (hR : sv_R G vwCl sv_ft B h H) (hS : va_S (fun q => B ≤ q) s.heap H locs) (hl : lv_has ls 4 [(0, .ref x0), (1, .int x1), (2, .int x2)]) : W p l e rm_X13_ticks s m args below meth c H locs 0 0 (sv_Z below s args G B (some (.int r)) hE) (F0 m 15 ls []) := by
  obtain ⟨hx, hb, hml, hown, hts, hC, hlk, hr, hBs, hni⟩ := id K
  unfold fn_X13_ticks_15b at hw
  refine lv_iload_n hx hb dX13_ticks_15 rfl (lv_at hl 2 rfl) ?_
  refine lv_iload_n hx hb dX13_ticks_16 rfl (lv_at hl 1 rfl) ?_
  refine lv_icmp_ge (tgt := 130) hx hb dX13_ticks_17 (by decide) (fun cc => ?_) (fun cc => ?_)
  · have hw := sv_ift cc hw
    refine lv_aload_n hx hb dX13_ticks_130 rfl (lv_at hl 0 rfl) ?_
    obtain ⟨v1, hv, hw⟩ := sv_bd hw
    refine sv_rgI hx hb hown hC.1 hR (fl_X13_ticks_69 hts hC hni) rfl (by decide) rfl rfl hv dX13_ticks_131 ?_
    obtain ⟨rfl, rfl⟩ := sv_ret hw
    exact W.iret hx hb hr (fun t ht hW => ⟨⟨rfl, by rw [ht]; exact hR⟩, hS.F ht⟩) hS.2.2 dX13_ticks_134
  · have hw := sv_iff cc hw
    refine lv_aload_n hx hb dX13_ticks_20 rfl (lv_at hl 0 rfl) ?_
    refine lv_dup hx hb dX13_ticks_21 rfl ?_
    obtain ⟨v2, hv, hw⟩ := sv_bd hw
    refine sv_rgI hx hb hown hC.1 hR (fl_X13_ticks_69 hts hC hni) rfl (by decide) rfl rfl hv dX13_ticks_22 ?_
    refine lv_iconst (v := 1) hx hb dX13_ticks_25 (by decide) ?_
    refine lv_iadd hx hb dX13_ticks_26 ?_
    obtain ⟨h3, hv, hw⟩ := sv_bd hw
    refine sv_rpI hx hb hown hC.1 hR hS (fl_X13_ticks_69 hts hC hni) rfl (by decide) rfl rfl hv dX13_ticks_27 (fun H locs hR hS => ?_)
    refine lv_iconst (v := 0) hx hb dX13_ticks_30 (by decide) ?_
    refine lv_istore_n (lv' := [(3, .int 0), (0, .ref x0), (1, .int x1), (2, .int x2)]) hx hb dX13_ticks_31 rfl hl (by decide) rfl (fun ls hl => ?_)
    exact lk_X13_ticks_32 K hk15 sv_fuel hw hR hS (lv_sub hl [1, 2, 3, 0] rfl)
theorem lk_X13_ticks_15 {p : Program} {l : Launch} {e : Env} {s : State} {m : MethodId} {args : Array Value} {below : List Frame} {meth : Method} {c : Code} {G : sv_G} {B : Nat} (K : sv_W p s m args meth c cX13_ticks RX13 4 (some .int) G B "ticks") {r : Int32} {hE : sv_H} : ∀ (n : Nat) {x0 : Nat} {x1 : Int32} {x2 : Int32} {h : sv_H}, fn_X13_ticks_15 n x0 x1 x2 h = some (r, hE) → ∀ {H : Heap} {locs : List Loc} {ls : Array Slot}, sv_R G vwCl sv_ft B h H → va_S (fun q => B ≤ q) s.heap H locs → lv_has ls 4 [(0, .ref x0), (1, .int x1), (2, .int x2)] → W p l e rm_X13_ticks s m args below meth c H locs 0 0 (sv_Z below s args G B (some (.int r)) hE) (F0 m 15 ls []) := by
  intro n
  induction n with
  | zero => intro x0 x1 x2 h hw; cases (show (none : Option (Int32 × sv_H)) = some (r, hE) from hw)
  | succ n ih => intro x0 x1 x2 h hw H locs ls hR hS hl; exact lk_X13_ticks_15b K (fun hw => ih hw) hw hR hS hl
set_option maxHeartbeats 4000000 in
set_option maxRecDepth 100000 in
theorem lk_X13_ticks_0 {p : Program} {l : Launch} {e : Env} {s : State} {m : MethodId} {args : Array Value} {below : List Frame} {meth : Method} {c : Code} {G : sv_G} {B : Nat} (K : sv_W p s m args meth c cX13_ticks RX13 4 (some .int) G B "ticks") {r : Int32} {hE : sv_H} {x0 : Nat} {x1 : Int32} {h : sv_H} (hw : fn_X13_ticks x0 x1 h = some (r, hE)) {H : Heap} {locs : List Loc} {ls : Array Slot} (hR : sv_R G vwCl sv_ft B h H) (hS : va_S (fun q => B ≤ q) s.heap H locs) (hl : lv_has ls 4 [(0, .ref x0), (1, .int x1)]) : W p l e rm_X13_ticks s m args below meth c H locs 0 0 (sv_Z below s args G B (some (.int r)) hE) (F0 m 0 ls []) := by
  obtain ⟨hx, hb, hml, hown, hts, hC, hlk, hr, hBs, hni⟩ := id K
  unfold fn_X13_ticks at hw
  have hw := (sv_go hw).2
  refine lv_iload_n hx hb dX13_ticks_0 rfl (lv_at hl 1 rfl) ?_
  refine lv_if_lt (tgt := 11) hx hb dX13_ticks_1 (by decide) (fun cc => ?_) (fun cc => ?_)
  · have hw := sv_ift cc hw
    exact lk_X13_ticks_11 K hw hR hS (lv_sub hl [] rfl)
  · have hw := sv_iff cc hw
    refine lv_iload_n hx hb dX13_ticks_4 rfl (lv_at hl 1 rfl) ?_
    refine lv_sipush (v := 1000) hx hb dX13_ticks_5 (by decide) ?_
    refine lv_icmp_le (tgt := 13) hx hb dX13_ticks_8 (by decide) (fun cc => ?_) (fun cc => ?_)
    · have hw := sv_ift cc hw
      refine lv_iconst (v := 0) hx hb dX13_ticks_13 (by decide) ?_
      refine lv_istore_n (lv' := [(2, .int 0), (0, .ref x0), (1, .int x1)]) hx hb dX13_ticks_14 rfl hl (by decide) rfl (fun ls hl => ?_)
      exact lk_X13_ticks_15 K sv_fuel hw hR hS (lv_sub hl [1, 2, 0] rfl)
    · have hw := sv_iff cc hw
      exact lk_X13_ticks_11 K hw hR hS (lv_sub hl [] rfl)
set_option maxHeartbeats 4000000 in
set_option maxRecDepth 100000 in
theorem mt_X13_ticks (l : Launch) (G : sv_G) (B : Nat) {x0 : Nat} {x1 : Int32} {h : sv_H} {r : Int32} {hE : sv_H} (hw : fn_X13_ticks x0 x1 h = some (r, hE)) : Met l yX13_ticks (.code yX13_ticks cX13_ticks 4 (some .int) :: sv_tb) rm_X13_ticks (sv_Pc G B [.ref x0, .int x1] h) (sv_Q G B (some (.int r)) hE) 0 0 (fun q => B ≤ q) := by
  refine Met.ofW (cc := cX13_ticks) (maxL := 4) (ret := (some .int)) (by decide +kernel) rfl ?_
  intro p e s m args below meth c s₁ Bd hml hv
  obtain ⟨rfl, hR, hC, hB⟩ := hv
  have hl := lv_entry ([.ref x0, .int x1]) (n := 4) (Nat.le_of_ble_eq_true rfl)
  rw [lg_entry_eq]
  generalize (lg_sl ([.ref x0, .int x1]) ++ List.replicate (4 - (lg_sl ([.ref x0, .int x1])).length) Slot.unset).toArray = ls at hl ⊢
  have hl : lv_has ls 4 [(0, .ref x0), (1, .int x1)] := hl
  exact lk_X13_ticks_0 ⟨Bd.exec, Bd.bytes, hml, findClass_of_methodNamed Bd.named, fun w h => atoms_spec (ws := .code yX13_ticks cX13_ticks 4 (some .int) :: sv_tb) Bd.pre w (List.mem_cons_of_mem _ h), hC, Bd.notSynchronized, Bd.returns, hB, (name_of_methodNamed Bd.named Bd.method).1⟩ hw hR va_S.rf hl

def rm_X17_go : Room := { frames := 9, cells := 0, slots := 0, locals := 205 }
theorem fl_X17_go_26 {s : State} {meth : Method} {args : Array Value} {G : sv_G} {B : Nat} (hts : ∀ w ∈ sv_tb, w.before args s = true) (hC : sv_Cx G B s s.heap) (hni : meth.name = "go") : sv_FL s meth args vwCl RX17 26 17 3 (.object "SectorViewModel$Hall") false :=
  ⟨_, RX17, TX17, 29, sv_tb, tyX17, rfl, by decide, hts, uw_X17, Or.inl (hts _ wd_1694), fun _ h => h, tyX17_ok 3 (by decide), tyX17_ok, nmX17, fun h => by cases h⟩
theorem fl_X17_go_224 {s : State} {meth : Method} {args : Array Value} {G : sv_G} {B : Nat} (hts : ∀ w ∈ sv_tb, w.before args s = true) (hC : sv_Cx G B s s.heap) (hni : meth.name = "go") : sv_FL s meth args vwCl RX17 224 17 14 .int true :=
  ⟨_, RX17, TX17, 29, sv_tb, tyX17, rfl, by decide, hts, uw_X17, Or.inl (hts _ wd_1705), fun _ h => h, tyX17_ok 14 (by decide), tyX17_ok, nmX17, fun _ => Or.inl rfl⟩
theorem fl_X17_go_337 {s : State} {meth : Method} {args : Array Value} {G : sv_G} {B : Nat} (hts : ∀ w ∈ sv_tb, w.before args s = true) (hC : sv_Cx G B s s.heap) (hni : meth.name = "go") : sv_FL s meth args vwCl RX17 337 13 16 .int true :=
  ⟨_, RX13, TX13, 18, sv_tb, tyX13, rfl, by decide, hts, uw_X13, Or.inr ⟨"SectorViewModel", Or.inl ⟨rfl, va_Nw.use rfl (hC.2.1 (.fieldLinkNest "SectorViewModel" 337 "SectorViewModel$Hall" "guest" "I" "SectorViewModel") (by decide +kernel))⟩⟩, fun _ h => h, tyX13_ok 16 (by decide), tyX13_ok, nmX13, fun _ => Or.inl rfl⟩
theorem fl_X17_go_265 {s : State} {meth : Method} {args : Array Value} {G : sv_G} {B : Nat} (hts : ∀ w ∈ sv_tb, w.before args s = true) (hC : sv_Cx G B s s.heap) (hni : meth.name = "go") : sv_FL s meth args vwCl RX17 265 17 13 .int true :=
  ⟨_, RX17, TX17, 29, sv_tb, tyX17, rfl, by decide, hts, uw_X17, Or.inl (hts _ wd_1704), fun _ h => h, tyX17_ok 13 (by decide), tyX17_ok, nmX17, fun _ => Or.inl rfl⟩
set_option maxHeartbeats 4000000 in
set_option maxRecDepth 100000 in
theorem lk_X17_go_121 {p : Program} {l : Launch} {e : Env} {s : State} {m : MethodId} {args : Array Value} {below : List Frame} {meth : Method} {c : Code} {G : sv_G} {B : Nat} (K : sv_W p s m args meth c cX17_go RX17 9 (some .int) G B "go") {r : Int32} {hE : sv_H} {x0 : Nat} {x7 : Int32} {h : sv_H} (hw : fn_X17_go_121 x0 x7 h = some (r, hE)) {H : Heap} {locs : List Loc} {ls : Array Slot} (hR : sv_R G vwCl sv_ft B h H) (hS : va_S (fun q => B ≤ q) s.heap H locs) (hl : lv_has ls 9 [(0, .ref x0), (7, .int x7)]) : W p l e rm_X17_go s m args below meth c H locs 0 0 (sv_Z below s args G B (some (.int r)) hE) (F0 m 121 ls []) := by
  obtain ⟨hx, hb, hml, hown, hts, hC, hlk, hr, hBs, hni⟩ := id K
  unfold fn_X17_go_121 at hw
  refine lv_aload_n hx hb dX17_go_121 rfl (lv_at hl 0 rfl) ?_
  obtain ⟨v1, hv, hw⟩ := sv_bd hw
  refine sv_rgP hx hb hown hC.1 hR (fl_X17_go_26 hts hC hni) rfl (by decide) rfl rfl hv dX17_go_122 ?_
  refine lv_aload_n hx hb dX17_go_125 rfl (lv_at hl 0 rfl) ?_
  obtain ⟨v2, hv, hw⟩ := sv_bd hw
  refine sv_rgI hx hb hown hC.1 hR (fl_X17_go_224 hts hC hni) rfl (by decide) rfl rfl hv dX17_go_126 ?_
  obtain ⟨h3, hv, hw⟩ := sv_bd hw
  refine sv_rpI hx hb hown hC.1 hR hS (fl_X17_go_337 hts hC hni) rfl (by decide) rfl rfl hv dX17_go_129 (fun H locs hR hS => ?_)
  refine lv_aload_n hx hb dX17_go_132 rfl (lv_at hl 0 rfl) ?_
  obtain ⟨v4, hv, hw⟩ := sv_bd hw
  refine sv_rgP hx hb hown hC.1 hR (fl_X17_go_26 hts hC hni) rfl (by decide) rfl rfl hv dX17_go_133 ?_
  refine lv_iconst (v := 1) hx hb dX17_go_136 (by decide) ?_
  obtain ⟨r5, h6, hv1, hw⟩ := sv_b_some hw
  refine sv_call (va_runV (As := [.int 1]) (rest := []) ⟨hx, hb, hml, hown, hts⟩ (mt_X13_ticks l G B hv1) (cwV 1 hts (sv_gV wd_2195 wd_2196 wd_2197 wd_147 wd_2198) rfl rfl rfl (by decide +kernel) ⟨Nat.le_of_ble_eq_true rfl, Nat.le_of_ble_eq_true rfl⟩) ⟨sv_blind, sv_recv hC.1 hR (ci := 13) (sv_go hv1).1 (by decide) rfl, fun U hU hW => sv_pre hC hR hS hBs hU hW⟩ rfl rfl hl.1 rfl (lv_room (Nat.le_of_ble_eq_true rfl)) dX17_go_137 ⟨Nat.zero_le _, Nat.zero_le _⟩) hS (fun H locs hR hS => ?_)
  refine lv_istore (lv' := [(8, .int r5), (0, .ref x0), (7, .int x7)]) hx hb dX17_go_140 hl (by decide) rfl (fun ls hl => ?_)
  refine lv_iload hx hb dX17_go_142 (lv_at hl 2 rfl) ?_
  obtain ⟨rfl, rfl⟩ := sv_ret hw
  exact W.iret hx hb hr (fun t ht hW => ⟨⟨rfl, by rw [ht]; exact hR⟩, hS.F ht⟩) hS.2.2 dX17_go_144
set_option maxHeartbeats 4000000 in
set_option maxRecDepth 100000 in
theorem lk_X17_go_110 {p : Program} {l : Launch} {e : Env} {s : State} {m : MethodId} {args : Array Value} {below : List Frame} {meth : Method} {c : Code} {G : sv_G} {B : Nat} (K : sv_W p s m args meth c cX17_go RX17 9 (some .int) G B "go") {r : Int32} {hE : sv_H} {x0 : Nat} {x4 : Int32} {s0 : Int32} {h : sv_H} (hw : fn_X17_go_110 x0 x4 s0 h = some (r, hE)) {H : Heap} {locs : List Loc} {ls : Array Slot} (hR : sv_R G vwCl sv_ft B h H) (hS : va_S (fun q => B ≤ q) s.heap H locs) (hl : lv_has ls 9 [(0, .ref x0), (4, .int x4)]) : W p l e rm_X17_go s m args below meth c H locs 0 0 (sv_Z below s args G B (some (.int r)) hE) (F0 m 110 ls [.int s0]) := by
  obtain ⟨hx, hb, hml, hown, hts, hC, hlk, hr, hBs, hni⟩ := id K
  unfold fn_X17_go_110 at hw
  refine lv_istore (lv' := [(7, .int s0), (0, .ref x0), (4, .int x4)]) hx hb dX17_go_110 hl (by decide) rfl (fun ls hl => ?_)
  refine lv_iload hx hb dX17_go_112 (lv_at hl 2 rfl) ?_
  refine lv_if_eq (tgt := 121) hx hb dX17_go_114 (by decide) (fun cc => ?_) (fun cc => ?_)
  · have hw := sv_ift cc hw
    exact lk_X17_go_121 K hw hR hS (lv_sub hl [1, 0] rfl)
  · have hw := sv_iff cc hw
    refine lv_aload_n hx hb dX17_go_117 rfl (lv_at hl 1 rfl) ?_
    obtain ⟨_, h1, hv1, hw⟩ := sv_b_some hw
    refine sv_call (va_runV (As := []) (rest := []) ⟨hx, hb, hml, hown, hts⟩ (mt_X17_use l G B hv1) (cwV 0 hts (sv_gV wd_2190 wd_2192 wd_110 wd_144 wd_2193) rfl rfl rfl (by decide +kernel) ⟨Nat.le_of_ble_eq_true rfl, Nat.le_of_ble_eq_true rfl⟩) ⟨sv_blind, sv_recv hC.1 hR (ci := 17) (sv_go hv1).1 (by decide) rfl, fun U hU hW => sv_pre hC hR hS hBs hU hW⟩ rfl rfl hl.1 rfl (lv_room (Nat.le_of_ble_eq_true rfl)) dX17_go_118 ⟨Nat.zero_le _, Nat.zero_le _⟩) hS (fun H locs hR hS => ?_)
    exact lk_X17_go_121 K hw hR hS (lv_sub hl [1, 0] rfl)
set_option maxHeartbeats 4000000 in
set_option maxRecDepth 100000 in
theorem lk_X17_go_94 {p : Program} {l : Launch} {e : Env} {s : State} {m : MethodId} {args : Array Value} {below : List Frame} {meth : Method} {c : Code} {G : sv_G} {B : Nat} (K : sv_W p s m args meth c cX17_go RX17 9 (some .int) G B "go") {r : Int32} {hE : sv_H} {x0 : Nat} {x4 : Int32} {x5 : Int32} {x6 : Int32} {h : sv_H} (hw : fn_X17_go_94 x0 x4 x5 x6 h = some (r, hE)) {H : Heap} {locs : List Loc} {ls : Array Slot} (hR : sv_R G vwCl sv_ft B h H) (hS : va_S (fun q => B ≤ q) s.heap H locs) (hl : lv_has ls 9 [(0, .ref x0), (4, .int x4), (5, .int x5), (6, .int x6)]) : W p l e rm_X17_go s m args below meth c H locs 0 0 (sv_Z below s args G B (some (.int r)) hE) (F0 m 94 ls []) := by
  obtain ⟨hx, hb, hml, hown, hts, hC, hlk, hr, hBs, hni⟩ := id K
  unfold fn_X17_go_94 at hw
  refine lv_aload_n hx hb dX17_go_94 rfl (lv_at hl 0 rfl) ?_
  refine lv_iload hx hb dX17_go_95 (lv_at hl 2 rfl) ?_
  refine lv_iload hx hb dX17_go_97 (lv_at hl 3 rfl) ?_
  obtain ⟨r1, h2, hv1, hw⟩ := sv_b_some hw
  refine sv_call (va_runV (As := [.int x5, .int x6]) (rest := []) ⟨hx, hb, hml, hown, hts⟩ (mt_X17_walks l G B hv1) (cwV 2 hts (sv_gV wd_2172 wd_2174 wd_107 wd_144 wd_2175) rfl rfl rfl (by decide +kernel) ⟨Nat.le_of_ble_eq_true rfl, Nat.le_of_ble_eq_true rfl⟩) ⟨sv_blind, sv_recv hC.1 hR (ci := 17) (sv_go hv1).1 (by decide) rfl, fun U hU hW => sv_pre hC hR hS hBs hU hW⟩ rfl rfl hl.1 rfl (lv_room (Nat.le_of_ble_eq_true rfl)) dX17_go_99 ⟨Nat.zero_le _, Nat.zero_le _⟩) hS (fun H locs hR hS => ?_)
  refine lv_if_eq (tgt := 109) hx hb dX17_go_102 (by decide) (fun cc => ?_) (fun cc => ?_)
  · have hw := sv_ift cc hw
    refine lv_iconst (v := 2) hx hb dX17_go_109 (by decide) ?_
    exact lk_X17_go_110 K hw hR hS (lv_sub hl [0, 1] rfl)
  · have hw := sv_iff cc hw
    refine lv_iconst (v := 1) hx hb dX17_go_105 (by decide) ?_
    refine lv_goto (tgt := 110) hx hb dX17_go_106 (by decide) ?_
    exact lk_X17_go_110 K hw hR hS (lv_sub hl [0, 1] rfl)
set_option maxHeartbeats 4000000 in
set_option maxRecDepth 100000 in
theorem lk_X17_go_0 {p : Program} {l : Launch} {e : Env} {s : State} {m : MethodId} {args : Array Value} {below : List Frame} {meth : Method} {c : Code} {G : sv_G} {B : Nat} (K : sv_W p s m args meth c cX17_go RX17 9 (some .int) G B "go") {r : Int32} {hE : sv_H} {x0 : Nat} {x1 : Int32} {x2 : Int32} {x3 : Int32} {x4 : Int32} {h : sv_H} (hw : fn_X17_go x0 x1 x2 x3 x4 h = some (r, hE)) {H : Heap} {locs : List Loc} {ls : Array Slot} (hR : sv_R G vwCl sv_ft B h H) (hS : va_S (fun q => B ≤ q) s.heap H locs) (hl : lv_has ls 9 [(0, .ref x0), (1, .int x1), (2, .int x2), (3, .int x3), (4, .int x4)]) : W p l e rm_X17_go s m args below meth c H locs 0 0 (sv_Z below s args G B (some (.int r)) hE) (F0 m 0 ls []) := by
  obtain ⟨hx, hb, hml, hown, hts, hC, hlk, hr, hBs, hni⟩ := id K
  unfold fn_X17_go at hw
  have hw := (sv_go hw).2
  refine lv_aload_n hx hb dX17_go_0 rfl (lv_at hl 0 rfl) ?_
  refine lv_aload_n hx hb dX17_go_1 rfl (lv_at hl 0 rfl) ?_
  obtain ⟨v1, hv, hw⟩ := sv_bd hw
  refine sv_rgI hx hb hown hC.1 hR (fl_X17_go_265 hts hC hni) rfl (by decide) rfl rfl hv dX17_go_2 ?_
  refine lv_iload_n hx hb dX17_go_5 rfl (lv_at hl 3 rfl) ?_
  refine lv_iadd hx hb dX17_go_6 ?_
  refine lv_bipush (v := 64) hx hb dX17_go_7 (by decide) ?_
  refine lv_iadd hx hb dX17_go_9 ?_
  refine lv_bipush (v := 64) hx hb dX17_go_10 (by decide) ?_
  refine lv_irem hx hb dX17_go_12 (by decide) ?_
  obtain ⟨h2, hv, hw⟩ := sv_bd hw
  refine sv_rpI hx hb hown hC.1 hR hS (fl_X17_go_265 hts hC hni) rfl (by decide) rfl rfl hv dX17_go_13 (fun H locs hR hS => ?_)
  refine lv_aload_n hx hb dX17_go_16 rfl (lv_at hl 0 rfl) ?_
  obtain ⟨v3, hv, hw⟩ := sv_bd hw
  refine sv_rgI hx hb hown hC.1 hR (fl_X17_go_265 hts hC hni) rfl (by decide) rfl rfl hv dX17_go_17 ?_
  obtain ⟨r4, h5, hv1, hw⟩ := sv_b_some hw
  refine sv_call (va_runS (As := [.int v3]) (rest := []) ⟨hx, hb, hml, hown, hts⟩ (mt_X17_cosine l G B hv1) (va_cwS 1 hts (sv_gS wd_2024 wd_2025 wd_144 wd_2026) rfl rfl rfl (by decide +kernel) ⟨Nat.le_of_ble_eq_true rfl, Nat.le_of_ble_eq_true rfl⟩) ⟨sv_blind, fun U hU hW => sv_pre hC hR hS hBs hU hW⟩ rfl rfl hl.1 rfl (lv_room (Nat.le_of_ble_eq_true rfl)) dX17_go_20 ⟨Nat.zero_le _, Nat.zero_le _⟩) hS (fun H locs hR hS => ?_)
  refine lv_i2l hx hb dX17_go_23 rfl ?_
  refine lv_iload_n hx hb dX17_go_24 rfl (lv_at hl 1 rfl) ?_
  refine lv_i2l hx hb dX17_go_25 rfl ?_
  refine lv_lmul hx hb dX17_go_26 ?_
  refine lv_aload_n hx hb dX17_go_27 rfl (lv_at hl 0 rfl) ?_
  obtain ⟨v6, hv, hw⟩ := sv_bd hw
  refine sv_rgI hx hb hown hC.1 hR (fl_X17_go_265 hts hC hni) rfl (by decide) rfl rfl hv dX17_go_28 ?_
  obtain ⟨r7, h8, hv2, hw⟩ := sv_b_some hw
  refine sv_call (va_runS (As := [.int v6]) (rest := [.long ((Int32.toInt64 r4) * (Int32.toInt64 x1))]) ⟨hx, hb, hml, hown, hts⟩ (mt_X17_sine l G B hv2) (va_cwS 1 hts (sv_gS wd_2032 wd_2033 wd_144 wd_2034) rfl rfl rfl (by decide +kernel) ⟨Nat.le_of_ble_eq_true rfl, Nat.le_of_ble_eq_true rfl⟩) ⟨sv_blind, fun U hU hW => sv_pre hC hR hS hBs hU hW⟩ rfl rfl hl.1 rfl (lv_room (Nat.le_of_ble_eq_true rfl)) dX17_go_31 ⟨Nat.zero_le _, Nat.zero_le _⟩) hS (fun H locs hR hS => ?_)
  refine lv_i2l hx hb dX17_go_34 rfl ?_
  refine lv_iload_n hx hb dX17_go_35 rfl (lv_at hl 2 rfl) ?_
  refine lv_i2l hx hb dX17_go_36 rfl ?_
  refine lv_lmul hx hb dX17_go_37 ?_
  refine lv_ladd hx hb dX17_go_38 ?_
  refine lv_ldc2 (v := 256) hx hb hown (hts _ wd_2123) dX17_go_39 ?_
  obtain ⟨r9, h10, hv3, hw⟩ := sv_b_some hw
  refine sv_call (va_runS (As := [.long (((Int32.toInt64 r4) * (Int32.toInt64 x1)) + ((Int32.toInt64 r7) * (Int32.toInt64 x2))), .long 256]) (rest := []) ⟨hx, hb, hml, hown, hts⟩ (mt_X17_down l G B hv3) (va_cwS 2 hts (sv_gS wd_2072 wd_2073 wd_144 wd_2074) rfl rfl rfl (by decide +kernel) ⟨Nat.le_of_ble_eq_true rfl, Nat.le_of_ble_eq_true rfl⟩) ⟨sv_blind, fun U hU hW => sv_pre hC hR hS hBs hU hW⟩ rfl rfl hl.1 rfl (lv_room (Nat.le_of_ble_eq_true rfl)) dX17_go_42 ⟨Nat.zero_le _, Nat.zero_le _⟩) hS (fun H locs hR hS => ?_)
  refine lv_l2i hx hb dX17_go_45 rfl ?_
  refine lv_istore (lv' := [(5, .int (Int64.toInt32 r9)), (0, .ref x0), (1, .int x1), (2, .int x2), (3, .int x3), (4, .int x4)]) hx hb dX17_go_46 hl (by decide) rfl (fun ls hl => ?_)
  refine lv_aload_n hx hb dX17_go_48 rfl (lv_at hl 1 rfl) ?_
  obtain ⟨v11, hv, hw⟩ := sv_bd hw
  refine sv_rgI hx hb hown hC.1 hR (fl_X17_go_265 hts hC hni) rfl (by decide) rfl rfl hv dX17_go_49 ?_
  obtain ⟨r12, h13, hv4, hw⟩ := sv_b_some hw
  refine sv_call (va_runS (As := [.int v11]) (rest := []) ⟨hx, hb, hml, hown, hts⟩ (mt_X17_sine l G B hv4) (va_cwS 1 hts (sv_gS wd_2032 wd_2033 wd_144 wd_2034) rfl rfl rfl (by decide +kernel) ⟨Nat.le_of_ble_eq_true rfl, Nat.le_of_ble_eq_true rfl⟩) ⟨sv_blind, fun U hU hW => sv_pre hC hR hS hBs hU hW⟩ rfl rfl hl.1 rfl (lv_room (Nat.le_of_ble_eq_true rfl)) dX17_go_52 ⟨Nat.zero_le _, Nat.zero_le _⟩) hS (fun H locs hR hS => ?_)
  refine lv_i2l hx hb dX17_go_55 rfl ?_
  refine lv_iload_n hx hb dX17_go_56 rfl (lv_at hl 2 rfl) ?_
  refine lv_i2l hx hb dX17_go_57 rfl ?_
  refine lv_lmul hx hb dX17_go_58 ?_
  refine lv_aload_n hx hb dX17_go_59 rfl (lv_at hl 1 rfl) ?_
  obtain ⟨v14, hv, hw⟩ := sv_bd hw
  refine sv_rgI hx hb hown hC.1 hR (fl_X17_go_265 hts hC hni) rfl (by decide) rfl rfl hv dX17_go_60 ?_
  obtain ⟨r15, h16, hv5, hw⟩ := sv_b_some hw
  refine sv_call (va_runS (As := [.int v14]) (rest := [.long ((Int32.toInt64 r12) * (Int32.toInt64 x1))]) ⟨hx, hb, hml, hown, hts⟩ (mt_X17_cosine l G B hv5) (va_cwS 1 hts (sv_gS wd_2024 wd_2025 wd_144 wd_2026) rfl rfl rfl (by decide +kernel) ⟨Nat.le_of_ble_eq_true rfl, Nat.le_of_ble_eq_true rfl⟩) ⟨sv_blind, fun U hU hW => sv_pre hC hR hS hBs hU hW⟩ rfl rfl hl.1 rfl (lv_room (Nat.le_of_ble_eq_true rfl)) dX17_go_63 ⟨Nat.zero_le _, Nat.zero_le _⟩) hS (fun H locs hR hS => ?_)
  refine lv_i2l hx hb dX17_go_66 rfl ?_
  refine lv_iload_n hx hb dX17_go_67 rfl (lv_at hl 3 rfl) ?_
  refine lv_i2l hx hb dX17_go_68 rfl ?_
  refine lv_lmul hx hb dX17_go_69 ?_
  refine lv_lsub hx hb dX17_go_70 ?_
  refine lv_ldc2 (v := 256) hx hb hown (hts _ wd_2123) dX17_go_71 ?_
  obtain ⟨r17, h18, hv6, hw⟩ := sv_b_some hw
  refine sv_call (va_runS (As := [.long (((Int32.toInt64 r12) * (Int32.toInt64 x1)) - ((Int32.toInt64 r15) * (Int32.toInt64 x2))), .long 256]) (rest := []) ⟨hx, hb, hml, hown, hts⟩ (mt_X17_down l G B hv6) (va_cwS 2 hts (sv_gS wd_2072 wd_2073 wd_144 wd_2074) rfl rfl rfl (by decide +kernel) ⟨Nat.le_of_ble_eq_true rfl, Nat.le_of_ble_eq_true rfl⟩) ⟨sv_blind, fun U hU hW => sv_pre hC hR hS hBs hU hW⟩ rfl rfl hl.1 rfl (lv_room (Nat.le_of_ble_eq_true rfl)) dX17_go_74 ⟨Nat.zero_le _, Nat.zero_le _⟩) hS (fun H locs hR hS => ?_)
  refine lv_l2i hx hb dX17_go_77 rfl ?_
  refine lv_istore (lv' := [(6, .int (Int64.toInt32 r17)), (5, .int (Int64.toInt32 r9)), (0, .ref x0), (1, .int x1), (2, .int x2), (3, .int x3), (4, .int x4)]) hx hb dX17_go_78 hl (by decide) rfl (fun ls hl => ?_)
  refine lv_iload hx hb dX17_go_80 (lv_at hl 1 rfl) ?_
  refine lv_if_ne (tgt := 94) hx hb dX17_go_82 (by decide) (fun cc => ?_) (fun cc => ?_)
  · have hw := sv_iff cc hw
    exact lk_X17_go_94 K hw hR hS (lv_sub hl [2, 6, 1, 0] rfl)
  · have hw := sv_ift cc hw
    refine lv_iload hx hb dX17_go_85 (lv_at hl 0 rfl) ?_
    refine lv_if_ne (tgt := 94) hx hb dX17_go_87 (by decide) (fun cc => ?_) (fun cc => ?_)
    · have hw := sv_iff cc hw
      exact lk_X17_go_94 K hw hR hS (lv_sub hl [2, 6, 1, 0] rfl)
    · have hw := sv_ift cc hw
      refine lv_iconst (v := 0) hx hb dX17_go_90 (by decide) ?_
      refine lv_goto (tgt := 110) hx hb dX17_go_91 (by decide) ?_
      exact lk_X17_go_110 K hw hR hS (lv_sub hl [2, 6] rfl)
set_option maxHeartbeats 4000000 in
set_option maxRecDepth 100000 in
theorem mt_X17_go (l : Launch) (G : sv_G) (B : Nat) {x0 : Nat} {x1 : Int32} {x2 : Int32} {x3 : Int32} {x4 : Int32} {h : sv_H} {r : Int32} {hE : sv_H} (hw : fn_X17_go x0 x1 x2 x3 x4 h = some (r, hE)) : Met l yX17_go (.code yX17_go cX17_go 9 (some .int) :: sv_tb) rm_X17_go (sv_Pc G B [.ref x0, .int x1, .int x2, .int x3, .int x4] h) (sv_Q G B (some (.int r)) hE) 0 0 (fun q => B ≤ q) := by
  refine Met.ofW (cc := cX17_go) (maxL := 9) (ret := (some .int)) (by decide +kernel) rfl ?_
  intro p e s m args below meth c s₁ Bd hml hv
  obtain ⟨rfl, hR, hC, hB⟩ := hv
  have hl := lv_entry ([.ref x0, .int x1, .int x2, .int x3, .int x4]) (n := 9) (Nat.le_of_ble_eq_true rfl)
  rw [lg_entry_eq]
  generalize (lg_sl ([.ref x0, .int x1, .int x2, .int x3, .int x4]) ++ List.replicate (9 - (lg_sl ([.ref x0, .int x1, .int x2, .int x3, .int x4])).length) Slot.unset).toArray = ls at hl ⊢
  have hl : lv_has ls 9 [(0, .ref x0), (1, .int x1), (2, .int x2), (3, .int x3), (4, .int x4)] := hl
  exact lk_X17_go_0 ⟨Bd.exec, Bd.bytes, hml, findClass_of_methodNamed Bd.named, fun w h => atoms_spec (ws := .code yX17_go cX17_go 9 (some .int) :: sv_tb) Bd.pre w (List.mem_cons_of_mem _ h), hC, Bd.notSynchronized, Bd.returns, hB, (name_of_methodNamed Bd.named Bd.method).1⟩ hw hR va_S.rf hl

def rm_X17_playTo : Room := { frames := 10, cells := 0, slots := 0, locals := 233 }
theorem fl_X17_playTo_19 {s : State} {meth : Method} {args : Array Value} {G : sv_G} {B : Nat} (hts : ∀ w ∈ sv_tb, w.before args s = true) (hC : sv_Cx G B s s.heap) (hni : meth.name = "playTo") : sv_FL s meth args vwCl RX17 19 17 2 (.object "SectorViewModel$Tape") false :=
  ⟨_, RX17, TX17, 29, sv_tb, tyX17, rfl, by decide, hts, uw_X17, Or.inl (hts _ wd_1693), fun _ h => h, tyX17_ok 2 (by decide), tyX17_ok, nmX17, fun h => by cases h⟩
theorem fl_X17_playTo_343 {s : State} {meth : Method} {args : Array Value} {G : sv_G} {B : Nat} (hts : ∀ w ∈ sv_tb, w.before args s = true) (hC : sv_Cx G B s s.heap) (hni : meth.name = "playTo") : sv_FL s meth args vwCl RX17 343 15 1 (.array .int) false :=
  ⟨_, RX15, TX15, 21, sv_tb, tyX15, rfl, by decide, hts, uw_X15, Or.inr ⟨"SectorViewModel", Or.inr ⟨rfl, va_Nw.use rfl (hC.2.1 (.fieldLinkNest "SectorViewModel" 343 "SectorViewModel$Tape" "aheads" "[I" "SectorViewModel") (by decide +kernel))⟩⟩, fun _ h => h, tyX15_ok 1 (by decide), tyX15_ok, nmX15, fun h => by cases h⟩
theorem fl_X17_playTo_346 {s : State} {meth : Method} {args : Array Value} {G : sv_G} {B : Nat} (hts : ∀ w ∈ sv_tb, w.before args s = true) (hC : sv_Cx G B s s.heap) (hni : meth.name = "playTo") : sv_FL s meth args vwCl RX17 346 15 2 (.array .int) false :=
  ⟨_, RX15, TX15, 21, sv_tb, tyX15, rfl, by decide, hts, uw_X15, Or.inr ⟨"SectorViewModel", Or.inr ⟨rfl, va_Nw.use rfl (hC.2.1 (.fieldLinkNest "SectorViewModel" 346 "SectorViewModel$Tape" "asides" "[I" "SectorViewModel") (by decide +kernel))⟩⟩, fun _ h => h, tyX15_ok 2 (by decide), tyX15_ok, nmX15, fun h => by cases h⟩
theorem fl_X17_playTo_349 {s : State} {meth : Method} {args : Array Value} {G : sv_G} {B : Nat} (hts : ∀ w ∈ sv_tb, w.before args s = true) (hC : sv_Cx G B s s.heap) (hni : meth.name = "playTo") : sv_FL s meth args vwCl RX17 349 15 3 (.array .int) false :=
  ⟨_, RX15, TX15, 21, sv_tb, tyX15, rfl, by decide, hts, uw_X15, Or.inr ⟨"SectorViewModel", Or.inr ⟨rfl, va_Nw.use rfl (hC.2.1 (.fieldLinkNest "SectorViewModel" 349 "SectorViewModel$Tape" "turns" "[I" "SectorViewModel") (by decide +kernel))⟩⟩, fun _ h => h, tyX15_ok 3 (by decide), tyX15_ok, nmX15, fun h => by cases h⟩
theorem fl_X17_playTo_352 {s : State} {meth : Method} {args : Array Value} {G : sv_G} {B : Nat} (hts : ∀ w ∈ sv_tb, w.before args s = true) (hC : sv_Cx G B s s.heap) (hni : meth.name = "playTo") : sv_FL s meth args vwCl RX17 352 15 4 (.array .boolean) false :=
  ⟨_, RX15, TX15, 21, sv_tb, tyX15, rfl, by decide, hts, uw_X15, Or.inr ⟨"SectorViewModel", Or.inr ⟨rfl, va_Nw.use rfl (hC.2.1 (.fieldLinkNest "SectorViewModel" 352 "SectorViewModel$Tape" "uses" "[Z" "SectorViewModel") (by decide +kernel))⟩⟩, fun _ h => h, tyX15_ok 4 (by decide), tyX15_ok, nmX15, fun h => by cases h⟩
theorem fl_X17_playTo_60 {s : State} {meth : Method} {args : Array Value} {G : sv_G} {B : Nat} (hts : ∀ w ∈ sv_tb, w.before args s = true) (hC : sv_Cx G B s s.heap) (hni : meth.name = "playTo") : sv_FL s meth args vwCl RX17 60 17 0 .int true :=
  ⟨_, RX17, TX17, 29, sv_tb, tyX17, rfl, by decide, hts, uw_X17, Or.inl (hts _ wd_1691), fun _ h => h, tyX17_ok 0 (by decide), tyX17_ok, nmX17, fun _ => Or.inl rfl⟩
theorem fl_X17_playTo_77 {s : State} {meth : Method} {args : Array Value} {G : sv_G} {B : Nat} (hts : ∀ w ∈ sv_tb, w.before args s = true) (hC : sv_Cx G B s s.heap) (hni : meth.name = "playTo") : sv_FL s meth args vwCl RX17 77 17 9 .boolean true :=
  ⟨_, RX17, TX17, 29, sv_tb, tyX17, rfl, by decide, hts, uw_X17, Or.inl (hts _ wd_1700), fun _ h => h, tyX17_ok 9 (by decide), tyX17_ok, nmX17, fun _ => Or.inl rfl⟩
theorem fl_X17_playTo_98 {s : State} {meth : Method} {args : Array Value} {G : sv_G} {B : Nat} (hts : ∀ w ∈ sv_tb, w.before args s = true) (hC : sv_Cx G B s s.heap) (hni : meth.name = "playTo") : sv_FL s meth args vwCl RX17 98 15 5 .int true :=
  ⟨_, RX15, TX15, 21, sv_tb, tyX15, rfl, by decide, hts, uw_X15, Or.inr ⟨"SectorViewModel", Or.inl ⟨rfl, va_Nw.use rfl (hC.2.1 (.fieldLinkNest "SectorViewModel" 98 "SectorViewModel$Tape" "many" "I" "SectorViewModel") (by decide +kernel))⟩⟩, fun _ h => h, tyX15_ok 5 (by decide), tyX15_ok, nmX15, fun _ => Or.inl rfl⟩
set_option maxHeartbeats 4000000 in
set_option maxRecDepth 100000 in
theorem lk_X17_playTo_27 {p : Program} {l : Launch} {e : Env} {s : State} {m : MethodId} {args : Array Value} {below : List Frame} {meth : Method} {c : Code} {G : sv_G} {B : Nat} (K : sv_W p s m args meth c cX17_playTo RX17 4 (some .int) G B "playTo") {r : Int32} {hE : sv_H} {h : sv_H} (hw : fn_X17_playTo_27 h = some (r, hE)) {H : Heap} {locs : List Loc} {ls : Array Slot} (hR : sv_R G vwCl sv_ft B h H) (hS : va_S (fun q => B ≤ q) s.heap H locs) (hl : lv_has ls 4 []) : W p l e rm_X17_playTo s m args below meth c H locs 0 0 (sv_Z below s args G B (some (.int r)) hE) (F0 m 27 ls []) := by
  obtain ⟨hx, hb, hml, hown, hts, hC, hlk, hr, hBs, hni⟩ := id K
  unfold fn_X17_playTo_27 at hw
  refine lv_iconst (v := (-1)) hx hb dX17_playTo_27 (by decide) ?_
  obtain ⟨rfl, rfl⟩ := sv_ret hw
  exact W.iret hx hb hr (fun t ht hW => ⟨⟨rfl, by rw [ht]; exact hR⟩, hS.F ht⟩) hS.2.2 dX17_playTo_28
set_option maxHeartbeats 4000000 in
set_option maxRecDepth 100000 in
theorem lk_X17_playTo_92 {p : Program} {l : Launch} {e : Env} {s : State} {m : MethodId} {args : Array Value} {below : List Frame} {meth : Method} {c : Code} {G : sv_G} {B : Nat} (K : sv_W p s m args meth c cX17_playTo RX17 4 (some .int) G B "playTo") {r : Int32} {hE : sv_H} {k37 : Nat → Int32 → Int32 → Int32 → sv_H → Option (Int32 × sv_H)} (hk37 : ∀ {x0 : Nat} {x1 : Int32} {x2 : Int32} {x3 : Int32} {h : sv_H}, k37 x0 x1 x2 x3 h = some (r, hE) → ∀ {H : Heap} {locs : List Loc} {ls : Array Slot}, sv_R G vwCl sv_ft B h H → va_S (fun q => B ≤ q) s.heap H locs → lv_has ls 4 [(0, .ref x0), (1, .int x1), (2, .int x2), (3, .int x3)] → W p l e rm_X17_playTo s m args below meth c H locs 0 0 (sv_Z below s args G B (some (.int r)) hE) (F0 m 37 ls [])) {x0 : Nat} {x1 : Int32} {x3 : Int32} {s0 : Int32} {s1 : Int32} {h : sv_H} (hw : fn_X17_playTo_92 k37 x0 x1 x3 s0 s1 h = some (r, hE)) {H : Heap} {locs : List Loc} {ls : Array Slot} (hR : sv_R G vwCl sv_ft B h H) (hS : va_S (fun q => B ≤ q) s.heap H locs) (hl : lv_has ls 4 [(0, .ref x0), (1, .int x1), (3, .int x3)]) : W p l e rm_X17_playTo s m args below meth c H locs 0 0 (sv_Z below s args G B (some (.int r)) hE) (F0 m 92 ls [.int s1, .int s0]) := by
  obtain ⟨hx, hb, hml, hown, hts, hC, hlk, hr, hBs, hni⟩ := id K
  unfold fn_X17_playTo_92 at hw
  refine lv_iadd hx hb dX17_playTo_92 ?_
  refine lv_istore_n (lv' := [(2, .int (s0 + s1)), (0, .ref x0), (1, .int x1), (3, .int x3)]) hx hb dX17_playTo_93 rfl hl (by decide) rfl (fun ls hl => ?_)
  refine lv_iinc (v := x3 + 1) (lv' := [(3, .int (x3 + 1)), (2, .int (s0 + s1)), (0, .ref x0), (1, .int x1)]) hx hb dX17_playTo_94 hl (k := 3) rfl rfl (by decide) rfl (fun ls hl => ?_)
  refine lv_goto (tgt := 37) hx hb dX17_playTo_97 (by decide) ?_
  exact hk37 hw hR hS (lv_sub hl [2, 3, 1, 0] rfl)
set_option maxHeartbeats 4000000 in
set_option maxRecDepth 100000 in
theorem lk_X17_playTo_37b {p : Program} {l : Launch} {e : Env} {s : State} {m : MethodId} {args : Array Value} {below : List Frame} {meth : Method} {c : Code} {G : sv_G} {B : Nat} (K : sv_W p s m args meth c cX17_playTo RX17 4 (some .int) G B "playTo") {r : Int32} {hE : sv_H} {k37 : Nat → Int32 → Int32 → Int32 → sv_H → Option (Int32 × sv_H)} (hk37 : ∀ {x0 : Nat} {x1 : Int32} {x2 : Int32} {x3 : Int32} {h : sv_H}, k37 x0 x1 x2 x3 h = some (r, hE) → ∀ {H : Heap} {locs : List Loc} {ls : Array Slot}, sv_R G vwCl sv_ft B h H → va_S (fun q => B ≤ q) s.heap H locs → lv_has ls 4 [(0, .ref x0), (1, .int x1), (2, .int x2), (3, .int x3)] → W p l e rm_X17_playTo s m args below meth c H locs 0 0 (sv_Z below s args G B (some (.int r)) hE) (F0 m 37 ls [])) {x0 : Nat} {x1 : Int32} {x2 : Int32} {x3 : Int32} {h : sv_H} (hw : fn_X17_playTo_37b k37 x0 x1 x2 x3 h = some (r, hE)) {H : Heap} {locs : List Loc} {ls : Array Slot} (hR : sv_R G vwCl sv_ft B h H) (hS : va_S (fun q => B ≤ q) s.heap H locs) (hl : lv_has ls 4 [(0, .ref x0), (1, .int x1), (2, .int x2), (3, .int x3)]) : W p l e rm_X17_playTo s m args below meth c H locs 0 0 (sv_Z below s args G B (some (.int r)) hE) (F0 m 37 ls []) := by
  obtain ⟨hx, hb, hml, hown, hts, hC, hlk, hr, hBs, hni⟩ := id K
  unfold fn_X17_playTo_37b at hw
  refine lv_iload_n hx hb dX17_playTo_37 rfl (lv_at hl 3 rfl) ?_
  refine lv_iload_n hx hb dX17_playTo_38 rfl (lv_at hl 1 rfl) ?_
  refine lv_icmp_ge (tgt := 100) hx hb dX17_playTo_39 (by decide) (fun cc => ?_) (fun cc => ?_)
  · have hw := sv_ift cc hw
    refine lv_iload_n hx hb dX17_playTo_100 rfl (lv_at hl 2 rfl) ?_
    obtain ⟨rfl, rfl⟩ := sv_ret hw
    exact W.iret hx hb hr (fun t ht hW => ⟨⟨rfl, by rw [ht]; exact hR⟩, hS.F ht⟩) hS.2.2 dX17_playTo_101
  · have hw := sv_iff cc hw
    refine lv_iload_n hx hb dX17_playTo_42 rfl (lv_at hl 2 rfl) ?_
    refine lv_aload_n hx hb dX17_playTo_43 rfl (lv_at hl 0 rfl) ?_
    refine lv_aload_n hx hb dX17_playTo_44 rfl (lv_at hl 0 rfl) ?_
    obtain ⟨v1, hv, hw⟩ := sv_bd hw
    refine sv_rgP hx hb hown hC.1 hR (fl_X17_playTo_19 hts hC hni) rfl (by decide) rfl rfl hv dX17_playTo_45 ?_
    obtain ⟨v2, hv, hw⟩ := sv_bd hw
    refine sv_rgP hx hb hown hC.1 hR (fl_X17_playTo_343 hts hC hni) rfl (by decide) rfl rfl hv dX17_playTo_48 ?_
    refine lv_iload_n hx hb dX17_playTo_51 rfl (lv_at hl 3 rfl) ?_
    obtain ⟨v3, hv, hw⟩ := sv_bd hw
    refine sv_rlI hx hb hC.1 rfl hR hv dX17_playTo_52 ?_
    refine lv_aload_n hx hb dX17_playTo_53 rfl (lv_at hl 0 rfl) ?_
    obtain ⟨v4, hv, hw⟩ := sv_bd hw
    refine sv_rgP hx hb hown hC.1 hR (fl_X17_playTo_19 hts hC hni) rfl (by decide) rfl rfl hv dX17_playTo_54 ?_
    obtain ⟨v5, hv, hw⟩ := sv_bd hw
    refine sv_rgP hx hb hown hC.1 hR (fl_X17_playTo_346 hts hC hni) rfl (by decide) rfl rfl hv dX17_playTo_57 ?_
    refine lv_iload_n hx hb dX17_playTo_60 rfl (lv_at hl 3 rfl) ?_
    obtain ⟨v6, hv, hw⟩ := sv_bd hw
    refine sv_rlI hx hb hC.1 rfl hR hv dX17_playTo_61 ?_
    refine lv_aload_n hx hb dX17_playTo_62 rfl (lv_at hl 0 rfl) ?_
    obtain ⟨v7, hv, hw⟩ := sv_bd hw
    refine sv_rgP hx hb hown hC.1 hR (fl_X17_playTo_19 hts hC hni) rfl (by decide) rfl rfl hv dX17_playTo_63 ?_
    obtain ⟨v8, hv, hw⟩ := sv_bd hw
    refine sv_rgP hx hb hown hC.1 hR (fl_X17_playTo_349 hts hC hni) rfl (by decide) rfl rfl hv dX17_playTo_66 ?_
    refine lv_iload_n hx hb dX17_playTo_69 rfl (lv_at hl 3 rfl) ?_
    obtain ⟨v9, hv, hw⟩ := sv_bd hw
    refine sv_rlI hx hb hC.1 rfl hR hv dX17_playTo_70 ?_
    refine lv_aload_n hx hb dX17_playTo_71 rfl (lv_at hl 0 rfl) ?_
    obtain ⟨v10, hv, hw⟩ := sv_bd hw
    refine sv_rgP hx hb hown hC.1 hR (fl_X17_playTo_19 hts hC hni) rfl (by decide) rfl rfl hv dX17_playTo_72 ?_
    obtain ⟨v11, hv, hw⟩ := sv_bd hw
    refine sv_rgP hx hb hown hC.1 hR (fl_X17_playTo_352 hts hC hni) rfl (by decide) rfl rfl hv dX17_playTo_75 ?_
    refine lv_iload_n hx hb dX17_playTo_78 rfl (lv_at hl 3 rfl) ?_
    obtain ⟨v12, hv, hw⟩ := sv_bd hw
    refine sv_rlZ hx hb hC.1 rfl hR hv dX17_playTo_79 ?_
    obtain ⟨r13, h14, hv1, hw⟩ := sv_b_some hw
    refine sv_call (va_runV (As := [.int v3, .int v6, .int v9, .int v12]) (rest := [.int x2]) ⟨hx, hb, hml, hown, hts⟩ (mt_X17_go l G B hv1) (cwV 4 hts (sv_gV wd_2168 wd_2170 wd_106 wd_144 wd_2171) rfl rfl rfl (by decide +kernel) ⟨Nat.le_of_ble_eq_true rfl, Nat.le_of_ble_eq_true rfl⟩) ⟨sv_blind, sv_recv hC.1 hR (ci := 17) (sv_go hv1).1 (by decide) rfl, fun U hU hW => sv_pre hC hR hS hBs hU hW⟩ rfl rfl hl.1 rfl (lv_room (Nat.le_of_ble_eq_true rfl)) dX17_playTo_80 ⟨Nat.zero_le _, Nat.zero_le _⟩) hS (fun H locs hR hS => ?_)
    refine lv_iconst (v := 2) hx hb dX17_playTo_83 (by decide) ?_
    refine lv_icmp_ne (tgt := 91) hx hb dX17_playTo_84 (by decide) (fun cc => ?_) (fun cc => ?_)
    · have hw := sv_iff cc hw
      refine lv_iconst (v := 0) hx hb dX17_playTo_91 (by decide) ?_
      exact lk_X17_playTo_92 K hk37 hw hR hS (lv_sub hl [0, 1, 3] rfl)
    · have hw := sv_ift cc hw
      refine lv_iconst (v := 1) hx hb dX17_playTo_87 (by decide) ?_
      refine lv_goto (tgt := 92) hx hb dX17_playTo_88 (by decide) ?_
      exact lk_X17_playTo_92 K hk37 hw hR hS (lv_sub hl [0, 1, 3] rfl)
theorem lk_X17_playTo_37 {p : Program} {l : Launch} {e : Env} {s : State} {m : MethodId} {args : Array Value} {below : List Frame} {meth : Method} {c : Code} {G : sv_G} {B : Nat} (K : sv_W p s m args meth c cX17_playTo RX17 4 (some .int) G B "playTo") {r : Int32} {hE : sv_H} : ∀ (n : Nat) {x0 : Nat} {x1 : Int32} {x2 : Int32} {x3 : Int32} {h : sv_H}, fn_X17_playTo_37 n x0 x1 x2 x3 h = some (r, hE) → ∀ {H : Heap} {locs : List Loc} {ls : Array Slot}, sv_R G vwCl sv_ft B h H → va_S (fun q => B ≤ q) s.heap H locs → lv_has ls 4 [(0, .ref x0), (1, .int x1), (2, .int x2), (3, .int x3)] → W p l e rm_X17_playTo s m args below meth c H locs 0 0 (sv_Z below s args G B (some (.int r)) hE) (F0 m 37 ls []) := by
  intro n
  induction n with
  | zero => intro x0 x1 x2 x3 h hw; cases (show (none : Option (Int32 × sv_H)) = some (r, hE) from hw)
  | succ n ih => intro x0 x1 x2 x3 h hw H locs ls hR hS hl; exact lk_X17_playTo_37b K (fun hw => ih hw) hw hR hS hl
set_option maxHeartbeats 4000000 in
set_option maxRecDepth 100000 in
theorem lk_X17_playTo_0 {p : Program} {l : Launch} {e : Env} {s : State} {m : MethodId} {args : Array Value} {below : List Frame} {meth : Method} {c : Code} {G : sv_G} {B : Nat} (K : sv_W p s m args meth c cX17_playTo RX17 4 (some .int) G B "playTo") {r : Int32} {hE : sv_H} {x0 : Nat} {x1 : Int32} {h : sv_H} (hw : fn_X17_playTo x0 x1 h = some (r, hE)) {H : Heap} {locs : List Loc} {ls : Array Slot} (hR : sv_R G vwCl sv_ft B h H) (hS : va_S (fun q => B ≤ q) s.heap H locs) (hl : lv_has ls 4 [(0, .ref x0), (1, .int x1)]) : W p l e rm_X17_playTo s m args below meth c H locs 0 0 (sv_Z below s args G B (some (.int r)) hE) (F0 m 0 ls []) := by
  obtain ⟨hx, hb, hml, hown, hts, hC, hlk, hr, hBs, hni⟩ := id K
  unfold fn_X17_playTo at hw
  have hw := (sv_go hw).2
  refine lv_aload_n hx hb dX17_playTo_0 rfl (lv_at hl 0 rfl) ?_
  refine lv_iconst (v := 0) hx hb dX17_playTo_1 (by decide) ?_
  obtain ⟨h1, hv, hw⟩ := sv_bd hw
  refine sv_rpI hx hb hown hC.1 hR hS (fl_X17_playTo_60 hts hC hni) rfl (by decide) rfl rfl hv dX17_playTo_2 (fun H locs hR hS => ?_)
  refine lv_aload_n hx hb dX17_playTo_5 rfl (lv_at hl 0 rfl) ?_
  obtain ⟨v2, hv, hw⟩ := sv_bd hw
  refine sv_rgI hx hb hown hC.1 hR (fl_X17_playTo_77 hts hC hni) rfl (by decide) rfl rfl hv dX17_playTo_6 ?_
  refine lv_if_eq (tgt := 27) hx hb dX17_playTo_9 (by decide) (fun cc => ?_) (fun cc => ?_)
  · have hw := sv_ift cc hw
    exact lk_X17_playTo_27 K hw hR hS (lv_sub hl [] rfl)
  · have hw := sv_iff cc hw
    refine lv_iload_n hx hb dX17_playTo_12 rfl (lv_at hl 1 rfl) ?_
    refine lv_if_lt (tgt := 27) hx hb dX17_playTo_13 (by decide) (fun cc => ?_) (fun cc => ?_)
    · have hw := sv_ift cc hw
      exact lk_X17_playTo_27 K hw hR hS (lv_sub hl [] rfl)
    · have hw := sv_iff cc hw
      refine lv_iload_n hx hb dX17_playTo_16 rfl (lv_at hl 1 rfl) ?_
      refine lv_aload_n hx hb dX17_playTo_17 rfl (lv_at hl 0 rfl) ?_
      obtain ⟨v3, hv, hw⟩ := sv_bd hw
      refine sv_rgP hx hb hown hC.1 hR (fl_X17_playTo_19 hts hC hni) rfl (by decide) rfl rfl hv dX17_playTo_18 ?_
      obtain ⟨v4, hv, hw⟩ := sv_bd hw
      refine sv_rgI hx hb hown hC.1 hR (fl_X17_playTo_98 hts hC hni) rfl (by decide) rfl rfl hv dX17_playTo_21 ?_
      refine lv_icmp_le (tgt := 29) hx hb dX17_playTo_24 (by decide) (fun cc => ?_) (fun cc => ?_)
      · have hw := sv_ift cc hw
        refine lv_aload_n hx hb dX17_playTo_29 rfl (lv_at hl 0 rfl) ?_
        obtain ⟨_, h5, hv1, hw⟩ := sv_b_some hw
        refine sv_call (va_runV (As := []) (rest := []) ⟨hx, hb, hml, hown, hts⟩ (mt_X17_begin l G B hv1) (cwV 0 hts (sv_gV wd_1936 wd_1938 wd_78 wd_144 wd_1939) rfl rfl rfl (by decide +kernel) ⟨Nat.le_of_ble_eq_true rfl, Nat.le_of_ble_eq_true rfl⟩) ⟨sv_blind, sv_recv hC.1 hR (ci := 17) (sv_go hv1).1 (by decide) rfl, fun U hU hW => sv_pre hC hR hS hBs hU hW⟩ rfl rfl hl.1 rfl (lv_room (Nat.le_of_ble_eq_true rfl)) dX17_playTo_30 ⟨Nat.zero_le _, Nat.zero_le _⟩) hS (fun H locs hR hS => ?_)
        refine lv_iconst (v := 0) hx hb dX17_playTo_33 (by decide) ?_
        refine lv_istore_n (lv' := [(2, .int 0), (0, .ref x0), (1, .int x1)]) hx hb dX17_playTo_34 rfl hl (by decide) rfl (fun ls hl => ?_)
        refine lv_iconst (v := 0) hx hb dX17_playTo_35 (by decide) ?_
        refine lv_istore_n (lv' := [(3, .int 0), (2, .int 0), (0, .ref x0), (1, .int x1)]) hx hb dX17_playTo_36 rfl hl (by decide) rfl (fun ls hl => ?_)
        exact lk_X17_playTo_37 K sv_fuel hw hR hS (lv_sub hl [2, 3, 1, 0] rfl)
      · have hw := sv_iff cc hw
        exact lk_X17_playTo_27 K hw hR hS (lv_sub hl [] rfl)
set_option maxHeartbeats 4000000 in
set_option maxRecDepth 100000 in
theorem mt_X17_playTo (l : Launch) (G : sv_G) (B : Nat) {x0 : Nat} {x1 : Int32} {h : sv_H} {r : Int32} {hE : sv_H} (hw : fn_X17_playTo x0 x1 h = some (r, hE)) : Met l yX17_playTo (.code yX17_playTo cX17_playTo 4 (some .int) :: sv_tb) rm_X17_playTo (sv_Pc G B [.ref x0, .int x1] h) (sv_Q G B (some (.int r)) hE) 0 0 (fun q => B ≤ q) := by
  refine Met.ofW (cc := cX17_playTo) (maxL := 4) (ret := (some .int)) (by decide +kernel) rfl ?_
  intro p e s m args below meth c s₁ Bd hml hv
  obtain ⟨rfl, hR, hC, hB⟩ := hv
  have hl := lv_entry ([.ref x0, .int x1]) (n := 4) (Nat.le_of_ble_eq_true rfl)
  rw [lg_entry_eq]
  generalize (lg_sl ([.ref x0, .int x1]) ++ List.replicate (4 - (lg_sl ([.ref x0, .int x1])).length) Slot.unset).toArray = ls at hl ⊢
  have hl : lv_has ls 4 [(0, .ref x0), (1, .int x1)] := hl
  exact lk_X17_playTo_0 ⟨Bd.exec, Bd.bytes, hml, findClass_of_methodNamed Bd.named, fun w h => atoms_spec (ws := .code yX17_playTo cX17_playTo 4 (some .int) :: sv_tb) Bd.pre w (List.mem_cons_of_mem _ h), hC, Bd.notSynchronized, Bd.returns, hB, (name_of_methodNamed Bd.named Bd.method).1⟩ hw hR va_S.rf hl

def rm_X12_stepBy : Room := { frames := 6, cells := 0, slots := 0, locals := 181 }
theorem fl_X12_stepBy_53 {s : State} {meth : Method} {args : Array Value} {G : sv_G} {B : Nat} (hts : ∀ w ∈ sv_tb, w.before args s = true) (hC : sv_Cx G B s s.heap) (hni : meth.name = "stepBy") : sv_FL s meth args vwCl RX12 53 12 4 (.object "SectorView$Walk") false :=
  ⟨_, RX12, TX12, 11, sv_tb, tyX12, rfl, by decide, hts, uw_X12, Or.inl (hts _ wd_689), fun _ h => h, tyX12_ok 4 (by decide), tyX12_ok, nmX12, fun h => by cases h⟩
set_option maxHeartbeats 4000000 in
set_option maxRecDepth 100000 in
theorem lk_X12_stepBy_16 {p : Program} {l : Launch} {e : Env} {s : State} {m : MethodId} {args : Array Value} {below : List Frame} {meth : Method} {c : Code} {G : sv_G} {B : Nat} (K : sv_W p s m args meth c cX12_stepBy RX12 5 (some .int) G B "stepBy") {r : Int32} {hE : sv_H} {h : sv_H} (hw : fn_X12_stepBy_16 h = some (r, hE)) {H : Heap} {locs : List Loc} {ls : Array Slot} (hR : sv_R G vwCl sv_ft B h H) (hS : va_S (fun q => B ≤ q) s.heap H locs) (hl : lv_has ls 5 []) : W p l e rm_X12_stepBy s m args below meth c H locs 0 0 (sv_Z below s args G B (some (.int r)) hE) (F0 m 16 ls []) := by
  obtain ⟨hx, hb, hml, hown, hts, hC, hlk, hr, hBs, hni⟩ := id K
  unfold fn_X12_stepBy_16 at hw
  refine lv_iconst (v := (-1)) hx hb dX12_stepBy_16 (by decide) ?_
  obtain ⟨rfl, rfl⟩ := sv_ret hw
  exact W.iret hx hb hr (fun t ht hW => ⟨⟨rfl, by rw [ht]; exact hR⟩, hS.F ht⟩) hS.2.2 dX12_stepBy_17
set_option maxHeartbeats 4000000 in
set_option maxRecDepth 100000 in
theorem lk_X12_stepBy_0 {p : Program} {l : Launch} {e : Env} {s : State} {m : MethodId} {args : Array Value} {below : List Frame} {meth : Method} {c : Code} {G : sv_G} {B : Nat} (K : sv_W p s m args meth c cX12_stepBy RX12 5 (some .int) G B "stepBy") {r : Int32} {hE : sv_H} {x0 : Nat} {x1 : Int32} {x2 : Int32} {x3 : Int32} {x4 : Int32} {h : sv_H} (hw : fn_X12_stepBy x0 x1 x2 x3 x4 h = some (r, hE)) {H : Heap} {locs : List Loc} {ls : Array Slot} (hR : sv_R G vwCl sv_ft B h H) (hS : va_S (fun q => B ≤ q) s.heap H locs) (hl : lv_has ls 5 [(0, .ref x0), (1, .int x1), (2, .int x2), (3, .int x3), (4, .int x4)]) : W p l e rm_X12_stepBy s m args below meth c H locs 0 0 (sv_Z below s args G B (some (.int r)) hE) (F0 m 0 ls []) := by
  obtain ⟨hx, hb, hml, hown, hts, hC, hlk, hr, hBs, hni⟩ := id K
  unfold fn_X12_stepBy at hw
  have hw := (sv_go hw).2
  refine lv_aload_n hx hb dX12_stepBy_0 rfl (lv_at hl 0 rfl) ?_
  obtain ⟨r1, h2, hv1, hw⟩ := sv_b_some hw
  refine sv_call (va_runV (As := []) (rest := []) ⟨hx, hb, hml, hown, hts⟩ (mt_X12_hasMap l G B hv1) (cwV 0 hts (sv_gV wd_1039 wd_1041 wd_27 wd_131 wd_1042) rfl rfl rfl (by decide +kernel) ⟨Nat.le_of_ble_eq_true rfl, Nat.le_of_ble_eq_true rfl⟩) ⟨sv_blind, sv_recv hC.1 hR (ci := 12) (sv_go hv1).1 (by decide) rfl, fun U hU hW => sv_pre hC hR hS hBs hU hW⟩ rfl rfl hl.1 rfl (lv_room (Nat.le_of_ble_eq_true rfl)) dX12_stepBy_1 ⟨Nat.zero_le _, Nat.zero_le _⟩) hS (fun H locs hR hS => ?_)
  refine lv_if_eq (tgt := 16) hx hb dX12_stepBy_4 (by decide) (fun cc => ?_) (fun cc => ?_)
  · have hw := sv_ift cc hw
    exact lk_X12_stepBy_16 K hw hR hS (lv_sub hl [] rfl)
  · have hw := sv_iff cc hw
    refine lv_iload_n hx hb dX12_stepBy_7 rfl (lv_at hl 1 rfl) ?_
    refine lv_iload_n hx hb dX12_stepBy_8 rfl (lv_at hl 2 rfl) ?_
    refine lv_iload_n hx hb dX12_stepBy_9 rfl (lv_at hl 3 rfl) ?_
    obtain ⟨r3, h4, hv2, hw⟩ := sv_b_some hw
    refine sv_call (va_runS (As := [.int x1, .int x2, .int x3]) (rest := []) ⟨hx, hb, hml, hown, hts⟩ (mt_X5_isInput l G B hv2) (va_cwS 3 hts (sv_gS wd_1101 wd_1102 wd_143 wd_1103) rfl rfl rfl (by decide +kernel) ⟨Nat.le_of_ble_eq_true rfl, Nat.le_of_ble_eq_true rfl⟩) ⟨sv_blind, fun U hU hW => sv_pre hC hR hS hBs hU hW⟩ rfl rfl hl.1 rfl (lv_room (Nat.le_of_ble_eq_true rfl)) dX12_stepBy_10 ⟨Nat.zero_le _, Nat.zero_le _⟩) hS (fun H locs hR hS => ?_)
    refine lv_if_ne (tgt := 18) hx hb dX12_stepBy_13 (by decide) (fun cc => ?_) (fun cc => ?_)
    · have hw := sv_iff cc hw
      refine lv_aload_n hx hb dX12_stepBy_18 rfl (lv_at hl 0 rfl) ?_
      obtain ⟨v5, hv, hw⟩ := sv_bd hw
      refine sv_rgP hx hb hown hC.1 hR (fl_X12_stepBy_53 hts hC hni) rfl (by decide) rfl rfl hv dX12_stepBy_19 ?_
      refine lv_iload_n hx hb dX12_stepBy_22 rfl (lv_at hl 1 rfl) ?_
      refine lv_iload_n hx hb dX12_stepBy_23 rfl (lv_at hl 2 rfl) ?_
      refine lv_iload_n hx hb dX12_stepBy_24 rfl (lv_at hl 3 rfl) ?_
      refine lv_iload hx hb dX12_stepBy_25 (lv_at hl 4 rfl) ?_
      obtain ⟨r6, h7, hv3, hw⟩ := sv_b_some hw
      refine sv_call (va_runS (As := [.int x1, .int x2, .int x3, .int x4]) (rest := [.ref v5]) ⟨hx, hb, hml, hown, hts⟩ (mt_X5_inputOf l G B hv3) (va_cwS 4 hts (sv_gS wd_1104 wd_1021 wd_143 wd_1022) rfl rfl rfl (by decide +kernel) ⟨Nat.le_of_ble_eq_true rfl, Nat.le_of_ble_eq_true rfl⟩) ⟨sv_blind, fun U hU hW => sv_pre hC hR hS hBs hU hW⟩ rfl rfl hl.1 rfl (lv_room (Nat.le_of_ble_eq_true rfl)) dX12_stepBy_27 ⟨Nat.zero_le _, Nat.zero_le _⟩) hS (fun H locs hR hS => ?_)
      obtain ⟨r8, h9, hv4, hw⟩ := sv_b_some hw
      refine sv_call (va_runV (As := [.int r6]) (rest := []) ⟨hx, hb, hml, hown, hts⟩ (mt_X10_step l G B hv4) (cwV 1 hts (sv_gV wd_1114 wd_1115 wd_1116 wd_141 wd_1117) rfl rfl rfl (by decide +kernel) ⟨Nat.le_of_ble_eq_true rfl, Nat.le_of_ble_eq_true rfl⟩) ⟨sv_blind, sv_recv hC.1 hR (ci := 10) (sv_go hv4).1 (by decide) rfl, fun U hU hW => sv_pre hC hR hS hBs hU hW⟩ rfl rfl hl.1 rfl (lv_room (Nat.le_of_ble_eq_true rfl)) dX12_stepBy_30 ⟨Nat.zero_le _, Nat.zero_le _⟩) hS (fun H locs hR hS => ?_)
      obtain ⟨rfl, rfl⟩ := sv_ret hw
      exact W.iret hx hb hr (fun t ht hW => ⟨⟨rfl, by rw [ht]; exact hR⟩, hS.F ht⟩) hS.2.2 dX12_stepBy_33
    · have hw := sv_ift cc hw
      exact lk_X12_stepBy_16 K hw hR hS (lv_sub hl [] rfl)
set_option maxHeartbeats 4000000 in
set_option maxRecDepth 100000 in
theorem mt_X12_stepBy (l : Launch) (G : sv_G) (B : Nat) {x0 : Nat} {x1 : Int32} {x2 : Int32} {x3 : Int32} {x4 : Int32} {h : sv_H} {r : Int32} {hE : sv_H} (hw : fn_X12_stepBy x0 x1 x2 x3 x4 h = some (r, hE)) : Met l yX12_stepBy (.code yX12_stepBy cX12_stepBy 5 (some .int) :: sv_tb) rm_X12_stepBy (sv_Pc G B [.ref x0, .int x1, .int x2, .int x3, .int x4] h) (sv_Q G B (some (.int r)) hE) 0 0 (fun q => B ≤ q) := by
  refine Met.ofW (cc := cX12_stepBy) (maxL := 5) (ret := (some .int)) (by decide +kernel) rfl ?_
  intro p e s m args below meth c s₁ Bd hml hv
  obtain ⟨rfl, hR, hC, hB⟩ := hv
  have hl := lv_entry ([.ref x0, .int x1, .int x2, .int x3, .int x4]) (n := 5) (Nat.le_of_ble_eq_true rfl)
  rw [lg_entry_eq]
  generalize (lg_sl ([.ref x0, .int x1, .int x2, .int x3, .int x4]) ++ List.replicate (5 - (lg_sl ([.ref x0, .int x1, .int x2, .int x3, .int x4])).length) Slot.unset).toArray = ls at hl ⊢
  have hl : lv_has ls 5 [(0, .ref x0), (1, .int x1), (2, .int x2), (3, .int x3), (4, .int x4)] := hl
  exact lk_X12_stepBy_0 ⟨Bd.exec, Bd.bytes, hml, findClass_of_methodNamed Bd.named, fun w h => atoms_spec (ws := .code yX12_stepBy cX12_stepBy 5 (some .int) :: sv_tb) Bd.pre w (List.mem_cons_of_mem _ h), hC, Bd.notSynchronized, Bd.returns, hB, (name_of_methodNamed Bd.named Bd.method).1⟩ hw hR va_S.rf hl

def rm_X17_stepBy : Room := { frames := 10, cells := 0, slots := 0, locals := 233 }
theorem fl_X17_stepBy_60 {s : State} {meth : Method} {args : Array Value} {G : sv_G} {B : Nat} (hts : ∀ w ∈ sv_tb, w.before args s = true) (hC : sv_Cx G B s s.heap) (hni : meth.name = "stepBy") : sv_FL s meth args vwCl RX17 60 17 0 .int true :=
  ⟨_, RX17, TX17, 29, sv_tb, tyX17, rfl, by decide, hts, uw_X17, Or.inl (hts _ wd_1691), fun _ h => h, tyX17_ok 0 (by decide), tyX17_ok, nmX17, fun _ => Or.inl rfl⟩
theorem fl_X17_stepBy_77 {s : State} {meth : Method} {args : Array Value} {G : sv_G} {B : Nat} (hts : ∀ w ∈ sv_tb, w.before args s = true) (hC : sv_Cx G B s s.heap) (hni : meth.name = "stepBy") : sv_FL s meth args vwCl RX17 77 17 9 .boolean true :=
  ⟨_, RX17, TX17, 29, sv_tb, tyX17, rfl, by decide, hts, uw_X17, Or.inl (hts _ wd_1700), fun _ h => h, tyX17_ok 9 (by decide), tyX17_ok, nmX17, fun _ => Or.inl rfl⟩
set_option maxHeartbeats 4000000 in
set_option maxRecDepth 100000 in
theorem lk_X17_stepBy_64 {p : Program} {l : Launch} {e : Env} {s : State} {m : MethodId} {args : Array Value} {below : List Frame} {meth : Method} {c : Code} {G : sv_G} {B : Nat} (K : sv_W p s m args meth c cX17_stepBy RX17 6 (some .int) G B "stepBy") {r : Int32} {hE : sv_H} {s0 : Int32} {h : sv_H} (hw : fn_X17_stepBy_64 s0 h = some (r, hE)) {H : Heap} {locs : List Loc} {ls : Array Slot} (hR : sv_R G vwCl sv_ft B h H) (hS : va_S (fun q => B ≤ q) s.heap H locs) (hl : lv_has ls 6 []) : W p l e rm_X17_stepBy s m args below meth c H locs 0 0 (sv_Z below s args G B (some (.int r)) hE) (F0 m 64 ls [.int s0]) := by
  obtain ⟨hx, hb, hml, hown, hts, hC, hlk, hr, hBs, hni⟩ := id K
  unfold fn_X17_stepBy_64 at hw
  obtain ⟨rfl, rfl⟩ := sv_ret hw
  exact W.iret hx hb hr (fun t ht hW => ⟨⟨rfl, by rw [ht]; exact hR⟩, hS.F ht⟩) hS.2.2 dX17_stepBy_64
set_option maxHeartbeats 4000000 in
set_option maxRecDepth 100000 in
theorem lk_X17_stepBy_44 {p : Program} {l : Launch} {e : Env} {s : State} {m : MethodId} {args : Array Value} {below : List Frame} {meth : Method} {c : Code} {G : sv_G} {B : Nat} (K : sv_W p s m args meth c cX17_stepBy RX17 6 (some .int) G B "stepBy") {r : Int32} {hE : sv_H} {x0 : Nat} {x1 : Int32} {x2 : Int32} {x3 : Int32} {x4 : Int32} {s0 : Int32} {h : sv_H} (hw : fn_X17_stepBy_44 x0 x1 x2 x3 x4 s0 h = some (r, hE)) {H : Heap} {locs : List Loc} {ls : Array Slot} (hR : sv_R G vwCl sv_ft B h H) (hS : va_S (fun q => B ≤ q) s.heap H locs) (hl : lv_has ls 6 [(0, .ref x0), (1, .int x1), (2, .int x2), (3, .int x3), (4, .int x4)]) : W p l e rm_X17_stepBy s m args below meth c H locs 0 0 (sv_Z below s args G B (some (.int r)) hE) (F0 m 44 ls [.int s0]) := by
  obtain ⟨hx, hb, hml, hown, hts, hC, hlk, hr, hBs, hni⟩ := id K
  unfold fn_X17_stepBy_44 at hw
  refine lv_istore (lv' := [(5, .int s0), (0, .ref x0), (1, .int x1), (2, .int x2), (3, .int x3), (4, .int x4)]) hx hb dX17_stepBy_44 hl (by decide) rfl (fun ls hl => ?_)
  refine lv_iload hx hb dX17_stepBy_46 (lv_at hl 0 rfl) ?_
  refine lv_if_eq (tgt := 63) hx hb dX17_stepBy_48 (by decide) (fun cc => ?_) (fun cc => ?_)
  · have hw := sv_ift cc hw
    refine lv_iconst (v := (-1)) hx hb dX17_stepBy_63 (by decide) ?_
    exact lk_X17_stepBy_64 K hw hR hS (lv_sub hl [] rfl)
  · have hw := sv_iff cc hw
    refine lv_aload_n hx hb dX17_stepBy_51 rfl (lv_at hl 1 rfl) ?_
    refine lv_iload_n hx hb dX17_stepBy_52 rfl (lv_at hl 2 rfl) ?_
    refine lv_iload_n hx hb dX17_stepBy_53 rfl (lv_at hl 3 rfl) ?_
    refine lv_iload_n hx hb dX17_stepBy_54 rfl (lv_at hl 4 rfl) ?_
    refine lv_iload hx hb dX17_stepBy_55 (lv_at hl 5 rfl) ?_
    obtain ⟨r1, h2, hv1, hw⟩ := sv_b_some hw
    refine sv_call (va_runV (As := [.int x1, .int x2, .int x3, .int x4]) (rest := []) ⟨hx, hb, hml, hown, hts⟩ (mt_X17_go l G B hv1) (cwV 4 hts (sv_gV wd_2168 wd_2170 wd_106 wd_144 wd_2171) rfl rfl rfl (by decide +kernel) ⟨Nat.le_of_ble_eq_true rfl, Nat.le_of_ble_eq_true rfl⟩) ⟨sv_blind, sv_recv hC.1 hR (ci := 17) (sv_go hv1).1 (by decide) rfl, fun U hU hW => sv_pre hC hR hS hBs hU hW⟩ rfl rfl hl.1 rfl (lv_room (Nat.le_of_ble_eq_true rfl)) dX17_stepBy_57 ⟨Nat.zero_le _, Nat.zero_le _⟩) hS (fun H locs hR hS => ?_)
    refine lv_goto (tgt := 64) hx hb dX17_stepBy_60 (by decide) ?_
    exact lk_X17_stepBy_64 K hw hR hS (lv_sub hl [] rfl)
set_option maxHeartbeats 4000000 in
set_option maxRecDepth 100000 in
theorem lk_X17_stepBy_43 {p : Program} {l : Launch} {e : Env} {s : State} {m : MethodId} {args : Array Value} {below : List Frame} {meth : Method} {c : Code} {G : sv_G} {B : Nat} (K : sv_W p s m args meth c cX17_stepBy RX17 6 (some .int) G B "stepBy") {r : Int32} {hE : sv_H} {x0 : Nat} {x1 : Int32} {x2 : Int32} {x3 : Int32} {x4 : Int32} {h : sv_H} (hw : fn_X17_stepBy_43 x0 x1 x2 x3 x4 h = some (r, hE)) {H : Heap} {locs : List Loc} {ls : Array Slot} (hR : sv_R G vwCl sv_ft B h H) (hS : va_S (fun q => B ≤ q) s.heap H locs) (hl : lv_has ls 6 [(0, .ref x0), (1, .int x1), (2, .int x2), (3, .int x3), (4, .int x4)]) : W p l e rm_X17_stepBy s m args below meth c H locs 0 0 (sv_Z below s args G B (some (.int r)) hE) (F0 m 43 ls []) := by
  obtain ⟨hx, hb, hml, hown, hts, hC, hlk, hr, hBs, hni⟩ := id K
  unfold fn_X17_stepBy_43 at hw
  refine lv_iconst (v := 0) hx hb dX17_stepBy_43 (by decide) ?_
  exact lk_X17_stepBy_44 K hw hR hS (lv_sub hl [0, 1, 2, 3, 4] rfl)
set_option maxHeartbeats 4000000 in
set_option maxRecDepth 100000 in
theorem lk_X17_stepBy_0 {p : Program} {l : Launch} {e : Env} {s : State} {m : MethodId} {args : Array Value} {below : List Frame} {meth : Method} {c : Code} {G : sv_G} {B : Nat} (K : sv_W p s m args meth c cX17_stepBy RX17 6 (some .int) G B "stepBy") {r : Int32} {hE : sv_H} {x0 : Nat} {x1 : Int32} {x2 : Int32} {x3 : Int32} {x4 : Int32} {h : sv_H} (hw : fn_X17_stepBy x0 x1 x2 x3 x4 h = some (r, hE)) {H : Heap} {locs : List Loc} {ls : Array Slot} (hR : sv_R G vwCl sv_ft B h H) (hS : va_S (fun q => B ≤ q) s.heap H locs) (hl : lv_has ls 6 [(0, .ref x0), (1, .int x1), (2, .int x2), (3, .int x3), (4, .int x4)]) : W p l e rm_X17_stepBy s m args below meth c H locs 0 0 (sv_Z below s args G B (some (.int r)) hE) (F0 m 0 ls []) := by
  obtain ⟨hx, hb, hml, hown, hts, hC, hlk, hr, hBs, hni⟩ := id K
  unfold fn_X17_stepBy at hw
  have hw := (sv_go hw).2
  refine lv_aload_n hx hb dX17_stepBy_0 rfl (lv_at hl 0 rfl) ?_
  refine lv_iconst (v := 0) hx hb dX17_stepBy_1 (by decide) ?_
  obtain ⟨h1, hv, hw⟩ := sv_bd hw
  refine sv_rpI hx hb hown hC.1 hR hS (fl_X17_stepBy_60 hts hC hni) rfl (by decide) rfl rfl hv dX17_stepBy_2 (fun H locs hR hS => ?_)
  refine lv_aload_n hx hb dX17_stepBy_5 rfl (lv_at hl 0 rfl) ?_
  obtain ⟨v2, hv, hw⟩ := sv_bd hw
  refine sv_rgI hx hb hown hC.1 hR (fl_X17_stepBy_77 hts hC hni) rfl (by decide) rfl rfl hv dX17_stepBy_6 ?_
  refine lv_if_eq (tgt := 43) hx hb dX17_stepBy_9 (by decide) (fun cc => ?_) (fun cc => ?_)
  · have hw := sv_ift cc hw
    exact lk_X17_stepBy_43 K hw hR hS (lv_sub hl [0, 1, 2, 3, 4] rfl)
  · have hw := sv_iff cc hw
    refine lv_iload_n hx hb dX17_stepBy_12 rfl (lv_at hl 1 rfl) ?_
    refine lv_bipush (v := 64) hx hb dX17_stepBy_13 (by decide) ?_
    obtain ⟨r3, h4, hv1, hw⟩ := sv_b_some hw
    refine sv_call (va_runSN (As := [.int x1, .int 64]) (rest := []) ⟨hx, hb, hml, hown, hts⟩ (mt_X15_isIn l G B hv1) ⟨va_cnB 2 hts (sv_gd wd_2155) rfl rfl rfl (hC.2.1 (.methodLinkNest "SectorViewModel" 359 ⟨"SectorViewModel$Tape", "isIn", "(II)Z"⟩ "SectorViewModel") (by decide +kernel)) (hts _ wd_146) (by decide +kernel) ⟨Nat.le_of_ble_eq_true rfl, Nat.le_of_ble_eq_true rfl⟩, hts _ wd_2154, trivial⟩ ⟨sv_blind, fun U hU hW => sv_pre hC hR hS hBs hU hW⟩ rfl rfl hl.1 rfl (lv_room (Nat.le_of_ble_eq_true rfl)) dX17_stepBy_15 ⟨Nat.zero_le _, Nat.zero_le _⟩) hS (fun H locs hR hS => ?_)
    refine lv_if_eq (tgt := 43) hx hb dX17_stepBy_18 (by decide) (fun cc => ?_) (fun cc => ?_)
    · have hw := sv_ift cc hw
      exact lk_X17_stepBy_43 K hw hR hS (lv_sub hl [0, 1, 2, 3, 4] rfl)
    · have hw := sv_iff cc hw
      refine lv_iload_n hx hb dX17_stepBy_21 rfl (lv_at hl 2 rfl) ?_
      refine lv_bipush (v := 64) hx hb dX17_stepBy_22 (by decide) ?_
      obtain ⟨r5, h6, hv2, hw⟩ := sv_b_some hw
      refine sv_call (va_runSN (As := [.int x2, .int 64]) (rest := []) ⟨hx, hb, hml, hown, hts⟩ (mt_X15_isIn l G B hv2) ⟨va_cnB 2 hts (sv_gd wd_2155) rfl rfl rfl (hC.2.1 (.methodLinkNest "SectorViewModel" 359 ⟨"SectorViewModel$Tape", "isIn", "(II)Z"⟩ "SectorViewModel") (by decide +kernel)) (hts _ wd_146) (by decide +kernel) ⟨Nat.le_of_ble_eq_true rfl, Nat.le_of_ble_eq_true rfl⟩, hts _ wd_2154, trivial⟩ ⟨sv_blind, fun U hU hW => sv_pre hC hR hS hBs hU hW⟩ rfl rfl hl.1 rfl (lv_room (Nat.le_of_ble_eq_true rfl)) dX17_stepBy_24 ⟨Nat.zero_le _, Nat.zero_le _⟩) hS (fun H locs hR hS => ?_)
      refine lv_if_eq (tgt := 43) hx hb dX17_stepBy_27 (by decide) (fun cc => ?_) (fun cc => ?_)
      · have hw := sv_ift cc hw
        exact lk_X17_stepBy_43 K hw hR hS (lv_sub hl [0, 1, 2, 3, 4] rfl)
      · have hw := sv_iff cc hw
        refine lv_iload_n hx hb dX17_stepBy_30 rfl (lv_at hl 3 rfl) ?_
        refine lv_bipush (v := 16) hx hb dX17_stepBy_31 (by decide) ?_
        obtain ⟨r7, h8, hv3, hw⟩ := sv_b_some hw
        refine sv_call (va_runSN (As := [.int x3, .int 16]) (rest := []) ⟨hx, hb, hml, hown, hts⟩ (mt_X15_isIn l G B hv3) ⟨va_cnB 2 hts (sv_gd wd_2155) rfl rfl rfl (hC.2.1 (.methodLinkNest "SectorViewModel" 359 ⟨"SectorViewModel$Tape", "isIn", "(II)Z"⟩ "SectorViewModel") (by decide +kernel)) (hts _ wd_146) (by decide +kernel) ⟨Nat.le_of_ble_eq_true rfl, Nat.le_of_ble_eq_true rfl⟩, hts _ wd_2154, trivial⟩ ⟨sv_blind, fun U hU hW => sv_pre hC hR hS hBs hU hW⟩ rfl rfl hl.1 rfl (lv_room (Nat.le_of_ble_eq_true rfl)) dX17_stepBy_33 ⟨Nat.zero_le _, Nat.zero_le _⟩) hS (fun H locs hR hS => ?_)
        refine lv_if_eq (tgt := 43) hx hb dX17_stepBy_36 (by decide) (fun cc => ?_) (fun cc => ?_)
        · have hw := sv_ift cc hw
          exact lk_X17_stepBy_43 K hw hR hS (lv_sub hl [0, 1, 2, 3, 4] rfl)
        · have hw := sv_iff cc hw
          refine lv_iconst (v := 1) hx hb dX17_stepBy_39 (by decide) ?_
          refine lv_goto (tgt := 44) hx hb dX17_stepBy_40 (by decide) ?_
          exact lk_X17_stepBy_44 K hw hR hS (lv_sub hl [0, 1, 2, 3, 4] rfl)
set_option maxHeartbeats 4000000 in
set_option maxRecDepth 100000 in
theorem mt_X17_stepBy (l : Launch) (G : sv_G) (B : Nat) {x0 : Nat} {x1 : Int32} {x2 : Int32} {x3 : Int32} {x4 : Int32} {h : sv_H} {r : Int32} {hE : sv_H} (hw : fn_X17_stepBy x0 x1 x2 x3 x4 h = some (r, hE)) : Met l yX17_stepBy (.code yX17_stepBy cX17_stepBy 6 (some .int) :: sv_tb) rm_X17_stepBy (sv_Pc G B [.ref x0, .int x1, .int x2, .int x3, .int x4] h) (sv_Q G B (some (.int r)) hE) 0 0 (fun q => B ≤ q) := by
  refine Met.ofW (cc := cX17_stepBy) (maxL := 6) (ret := (some .int)) (by decide +kernel) rfl ?_
  intro p e s m args below meth c s₁ Bd hml hv
  obtain ⟨rfl, hR, hC, hB⟩ := hv
  have hl := lv_entry ([.ref x0, .int x1, .int x2, .int x3, .int x4]) (n := 6) (Nat.le_of_ble_eq_true rfl)
  rw [lg_entry_eq]
  generalize (lg_sl ([.ref x0, .int x1, .int x2, .int x3, .int x4]) ++ List.replicate (6 - (lg_sl ([.ref x0, .int x1, .int x2, .int x3, .int x4])).length) Slot.unset).toArray = ls at hl ⊢
  have hl : lv_has ls 6 [(0, .ref x0), (1, .int x1), (2, .int x2), (3, .int x3), (4, .int x4)] := hl
  exact lk_X17_stepBy_0 ⟨Bd.exec, Bd.bytes, hml, findClass_of_methodNamed Bd.named, fun w h => atoms_spec (ws := .code yX17_stepBy cX17_stepBy 6 (some .int) :: sv_tb) Bd.pre w (List.mem_cons_of_mem _ h), hC, Bd.notSynchronized, Bd.returns, hB, (name_of_methodNamed Bd.named Bd.method).1⟩ hw hR va_S.rf hl

def rm_X10_eye : Room := { frames := 0, cells := 0, slots := 0, locals := 0 }
theorem fl_X10_eye_15 {s : State} {meth : Method} {args : Array Value} {G : sv_G} {B : Nat} (hts : ∀ w ∈ sv_tb, w.before args s = true) (hC : sv_Cx G B s s.heap) (hni : meth.name = "eye") : sv_FL s meth args vwCl RX10 15 10 1 (.object "SectorView$Plan") true :=
  ⟨_, RX10, TX10, 7, sv_tb, tyX10, rfl, by decide, hts, uw_X10, Or.inl (hts _ wd_598), fun _ h => h, tyX10_ok 1 (by decide), tyX10_ok, nmX10, fun _ => Or.inl rfl⟩
theorem fl_X10_eye_46 {s : State} {meth : Method} {args : Array Value} {G : sv_G} {B : Nat} (hts : ∀ w ∈ sv_tb, w.before args s = true) (hC : sv_Cx G B s s.heap) (hni : meth.name = "eye") : sv_FL s meth args vwCl RX10 46 2 7 (.array (.object "SectorView$Sector")) false :=
  ⟨_, RX2, TX2, 13, sv_tb, tyX2, rfl, by decide, hts, uw_X2, Or.inl (hts _ wd_492), fun _ h => h, tyX2_ok 7 (by decide), tyX2_ok, nmX2, fun h => by cases h⟩
theorem fl_X10_eye_42 {s : State} {meth : Method} {args : Array Value} {G : sv_G} {B : Nat} (hts : ∀ w ∈ sv_tb, w.before args s = true) (hC : sv_Cx G B s s.heap) (hni : meth.name = "eye") : sv_FL s meth args vwCl RX10 42 10 5 .int true :=
  ⟨_, RX10, TX10, 7, sv_tb, tyX10, rfl, by decide, hts, uw_X10, Or.inl (hts _ wd_609), fun _ h => h, tyX10_ok 5 (by decide), tyX10_ok, nmX10, fun _ => Or.inl rfl⟩
theorem fl_X10_eye_50 {s : State} {meth : Method} {args : Array Value} {G : sv_G} {B : Nat} (hts : ∀ w ∈ sv_tb, w.before args s = true) (hC : sv_Cx G B s s.heap) (hni : meth.name = "eye") : sv_FL s meth args vwCl RX10 50 6 7 .int true :=
  ⟨_, RX6, TX6, 14, sv_tb, tyX6, rfl, by decide, hts, uw_X6, Or.inl (hts _ wd_370), fun _ h => h, tyX6_ok 7 (by decide), tyX6_ok, nmX6, fun _ => Or.inl rfl⟩
set_option maxHeartbeats 4000000 in
set_option maxRecDepth 100000 in
theorem lk_X10_eye_0 {p : Program} {l : Launch} {e : Env} {s : State} {m : MethodId} {args : Array Value} {below : List Frame} {meth : Method} {c : Code} {G : sv_G} {B : Nat} (K : sv_W p s m args meth c cX10_eye RX10 1 (some .int) G B "eye") {r : Int32} {hE : sv_H} {x0 : Nat} {h : sv_H} (hw : fn_X10_eye x0 h = some (r, hE)) {H : Heap} {locs : List Loc} {ls : Array Slot} (hR : sv_R G vwCl sv_ft B h H) (hS : va_S (fun q => B ≤ q) s.heap H locs) (hl : lv_has ls 1 [(0, .ref x0)]) : W p l e rm_X10_eye s m args below meth c H locs 0 0 (sv_Z below s args G B (some (.int r)) hE) (F0 m 0 ls []) := by
  obtain ⟨hx, hb, hml, hown, hts, hC, hlk, hr, hBs, hni⟩ := id K
  unfold fn_X10_eye at hw
  have hw := (sv_go hw).2
  refine lv_aload_n hx hb dX10_eye_0 rfl (lv_at hl 0 rfl) ?_
  obtain ⟨v1, hv, hw⟩ := sv_bd hw
  refine sv_rgP hx hb hown hC.1 hR (fl_X10_eye_15 hts hC hni) rfl (by decide) rfl rfl hv dX10_eye_1 ?_
  obtain ⟨v2, hv, hw⟩ := sv_bd hw
  refine sv_rgP hx hb hown hC.1 hR (fl_X10_eye_46 hts hC hni) rfl (by decide) rfl rfl hv dX10_eye_4 ?_
  refine lv_aload_n hx hb dX10_eye_7 rfl (lv_at hl 0 rfl) ?_
  obtain ⟨v3, hv, hw⟩ := sv_bd hw
  refine sv_rgI hx hb hown hC.1 hR (fl_X10_eye_42 hts hC hni) rfl (by decide) rfl rfl hv dX10_eye_8 ?_
  obtain ⟨v4, hv, hw⟩ := sv_bd hw
  refine sv_rlP hx hb hC.1 (c1 := 917) (C := "SectorView$Sector") rfl (by decide) hR hv dX10_eye_11 ?_
  obtain ⟨v5, hv, hw⟩ := sv_bd hw
  refine sv_rgI hx hb hown hC.1 hR (fl_X10_eye_50 hts hC hni) rfl (by decide) rfl rfl hv dX10_eye_12 ?_
  refine lv_bipush (v := 41) hx hb dX10_eye_15 (by decide) ?_
  refine lv_iadd hx hb dX10_eye_17 ?_
  obtain ⟨rfl, rfl⟩ := sv_ret hw
  exact W.iret hx hb hr (fun t ht hW => ⟨⟨rfl, by rw [ht]; exact hR⟩, hS.F ht⟩) hS.2.2 dX10_eye_18
set_option maxHeartbeats 4000000 in
set_option maxRecDepth 100000 in
theorem mt_X10_eye (l : Launch) (G : sv_G) (B : Nat) {x0 : Nat} {h : sv_H} {r : Int32} {hE : sv_H} (hw : fn_X10_eye x0 h = some (r, hE)) : Met l yX10_eye (.code yX10_eye cX10_eye 1 (some .int) :: sv_tb) rm_X10_eye (sv_Pc G B [.ref x0] h) (sv_Q G B (some (.int r)) hE) 0 0 (fun q => B ≤ q) := by
  refine Met.ofW (cc := cX10_eye) (maxL := 1) (ret := (some .int)) (by decide +kernel) rfl ?_
  intro p e s m args below meth c s₁ Bd hml hv
  obtain ⟨rfl, hR, hC, hB⟩ := hv
  have hl := lv_entry ([.ref x0]) (n := 1) (Nat.le_of_ble_eq_true rfl)
  rw [lg_entry_eq]
  generalize (lg_sl ([.ref x0]) ++ List.replicate (1 - (lg_sl ([.ref x0])).length) Slot.unset).toArray = ls at hl ⊢
  have hl : lv_has ls 1 [(0, .ref x0)] := hl
  exact lk_X10_eye_0 ⟨Bd.exec, Bd.bytes, hml, findClass_of_methodNamed Bd.named, fun w h => atoms_spec (ws := .code yX10_eye cX10_eye 1 (some .int) :: sv_tb) Bd.pre w (List.mem_cons_of_mem _ h), hC, Bd.notSynchronized, Bd.returns, hB, (name_of_methodNamed Bd.named Bd.method).1⟩ hw hR va_S.rf hl

def rm_X12_walkerOf : Room := { frames := 1, cells := 0, slots := 0, locals := 20 }
theorem fl_X12_walkerOf_53 {s : State} {meth : Method} {args : Array Value} {G : sv_G} {B : Nat} (hts : ∀ w ∈ sv_tb, w.before args s = true) (hC : sv_Cx G B s s.heap) (hni : meth.name = "walkerOf") : sv_FL s meth args vwCl RX12 53 12 4 (.object "SectorView$Walk") false :=
  ⟨_, RX12, TX12, 11, sv_tb, tyX12, rfl, by decide, hts, uw_X12, Or.inl (hts _ wd_689), fun _ h => h, tyX12_ok 4 (by decide), tyX12_ok, nmX12, fun h => by cases h⟩
theorem fl_X12_walkerOf_184 {s : State} {meth : Method} {args : Array Value} {G : sv_G} {B : Nat} (hts : ∀ w ∈ sv_tb, w.before args s = true) (hC : sv_Cx G B s s.heap) (hni : meth.name = "walkerOf") : sv_FL s meth args vwCl RX12 184 10 2 .int true :=
  ⟨_, RX10, TX10, 7, sv_tb, tyX10, rfl, by decide, hts, uw_X10, Or.inl (hts _ wd_602), fun _ h => h, tyX10_ok 2 (by decide), tyX10_ok, nmX10, fun _ => Or.inl rfl⟩
theorem fl_X12_walkerOf_187 {s : State} {meth : Method} {args : Array Value} {G : sv_G} {B : Nat} (hts : ∀ w ∈ sv_tb, w.before args s = true) (hC : sv_Cx G B s s.heap) (hni : meth.name = "walkerOf") : sv_FL s meth args vwCl RX12 187 10 3 .int true :=
  ⟨_, RX10, TX10, 7, sv_tb, tyX10, rfl, by decide, hts, uw_X10, Or.inl (hts _ wd_605), fun _ h => h, tyX10_ok 3 (by decide), tyX10_ok, nmX10, fun _ => Or.inl rfl⟩
theorem fl_X12_walkerOf_190 {s : State} {meth : Method} {args : Array Value} {G : sv_G} {B : Nat} (hts : ∀ w ∈ sv_tb, w.before args s = true) (hC : sv_Cx G B s s.heap) (hni : meth.name = "walkerOf") : sv_FL s meth args vwCl RX12 190 10 4 .int true :=
  ⟨_, RX10, TX10, 7, sv_tb, tyX10, rfl, by decide, hts, uw_X10, Or.inl (hts _ wd_608), fun _ h => h, tyX10_ok 4 (by decide), tyX10_ok, nmX10, fun _ => Or.inl rfl⟩
theorem fl_X12_walkerOf_193 {s : State} {meth : Method} {args : Array Value} {G : sv_G} {B : Nat} (hts : ∀ w ∈ sv_tb, w.before args s = true) (hC : sv_Cx G B s s.heap) (hni : meth.name = "walkerOf") : sv_FL s meth args vwCl RX12 193 10 5 .int true :=
  ⟨_, RX10, TX10, 7, sv_tb, tyX10, rfl, by decide, hts, uw_X10, Or.inl (hts _ wd_610), fun _ h => h, tyX10_ok 5 (by decide), tyX10_ok, nmX10, fun _ => Or.inl rfl⟩
theorem fl_X12_walkerOf_198 {s : State} {meth : Method} {args : Array Value} {G : sv_G} {B : Nat} (hts : ∀ w ∈ sv_tb, w.before args s = true) (hC : sv_Cx G B s s.heap) (hni : meth.name = "walkerOf") : sv_FL s meth args vwCl RX12 198 10 6 .int true :=
  ⟨_, RX10, TX10, 7, sv_tb, tyX10, rfl, by decide, hts, uw_X10, Or.inl (hts _ wd_613), fun _ h => h, tyX10_ok 6 (by decide), tyX10_ok, nmX10, fun _ => Or.inl rfl⟩
set_option maxHeartbeats 4000000 in
set_option maxRecDepth 100000 in
theorem lk_X12_walkerOf_0 {p : Program} {l : Launch} {e : Env} {s : State} {m : MethodId} {args : Array Value} {below : List Frame} {meth : Method} {c : Code} {G : sv_G} {B : Nat} (K : sv_W p s m args meth c cX12_walkerOf RX12 2 (some .int) G B "walkerOf") {r : Int32} {hE : sv_H} {x0 : Nat} {x1 : Int32} {h : sv_H} (hw : fn_X12_walkerOf x0 x1 h = some (r, hE)) {H : Heap} {locs : List Loc} {ls : Array Slot} (hR : sv_R G vwCl sv_ft B h H) (hS : va_S (fun q => B ≤ q) s.heap H locs) (hl : lv_has ls 2 [(0, .ref x0), (1, .int x1)]) : W p l e rm_X12_walkerOf s m args below meth c H locs 0 0 (sv_Z below s args G B (some (.int r)) hE) (F0 m 0 ls []) := by
  obtain ⟨hx, hb, hml, hown, hts, hC, hlk, hr, hBs, hni⟩ := id K
  unfold fn_X12_walkerOf at hw
  have hw := (sv_go hw).2
  refine lv_aload_n hx hb dX12_walkerOf_0 rfl (lv_at hl 0 rfl) ?_
  obtain ⟨r1, h2, hv1, hw⟩ := sv_b_some hw
  refine sv_call (va_runV (As := []) (rest := []) ⟨hx, hb, hml, hown, hts⟩ (mt_X12_hasMap l G B hv1) (cwV 0 hts (sv_gV wd_1039 wd_1041 wd_27 wd_131 wd_1042) rfl rfl rfl (by decide +kernel) ⟨Nat.le_of_ble_eq_true rfl, Nat.le_of_ble_eq_true rfl⟩) ⟨sv_blind, sv_recv hC.1 hR (ci := 12) (sv_go hv1).1 (by decide) rfl, fun U hU hW => sv_pre hC hR hS hBs hU hW⟩ rfl rfl hl.1 rfl (lv_room (Nat.le_of_ble_eq_true rfl)) dX12_walkerOf_1 ⟨Nat.zero_le _, Nat.zero_le _⟩) hS (fun H locs hR hS => ?_)
  refine lv_if_ne (tgt := 10) hx hb dX12_walkerOf_4 (by decide) (fun cc => ?_) (fun cc => ?_)
  · have hw := sv_iff cc hw
    refine lv_iload_n hx hb dX12_walkerOf_10 rfl (lv_at hl 1 rfl) ?_
    refine sv_em (x1 = 0) (fun c0 => ?_) (fun c0 => ?_)
    · have hw := sv_ift c0 hw
      refine lv_tableIn (tgt := 48) (off := 37) hx hb dX12_walkerOf_11 (by rw [c0]; decide) (by rw [c0]; decide) (by rw [c0]; rfl) (by decide) ?_
      refine lv_aload_n hx hb dX12_walkerOf_48 rfl (lv_at hl 0 rfl) ?_
      obtain ⟨v3, hv, hw⟩ := sv_bd hw
      refine sv_rgP hx hb hown hC.1 hR (fl_X12_walkerOf_53 hts hC hni) rfl (by decide) rfl rfl hv dX12_walkerOf_49 ?_
      obtain ⟨v4, hv, hw⟩ := sv_bd hw
      refine sv_rgI hx hb hown hC.1 hR (fl_X12_walkerOf_184 hts hC hni) rfl (by decide) rfl rfl hv dX12_walkerOf_52 ?_
      obtain ⟨rfl, rfl⟩ := sv_ret hw
      exact W.iret hx hb hr (fun t ht hW => ⟨⟨rfl, by rw [ht]; exact hR⟩, hS.F ht⟩) hS.2.2 dX12_walkerOf_55
    have hw := sv_iff c0 hw
    refine sv_em (x1 = 1) (fun c1 => ?_) (fun c1 => ?_)
    · have hw := sv_ift c1 hw
      refine lv_tableIn (tgt := 56) (off := 45) hx hb dX12_walkerOf_11 (by rw [c1]; decide) (by rw [c1]; decide) (by rw [c1]; rfl) (by decide) ?_
      refine lv_aload_n hx hb dX12_walkerOf_56 rfl (lv_at hl 0 rfl) ?_
      obtain ⟨v5, hv, hw⟩ := sv_bd hw
      refine sv_rgP hx hb hown hC.1 hR (fl_X12_walkerOf_53 hts hC hni) rfl (by decide) rfl rfl hv dX12_walkerOf_57 ?_
      obtain ⟨v6, hv, hw⟩ := sv_bd hw
      refine sv_rgI hx hb hown hC.1 hR (fl_X12_walkerOf_187 hts hC hni) rfl (by decide) rfl rfl hv dX12_walkerOf_60 ?_
      obtain ⟨rfl, rfl⟩ := sv_ret hw
      exact W.iret hx hb hr (fun t ht hW => ⟨⟨rfl, by rw [ht]; exact hR⟩, hS.F ht⟩) hS.2.2 dX12_walkerOf_63
    have hw := sv_iff c1 hw
    refine sv_em (x1 = 2) (fun c2 => ?_) (fun c2 => ?_)
    · have hw := sv_ift c2 hw
      refine lv_tableIn (tgt := 64) (off := 53) hx hb dX12_walkerOf_11 (by rw [c2]; decide) (by rw [c2]; decide) (by rw [c2]; rfl) (by decide) ?_
      refine lv_aload_n hx hb dX12_walkerOf_64 rfl (lv_at hl 0 rfl) ?_
      obtain ⟨v7, hv, hw⟩ := sv_bd hw
      refine sv_rgP hx hb hown hC.1 hR (fl_X12_walkerOf_53 hts hC hni) rfl (by decide) rfl rfl hv dX12_walkerOf_65 ?_
      obtain ⟨v8, hv, hw⟩ := sv_bd hw
      refine sv_rgI hx hb hown hC.1 hR (fl_X12_walkerOf_190 hts hC hni) rfl (by decide) rfl rfl hv dX12_walkerOf_68 ?_
      obtain ⟨rfl, rfl⟩ := sv_ret hw
      exact W.iret hx hb hr (fun t ht hW => ⟨⟨rfl, by rw [ht]; exact hR⟩, hS.F ht⟩) hS.2.2 dX12_walkerOf_71
    have hw := sv_iff c2 hw
    refine sv_em (x1 = 3) (fun c3 => ?_) (fun c3 => ?_)
    · have hw := sv_ift c3 hw
      refine lv_tableIn (tgt := 72) (off := 61) hx hb dX12_walkerOf_11 (by rw [c3]; decide) (by rw [c3]; decide) (by rw [c3]; rfl) (by decide) ?_
      refine lv_aload_n hx hb dX12_walkerOf_72 rfl (lv_at hl 0 rfl) ?_
      obtain ⟨v9, hv, hw⟩ := sv_bd hw
      refine sv_rgP hx hb hown hC.1 hR (fl_X12_walkerOf_53 hts hC hni) rfl (by decide) rfl rfl hv dX12_walkerOf_73 ?_
      obtain ⟨v10, hv, hw⟩ := sv_bd hw
      refine sv_rgI hx hb hown hC.1 hR (fl_X12_walkerOf_193 hts hC hni) rfl (by decide) rfl rfl hv dX12_walkerOf_76 ?_
      obtain ⟨rfl, rfl⟩ := sv_ret hw
      exact W.iret hx hb hr (fun t ht hW => ⟨⟨rfl, by rw [ht]; exact hR⟩, hS.F ht⟩) hS.2.2 dX12_walkerOf_79
    have hw := sv_iff c3 hw
    refine sv_em (x1 = 4) (fun c4 => ?_) (fun c4 => ?_)
    · have hw := sv_ift c4 hw
      refine lv_tableIn (tgt := 80) (off := 69) hx hb dX12_walkerOf_11 (by rw [c4]; decide) (by rw [c4]; decide) (by rw [c4]; rfl) (by decide) ?_
      refine lv_aload_n hx hb dX12_walkerOf_80 rfl (lv_at hl 0 rfl) ?_
      obtain ⟨v11, hv, hw⟩ := sv_bd hw
      refine sv_rgP hx hb hown hC.1 hR (fl_X12_walkerOf_53 hts hC hni) rfl (by decide) rfl rfl hv dX12_walkerOf_81 ?_
      obtain ⟨r12, h13, hv2, hw⟩ := sv_b_some hw
      refine sv_call (va_runV (As := []) (rest := []) ⟨hx, hb, hml, hown, hts⟩ (mt_X10_eye l G B hv2) (cwV 0 hts (sv_gV wd_1258 wd_1259 wd_1260 wd_141 wd_1261) rfl rfl rfl (by decide +kernel) ⟨Nat.le_of_ble_eq_true rfl, Nat.le_of_ble_eq_true rfl⟩) ⟨sv_blind, sv_recv hC.1 hR (ci := 10) (sv_go hv2).1 (by decide) rfl, fun U hU hW => sv_pre hC hR hS hBs hU hW⟩ rfl rfl hl.1 rfl (lv_room (Nat.le_of_ble_eq_true rfl)) dX12_walkerOf_84 ⟨Nat.zero_le _, Nat.zero_le _⟩) hS (fun H locs hR hS => ?_)
      obtain ⟨rfl, rfl⟩ := sv_ret hw
      exact W.iret hx hb hr (fun t ht hW => ⟨⟨rfl, by rw [ht]; exact hR⟩, hS.F ht⟩) hS.2.2 dX12_walkerOf_87
    have hw := sv_iff c4 hw
    refine sv_em (x1 = 5) (fun c5 => ?_) (fun c5 => ?_)
    · have hw := sv_ift c5 hw
      refine lv_tableIn (tgt := 88) (off := 77) hx hb dX12_walkerOf_11 (by rw [c5]; decide) (by rw [c5]; decide) (by rw [c5]; rfl) (by decide) ?_
      refine lv_aload_n hx hb dX12_walkerOf_88 rfl (lv_at hl 0 rfl) ?_
      obtain ⟨v14, hv, hw⟩ := sv_bd hw
      refine sv_rgP hx hb hown hC.1 hR (fl_X12_walkerOf_53 hts hC hni) rfl (by decide) rfl rfl hv dX12_walkerOf_89 ?_
      obtain ⟨v15, hv, hw⟩ := sv_bd hw
      refine sv_rgI hx hb hown hC.1 hR (fl_X12_walkerOf_198 hts hC hni) rfl (by decide) rfl rfl hv dX12_walkerOf_92 ?_
      obtain ⟨rfl, rfl⟩ := sv_ret hw
      exact W.iret hx hb hr (fun t ht hW => ⟨⟨rfl, by rw [ht]; exact hR⟩, hS.F ht⟩) hS.2.2 dX12_walkerOf_95
    have hw := sv_iff c5 hw
    have n0 := lv_neT c0 (a := 0) rfl
    have n1 := lv_neT c1 (a := 1) rfl
    have n2 := lv_neT c2 (a := 2) rfl
    have n3 := lv_neT c3 (a := 3) rfl
    have n4 := lv_neT c4 (a := 4) rfl
    have n5 := lv_neT c5 (a := 5) rfl
    refine lv_tableOut (tgt := 96) hx hb dX12_walkerOf_11 (by omega) (by decide) ?_
    refine lv_ldc (v := 100000) hx hb hown (hts _ wd_1257) dX12_walkerOf_96 ?_
    obtain ⟨rfl, rfl⟩ := sv_ret hw
    exact W.iret hx hb hr (fun t ht hW => ⟨⟨rfl, by rw [ht]; exact hR⟩, hS.F ht⟩) hS.2.2 dX12_walkerOf_98
  · have hw := sv_ift cc hw
    refine lv_ldc (v := 100000) hx hb hown (hts _ wd_1257) dX12_walkerOf_7 ?_
    obtain ⟨rfl, rfl⟩ := sv_ret hw
    exact W.iret hx hb hr (fun t ht hW => ⟨⟨rfl, by rw [ht]; exact hR⟩, hS.F ht⟩) hS.2.2 dX12_walkerOf_9
set_option maxHeartbeats 4000000 in
set_option maxRecDepth 100000 in
theorem mt_X12_walkerOf (l : Launch) (G : sv_G) (B : Nat) {x0 : Nat} {x1 : Int32} {h : sv_H} {r : Int32} {hE : sv_H} (hw : fn_X12_walkerOf x0 x1 h = some (r, hE)) : Met l yX12_walkerOf (.code yX12_walkerOf cX12_walkerOf 2 (some .int) :: sv_tb) rm_X12_walkerOf (sv_Pc G B [.ref x0, .int x1] h) (sv_Q G B (some (.int r)) hE) 0 0 (fun q => B ≤ q) := by
  refine Met.ofW (cc := cX12_walkerOf) (maxL := 2) (ret := (some .int)) (by decide +kernel) rfl ?_
  intro p e s m args below meth c s₁ Bd hml hv
  obtain ⟨rfl, hR, hC, hB⟩ := hv
  have hl := lv_entry ([.ref x0, .int x1]) (n := 2) (Nat.le_of_ble_eq_true rfl)
  rw [lg_entry_eq]
  generalize (lg_sl ([.ref x0, .int x1]) ++ List.replicate (2 - (lg_sl ([.ref x0, .int x1])).length) Slot.unset).toArray = ls at hl ⊢
  have hl : lv_has ls 2 [(0, .ref x0), (1, .int x1)] := hl
  exact lk_X12_walkerOf_0 ⟨Bd.exec, Bd.bytes, hml, findClass_of_methodNamed Bd.named, fun w h => atoms_spec (ws := .code yX12_walkerOf cX12_walkerOf 2 (some .int) :: sv_tb) Bd.pre w (List.mem_cons_of_mem _ h), hC, Bd.notSynchronized, Bd.returns, hB, (name_of_methodNamed Bd.named Bd.method).1⟩ hw hR va_S.rf hl

