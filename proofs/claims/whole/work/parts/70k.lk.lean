theorem dX17_leafOf_0 : decode cX17_leafOf 0 = .ok (.aload_n 0, 1) := by decide +kernel
theorem dX17_leafOf_1 : decode cX17_leafOf 1 = .ok (.iconst 0, 1) := by decide +kernel
theorem dX17_leafOf_2 : decode cX17_leafOf 2 = .ok (.putfield 60, 3) := by decide +kernel
theorem dX17_leafOf_5 : decode cX17_leafOf 5 = .ok (.aload_n 0, 1) := by decide +kernel
theorem dX17_leafOf_6 : decode cX17_leafOf 6 = .ok (.getfield 77, 3) := by decide +kernel
theorem dX17_leafOf_9 : decode cX17_leafOf 9 = .ok (.ifCond .eq 15, 3) := by decide +kernel
theorem dX17_leafOf_12 : decode cX17_leafOf 12 = .ok (.aload_n 0, 1) := by decide +kernel
theorem dX17_leafOf_13 : decode cX17_leafOf 13 = .ok (.getfield 33, 3) := by decide +kernel
theorem dX17_leafOf_16 : decode cX17_leafOf 16 = .ok (.iload_n 1, 1) := by decide +kernel
theorem dX17_leafOf_17 : decode cX17_leafOf 17 = .ok (.iload_n 2, 1) := by decide +kernel
theorem dX17_leafOf_18 : decode cX17_leafOf 18 = .ok (.invokevirtual 369, 3) := by decide +kernel
theorem dX17_leafOf_21 : decode cX17_leafOf 21 = .ok (.goto 4, 3) := by decide +kernel
theorem dX17_leafOf_24 : decode cX17_leafOf 24 = .ok (.iconst (-1), 1) := by decide +kernel
theorem dX17_leafOf_25 : decode cX17_leafOf 25 = .ok (.ireturn, 1) := by decide +kernel
theorem dX12_byteOf_0 : decode cX12_byteOf 0 = .ok (.iload_n 2, 1) := by decide +kernel
theorem dX12_byteOf_1 : decode cX12_byteOf 1 = .ok (.ifCond .eq 10, 3) := by decide +kernel
theorem dX12_byteOf_4 : decode cX12_byteOf 4 = .ok (.aload_n 0, 1) := by decide +kernel
theorem dX12_byteOf_5 : decode cX12_byteOf 5 = .ok (.getfield 10, 3) := by decide +kernel
theorem dX12_byteOf_8 : decode cX12_byteOf 8 = .ok (.goto 7, 3) := by decide +kernel
theorem dX12_byteOf_11 : decode cX12_byteOf 11 = .ok (.aload_n 0, 1) := by decide +kernel
theorem dX12_byteOf_12 : decode cX12_byteOf 12 = .ok (.getfield 16, 3) := by decide +kernel
theorem dX12_byteOf_15 : decode cX12_byteOf 15 = .ok (.astore_n 3, 1) := by decide +kernel
theorem dX12_byteOf_16 : decode cX12_byteOf 16 = .ok (.iload_n 1, 1) := by decide +kernel
theorem dX12_byteOf_17 : decode cX12_byteOf 17 = .ok (.ifCond .lt 20, 3) := by decide +kernel
theorem dX12_byteOf_20 : decode cX12_byteOf 20 = .ok (.iload_n 1, 1) := by decide +kernel
theorem dX12_byteOf_21 : decode cX12_byteOf 21 = .ok (.aload_n 3, 1) := by decide +kernel
theorem dX12_byteOf_22 : decode cX12_byteOf 22 = .ok (.getfield 76, 3) := by decide +kernel
theorem dX12_byteOf_25 : decode cX12_byteOf 25 = .ok (.if_icmp .ge 12, 3) := by decide +kernel
theorem dX12_byteOf_28 : decode cX12_byteOf 28 = .ok (.aload_n 3, 1) := by decide +kernel
theorem dX12_byteOf_29 : decode cX12_byteOf 29 = .ok (.getfield 84, 3) := by decide +kernel
theorem dX12_byteOf_32 : decode cX12_byteOf 32 = .ok (.iload_n 1, 1) := by decide +kernel
theorem dX12_byteOf_33 : decode cX12_byteOf 33 = .ok (.iaload, 1) := by decide +kernel
theorem dX12_byteOf_34 : decode cX12_byteOf 34 = .ok (.goto 4, 3) := by decide +kernel
theorem dX12_byteOf_37 : decode cX12_byteOf 37 = .ok (.iconst (-1), 1) := by decide +kernel
theorem dX12_byteOf_38 : decode cX12_byteOf 38 = .ok (.ireturn, 1) := by decide +kernel
theorem dX17_byteOf_0 : decode cX17_byteOf 0 = .ok (.aload_n 0, 1) := by decide +kernel
theorem dX17_byteOf_1 : decode cX17_byteOf 1 = .ok (.iconst 0, 1) := by decide +kernel
theorem dX17_byteOf_2 : decode cX17_byteOf 2 = .ok (.putfield 60, 3) := by decide +kernel
theorem dX17_byteOf_5 : decode cX17_byteOf 5 = .ok (.iload_n 1, 1) := by decide +kernel
theorem dX17_byteOf_6 : decode cX17_byteOf 6 = .ok (.ifCond .lt 25, 3) := by decide +kernel
theorem dX17_byteOf_9 : decode cX17_byteOf 9 = .ok (.iload_n 1, 1) := by decide +kernel
theorem dX17_byteOf_10 : decode cX17_byteOf 10 = .ok (.iload_n 2, 1) := by decide +kernel
theorem dX17_byteOf_11 : decode cX17_byteOf 11 = .ok (.ifCond .eq 13, 3) := by decide +kernel
theorem dX17_byteOf_14 : decode cX17_byteOf 14 = .ok (.aload_n 0, 1) := by decide +kernel
theorem dX17_byteOf_15 : decode cX17_byteOf 15 = .ok (.getfield 10, 3) := by decide +kernel
theorem dX17_byteOf_18 : decode cX17_byteOf 18 = .ok (.getfield 70, 3) := by decide +kernel
theorem dX17_byteOf_21 : decode cX17_byteOf 21 = .ok (.goto 7, 3) := by decide +kernel
theorem dX17_byteOf_24 : decode cX17_byteOf 24 = .ok (.aload_n 0, 1) := by decide +kernel
theorem dX17_byteOf_25 : decode cX17_byteOf 25 = .ok (.getfield 163, 3) := by decide +kernel
theorem dX17_byteOf_28 : decode cX17_byteOf 28 = .ok (.if_icmp .lt 5, 3) := by decide +kernel
theorem dX17_byteOf_31 : decode cX17_byteOf 31 = .ok (.iconst (-1), 1) := by decide +kernel
theorem dX17_byteOf_32 : decode cX17_byteOf 32 = .ok (.ireturn, 1) := by decide +kernel
theorem dX17_byteOf_33 : decode cX17_byteOf 33 = .ok (.iload_n 2, 1) := by decide +kernel
theorem dX17_byteOf_34 : decode cX17_byteOf 34 = .ok (.ifCond .eq 19, 3) := by decide +kernel
theorem dX17_byteOf_37 : decode cX17_byteOf 37 = .ok (.aload_n 0, 1) := by decide +kernel
theorem dX17_byteOf_38 : decode cX17_byteOf 38 = .ok (.getfield 10, 3) := by decide +kernel
theorem dX17_byteOf_41 : decode cX17_byteOf 41 = .ok (.getfield 73, 3) := by decide +kernel
theorem dX17_byteOf_44 : decode cX17_byteOf 44 = .ok (.iload_n 1, 1) := by decide +kernel
theorem dX17_byteOf_45 : decode cX17_byteOf 45 = .ok (.baload, 1) := by decide +kernel
theorem dX17_byteOf_46 : decode cX17_byteOf 46 = .ok (.sipush 255, 3) := by decide +kernel
theorem dX17_byteOf_49 : decode cX17_byteOf 49 = .ok (.iand, 1) := by decide +kernel
theorem dX17_byteOf_50 : decode cX17_byteOf 50 = .ok (.goto 9, 3) := by decide +kernel
theorem dX17_byteOf_53 : decode cX17_byteOf 53 = .ok (.aload_n 0, 1) := by decide +kernel
theorem dX17_byteOf_54 : decode cX17_byteOf 54 = .ok (.getfield 37, 3) := by decide +kernel
theorem dX17_byteOf_57 : decode cX17_byteOf 57 = .ok (.iload_n 1, 1) := by decide +kernel
theorem dX17_byteOf_58 : decode cX17_byteOf 58 = .ok (.iaload, 1) := by decide +kernel
theorem dX17_byteOf_59 : decode cX17_byteOf 59 = .ok (.ireturn, 1) := by decide +kernel
theorem dX12_lookAt_0 : decode cX12_lookAt 0 = .ok (.iload_n 1, 1) := by decide +kernel
theorem dX12_lookAt_1 : decode cX12_lookAt 1 = .ok (.tableswitch 245 0 12 #[67, 86, 105, 124, 143, 151, 159, 167, 175, 183, 202, 221, 240], 67) := by decide +kernel
theorem dX12_lookAt_68 : decode cX12_lookAt 68 = .ok (.aload_n 0, 1) := by decide +kernel
theorem dX12_lookAt_69 : decode cX12_lookAt 69 = .ok (.invokevirtual 135, 3) := by decide +kernel
theorem dX12_lookAt_72 : decode cX12_lookAt 72 = .ok (.ifCond .eq 13, 3) := by decide +kernel
theorem dX12_lookAt_75 : decode cX12_lookAt 75 = .ok (.aload_n 0, 1) := by decide +kernel
theorem dX12_lookAt_76 : decode cX12_lookAt 76 = .ok (.getfield 38, 3) := by decide +kernel
theorem dX12_lookAt_79 : decode cX12_lookAt 79 = .ok (.getfield 275, 3) := by decide +kernel
theorem dX12_lookAt_82 : decode cX12_lookAt 82 = .ok (.goto 4, 3) := by decide +kernel
theorem dX12_lookAt_85 : decode cX12_lookAt 85 = .ok (.iconst (-1), 1) := by decide +kernel
theorem dX12_lookAt_86 : decode cX12_lookAt 86 = .ok (.ireturn, 1) := by decide +kernel
theorem dX12_lookAt_87 : decode cX12_lookAt 87 = .ok (.aload_n 0, 1) := by decide +kernel
theorem dX12_lookAt_88 : decode cX12_lookAt 88 = .ok (.invokevirtual 135, 3) := by decide +kernel
theorem dX12_lookAt_91 : decode cX12_lookAt 91 = .ok (.ifCond .eq 13, 3) := by decide +kernel
theorem dX12_lookAt_94 : decode cX12_lookAt 94 = .ok (.aload_n 0, 1) := by decide +kernel
theorem dX12_lookAt_95 : decode cX12_lookAt 95 = .ok (.getfield 38, 3) := by decide +kernel
theorem dX12_lookAt_98 : decode cX12_lookAt 98 = .ok (.getfield 278, 3) := by decide +kernel
theorem dX12_lookAt_101 : decode cX12_lookAt 101 = .ok (.goto 4, 3) := by decide +kernel
theorem dX12_lookAt_104 : decode cX12_lookAt 104 = .ok (.iconst (-1), 1) := by decide +kernel
theorem dX12_lookAt_105 : decode cX12_lookAt 105 = .ok (.ireturn, 1) := by decide +kernel
theorem dX12_lookAt_106 : decode cX12_lookAt 106 = .ok (.aload_n 0, 1) := by decide +kernel
theorem dX12_lookAt_107 : decode cX12_lookAt 107 = .ok (.invokevirtual 135, 3) := by decide +kernel
theorem dX12_lookAt_110 : decode cX12_lookAt 110 = .ok (.ifCond .eq 13, 3) := by decide +kernel
theorem dX12_lookAt_113 : decode cX12_lookAt 113 = .ok (.aload_n 0, 1) := by decide +kernel
theorem dX12_lookAt_114 : decode cX12_lookAt 114 = .ok (.getfield 38, 3) := by decide +kernel
theorem dX12_lookAt_117 : decode cX12_lookAt 117 = .ok (.getfield 141, 3) := by decide +kernel
theorem dX12_lookAt_120 : decode cX12_lookAt 120 = .ok (.goto 4, 3) := by decide +kernel
theorem dX12_lookAt_123 : decode cX12_lookAt 123 = .ok (.iconst (-1), 1) := by decide +kernel
theorem dX12_lookAt_124 : decode cX12_lookAt 124 = .ok (.ireturn, 1) := by decide +kernel
theorem dX12_lookAt_125 : decode cX12_lookAt 125 = .ok (.aload_n 0, 1) := by decide +kernel
theorem dX12_lookAt_126 : decode cX12_lookAt 126 = .ok (.invokevirtual 135, 3) := by decide +kernel
theorem dX12_lookAt_129 : decode cX12_lookAt 129 = .ok (.ifCond .eq 13, 3) := by decide +kernel
theorem dX12_lookAt_132 : decode cX12_lookAt 132 = .ok (.aload_n 0, 1) := by decide +kernel
theorem dX12_lookAt_133 : decode cX12_lookAt 133 = .ok (.getfield 38, 3) := by decide +kernel
theorem dX12_lookAt_136 : decode cX12_lookAt 136 = .ok (.getfield 281, 3) := by decide +kernel
theorem dX12_lookAt_139 : decode cX12_lookAt 139 = .ok (.goto 4, 3) := by decide +kernel
theorem dX12_lookAt_142 : decode cX12_lookAt 142 = .ok (.iconst (-1), 1) := by decide +kernel
theorem dX12_lookAt_143 : decode cX12_lookAt 143 = .ok (.ireturn, 1) := by decide +kernel
theorem dX12_lookAt_144 : decode cX12_lookAt 144 = .ok (.aload_n 0, 1) := by decide +kernel
theorem dX12_lookAt_145 : decode cX12_lookAt 145 = .ok (.getfield 69, 3) := by decide +kernel
theorem dX12_lookAt_148 : decode cX12_lookAt 148 = .ok (.getfield 115, 3) := by decide +kernel
theorem dX12_lookAt_151 : decode cX12_lookAt 151 = .ok (.ireturn, 1) := by decide +kernel
theorem dX12_lookAt_152 : decode cX12_lookAt 152 = .ok (.aload_n 0, 1) := by decide +kernel
theorem dX12_lookAt_153 : decode cX12_lookAt 153 = .ok (.getfield 10, 3) := by decide +kernel
theorem dX12_lookAt_156 : decode cX12_lookAt 156 = .ok (.getfield 76, 3) := by decide +kernel
theorem dX12_lookAt_159 : decode cX12_lookAt 159 = .ok (.ireturn, 1) := by decide +kernel
theorem dX12_lookAt_160 : decode cX12_lookAt 160 = .ok (.aload_n 0, 1) := by decide +kernel
theorem dX12_lookAt_161 : decode cX12_lookAt 161 = .ok (.getfield 16, 3) := by decide +kernel
theorem dX12_lookAt_164 : decode cX12_lookAt 164 = .ok (.getfield 76, 3) := by decide +kernel
theorem dX12_lookAt_167 : decode cX12_lookAt 167 = .ok (.ireturn, 1) := by decide +kernel
theorem dX12_lookAt_168 : decode cX12_lookAt 168 = .ok (.aload_n 0, 1) := by decide +kernel
theorem dX12_lookAt_169 : decode cX12_lookAt 169 = .ok (.getfield 24, 3) := by decide +kernel
theorem dX12_lookAt_172 : decode cX12_lookAt 172 = .ok (.getfield 131, 3) := by decide +kernel
theorem dX12_lookAt_175 : decode cX12_lookAt 175 = .ok (.ireturn, 1) := by decide +kernel
theorem dX12_lookAt_176 : decode cX12_lookAt 176 = .ok (.aload_n 0, 1) := by decide +kernel
theorem dX12_lookAt_177 : decode cX12_lookAt 177 = .ok (.getfield 24, 3) := by decide +kernel
theorem dX12_lookAt_180 : decode cX12_lookAt 180 = .ok (.getfield 284, 3) := by decide +kernel
theorem dX12_lookAt_183 : decode cX12_lookAt 183 = .ok (.ireturn, 1) := by decide +kernel
theorem dX12_lookAt_184 : decode cX12_lookAt 184 = .ok (.aload_n 0, 1) := by decide +kernel
theorem dX12_lookAt_185 : decode cX12_lookAt 185 = .ok (.invokevirtual 135, 3) := by decide +kernel
theorem dX12_lookAt_188 : decode cX12_lookAt 188 = .ok (.ifCond .eq 13, 3) := by decide +kernel
theorem dX12_lookAt_191 : decode cX12_lookAt 191 = .ok (.aload_n 0, 1) := by decide +kernel
theorem dX12_lookAt_192 : decode cX12_lookAt 192 = .ok (.getfield 31, 3) := by decide +kernel
theorem dX12_lookAt_195 : decode cX12_lookAt 195 = .ok (.getfield 244, 3) := by decide +kernel
theorem dX12_lookAt_198 : decode cX12_lookAt 198 = .ok (.goto 4, 3) := by decide +kernel
theorem dX12_lookAt_201 : decode cX12_lookAt 201 = .ok (.iconst (-1), 1) := by decide +kernel
theorem dX12_lookAt_202 : decode cX12_lookAt 202 = .ok (.ireturn, 1) := by decide +kernel
theorem dX12_lookAt_203 : decode cX12_lookAt 203 = .ok (.aload_n 0, 1) := by decide +kernel
theorem dX12_lookAt_204 : decode cX12_lookAt 204 = .ok (.invokevirtual 135, 3) := by decide +kernel
theorem dX12_lookAt_207 : decode cX12_lookAt 207 = .ok (.ifCond .eq 13, 3) := by decide +kernel
theorem dX12_lookAt_210 : decode cX12_lookAt 210 = .ok (.aload_n 0, 1) := by decide +kernel
theorem dX12_lookAt_211 : decode cX12_lookAt 211 = .ok (.getfield 31, 3) := by decide +kernel
theorem dX12_lookAt_214 : decode cX12_lookAt 214 = .ok (.getfield 287, 3) := by decide +kernel
theorem dX12_lookAt_217 : decode cX12_lookAt 217 = .ok (.goto 4, 3) := by decide +kernel
theorem dX12_lookAt_220 : decode cX12_lookAt 220 = .ok (.iconst (-1), 1) := by decide +kernel
theorem dX12_lookAt_221 : decode cX12_lookAt 221 = .ok (.ireturn, 1) := by decide +kernel
theorem dX12_lookAt_222 : decode cX12_lookAt 222 = .ok (.aload_n 0, 1) := by decide +kernel
theorem dX12_lookAt_223 : decode cX12_lookAt 223 = .ok (.invokevirtual 135, 3) := by decide +kernel
theorem dX12_lookAt_226 : decode cX12_lookAt 226 = .ok (.ifCond .eq 13, 3) := by decide +kernel
theorem dX12_lookAt_229 : decode cX12_lookAt 229 = .ok (.aload_n 0, 1) := by decide +kernel
theorem dX12_lookAt_230 : decode cX12_lookAt 230 = .ok (.getfield 38, 3) := by decide +kernel
theorem dX12_lookAt_233 : decode cX12_lookAt 233 = .ok (.invokevirtual 290, 3) := by decide +kernel
theorem dX12_lookAt_236 : decode cX12_lookAt 236 = .ok (.goto 4, 3) := by decide +kernel
theorem dX12_lookAt_239 : decode cX12_lookAt 239 = .ok (.iconst 0, 1) := by decide +kernel
theorem dX12_lookAt_240 : decode cX12_lookAt 240 = .ok (.ireturn, 1) := by decide +kernel
theorem dX12_lookAt_241 : decode cX12_lookAt 241 = .ok (.aload_n 0, 1) := by decide +kernel
theorem dX12_lookAt_242 : decode cX12_lookAt 242 = .ok (.getfield 102, 3) := by decide +kernel
theorem dX12_lookAt_245 : decode cX12_lookAt 245 = .ok (.ireturn, 1) := by decide +kernel
theorem dX12_lookAt_246 : decode cX12_lookAt 246 = .ok (.iconst (-1), 1) := by decide +kernel
theorem dX12_lookAt_247 : decode cX12_lookAt 247 = .ok (.ireturn, 1) := by decide +kernel
theorem dX17_lookAt_0 : decode cX17_lookAt 0 = .ok (.aload_n 0, 1) := by decide +kernel
theorem dX17_lookAt_1 : decode cX17_lookAt 1 = .ok (.iconst 0, 1) := by decide +kernel
theorem dX17_lookAt_2 : decode cX17_lookAt 2 = .ok (.putfield 60, 3) := by decide +kernel
theorem dX17_lookAt_5 : decode cX17_lookAt 5 = .ok (.iload_n 1, 1) := by decide +kernel
theorem dX17_lookAt_6 : decode cX17_lookAt 6 = .ok (.tableswitch 184 0 12 #[66, 66, 66, 66, 88, 96, 104, 109, 114, 119, 145, 171, 179], 66) := by decide +kernel
theorem dX17_lookAt_72 : decode cX17_lookAt 72 = .ok (.aload_n 0, 1) := by decide +kernel
theorem dX17_lookAt_73 : decode cX17_lookAt 73 = .ok (.getfield 77, 3) := by decide +kernel
theorem dX17_lookAt_76 : decode cX17_lookAt 76 = .ok (.ifCond .eq 16, 3) := by decide +kernel
theorem dX17_lookAt_79 : decode cX17_lookAt 79 = .ok (.aload_n 0, 1) := by decide +kernel
theorem dX17_lookAt_80 : decode cX17_lookAt 80 = .ok (.getfield 10, 3) := by decide +kernel
theorem dX17_lookAt_83 : decode cX17_lookAt 83 = .ok (.iload_n 1, 1) := by decide +kernel
theorem dX17_lookAt_84 : decode cX17_lookAt 84 = .ok (.iconst 3, 1) := by decide +kernel
theorem dX17_lookAt_85 : decode cX17_lookAt 85 = .ok (.iadd, 1) := by decide +kernel
theorem dX17_lookAt_86 : decode cX17_lookAt 86 = .ok (.invokevirtual 81, 3) := by decide +kernel
theorem dX17_lookAt_89 : decode cX17_lookAt 89 = .ok (.goto 4, 3) := by decide +kernel
theorem dX17_lookAt_92 : decode cX17_lookAt 92 = .ok (.iconst (-1), 1) := by decide +kernel
theorem dX17_lookAt_93 : decode cX17_lookAt 93 = .ok (.ireturn, 1) := by decide +kernel
theorem dX17_lookAt_94 : decode cX17_lookAt 94 = .ok (.aload_n 0, 1) := by decide +kernel
theorem dX17_lookAt_95 : decode cX17_lookAt 95 = .ok (.getfield 19, 3) := by decide +kernel
theorem dX17_lookAt_98 : decode cX17_lookAt 98 = .ok (.getfield 98, 3) := by decide +kernel
theorem dX17_lookAt_101 : decode cX17_lookAt 101 = .ok (.ireturn, 1) := by decide +kernel
theorem dX17_lookAt_102 : decode cX17_lookAt 102 = .ok (.aload_n 0, 1) := by decide +kernel
theorem dX17_lookAt_103 : decode cX17_lookAt 103 = .ok (.getfield 10, 3) := by decide +kernel
theorem dX17_lookAt_106 : decode cX17_lookAt 106 = .ok (.getfield 70, 3) := by decide +kernel
theorem dX17_lookAt_109 : decode cX17_lookAt 109 = .ok (.ireturn, 1) := by decide +kernel
theorem dX17_lookAt_110 : decode cX17_lookAt 110 = .ok (.aload_n 0, 1) := by decide +kernel
theorem dX17_lookAt_111 : decode cX17_lookAt 111 = .ok (.getfield 163, 3) := by decide +kernel
theorem dX17_lookAt_114 : decode cX17_lookAt 114 = .ok (.ireturn, 1) := by decide +kernel
theorem dX17_lookAt_115 : decode cX17_lookAt 115 = .ok (.aload_n 0, 1) := by decide +kernel
theorem dX17_lookAt_116 : decode cX17_lookAt 116 = .ok (.getfield 88, 3) := by decide +kernel
theorem dX17_lookAt_119 : decode cX17_lookAt 119 = .ok (.ireturn, 1) := by decide +kernel
theorem dX17_lookAt_120 : decode cX17_lookAt 120 = .ok (.aload_n 0, 1) := by decide +kernel
theorem dX17_lookAt_121 : decode cX17_lookAt 121 = .ok (.getfield 41, 3) := by decide +kernel
theorem dX17_lookAt_124 : decode cX17_lookAt 124 = .ok (.ireturn, 1) := by decide +kernel
theorem dX17_lookAt_125 : decode cX17_lookAt 125 = .ok (.aload_n 0, 1) := by decide +kernel
theorem dX17_lookAt_126 : decode cX17_lookAt 126 = .ok (.getfield 33, 3) := by decide +kernel
theorem dX17_lookAt_129 : decode cX17_lookAt 129 = .ok (.invokevirtual 372, 3) := by decide +kernel
theorem dX17_lookAt_132 : decode cX17_lookAt 132 = .ok (.aload_n 0, 1) := by decide +kernel
theorem dX17_lookAt_133 : decode cX17_lookAt 133 = .ok (.getfield 77, 3) := by decide +kernel
theorem dX17_lookAt_136 : decode cX17_lookAt 136 = .ok (.ifCond .eq 13, 3) := by decide +kernel
theorem dX17_lookAt_139 : decode cX17_lookAt 139 = .ok (.aload_n 0, 1) := by decide +kernel
theorem dX17_lookAt_140 : decode cX17_lookAt 140 = .ok (.getfield 33, 3) := by decide +kernel
theorem dX17_lookAt_143 : decode cX17_lookAt 143 = .ok (.getfield 375, 3) := by decide +kernel
theorem dX17_lookAt_146 : decode cX17_lookAt 146 = .ok (.goto 4, 3) := by decide +kernel
theorem dX17_lookAt_149 : decode cX17_lookAt 149 = .ok (.iconst (-1), 1) := by decide +kernel
theorem dX17_lookAt_150 : decode cX17_lookAt 150 = .ok (.ireturn, 1) := by decide +kernel
theorem dX17_lookAt_151 : decode cX17_lookAt 151 = .ok (.aload_n 0, 1) := by decide +kernel
theorem dX17_lookAt_152 : decode cX17_lookAt 152 = .ok (.getfield 33, 3) := by decide +kernel
theorem dX17_lookAt_155 : decode cX17_lookAt 155 = .ok (.invokevirtual 372, 3) := by decide +kernel
theorem dX17_lookAt_158 : decode cX17_lookAt 158 = .ok (.aload_n 0, 1) := by decide +kernel
theorem dX17_lookAt_159 : decode cX17_lookAt 159 = .ok (.getfield 77, 3) := by decide +kernel
theorem dX17_lookAt_162 : decode cX17_lookAt 162 = .ok (.ifCond .eq 13, 3) := by decide +kernel
theorem dX17_lookAt_165 : decode cX17_lookAt 165 = .ok (.aload_n 0, 1) := by decide +kernel
theorem dX17_lookAt_166 : decode cX17_lookAt 166 = .ok (.getfield 33, 3) := by decide +kernel
theorem dX17_lookAt_169 : decode cX17_lookAt 169 = .ok (.getfield 378, 3) := by decide +kernel
theorem dX17_lookAt_172 : decode cX17_lookAt 172 = .ok (.goto 4, 3) := by decide +kernel
theorem dX17_lookAt_175 : decode cX17_lookAt 175 = .ok (.iconst (-1), 1) := by decide +kernel
theorem dX17_lookAt_176 : decode cX17_lookAt 176 = .ok (.ireturn, 1) := by decide +kernel
theorem dX17_lookAt_177 : decode cX17_lookAt 177 = .ok (.aload_n 0, 1) := by decide +kernel
theorem dX17_lookAt_178 : decode cX17_lookAt 178 = .ok (.getfield 26, 3) := by decide +kernel
theorem dX17_lookAt_181 : decode cX17_lookAt 181 = .ok (.invokevirtual 381, 3) := by decide +kernel
theorem dX17_lookAt_184 : decode cX17_lookAt 184 = .ok (.ireturn, 1) := by decide +kernel
theorem dX17_lookAt_185 : decode cX17_lookAt 185 = .ok (.aload_n 0, 1) := by decide +kernel
theorem dX17_lookAt_186 : decode cX17_lookAt 186 = .ok (.getfield 92, 3) := by decide +kernel
theorem dX17_lookAt_189 : decode cX17_lookAt 189 = .ok (.ireturn, 1) := by decide +kernel
theorem dX17_lookAt_190 : decode cX17_lookAt 190 = .ok (.iconst (-1), 1) := by decide +kernel
theorem dX17_lookAt_191 : decode cX17_lookAt 191 = .ok (.ireturn, 1) := by decide +kernel
def rm_X17_leafOf : Room := { frames := 9, cells := 0, slots := 0, locals := 258 }
theorem fl_X17_leafOf_60 {s : State} {meth : Method} {args : Array Value} {G : sv_G} {B : Nat} (hts : ∀ w ∈ sv_tb, w.before args s = true) (hC : sv_Cx G B s s.heap) (hni : meth.name = "leafOf") : sv_FL s meth args vwCl RX17 60 17 0 .int true :=
  ⟨_, RX17, TX17, 29, sv_tb, tyX17, rfl, by decide, hts, uw_X17, Or.inl (hts _ wd_1691), fun _ h => h, tyX17_ok 0 (by decide), tyX17_ok, nmX17, fun _ => Or.inl rfl⟩
theorem fl_X17_leafOf_77 {s : State} {meth : Method} {args : Array Value} {G : sv_G} {B : Nat} (hts : ∀ w ∈ sv_tb, w.before args s = true) (hC : sv_Cx G B s s.heap) (hni : meth.name = "leafOf") : sv_FL s meth args vwCl RX17 77 17 9 .boolean true :=
  ⟨_, RX17, TX17, 29, sv_tb, tyX17, rfl, by decide, hts, uw_X17, Or.inl (hts _ wd_1700), fun _ h => h, tyX17_ok 9 (by decide), tyX17_ok, nmX17, fun _ => Or.inl rfl⟩
theorem fl_X17_leafOf_33 {s : State} {meth : Method} {args : Array Value} {G : sv_G} {B : Nat} (hts : ∀ w ∈ sv_tb, w.before args s = true) (hC : sv_Cx G B s s.heap) (hni : meth.name = "leafOf") : sv_FL s meth args vwCl RX17 33 17 4 (.object "SectorViewModel$Tree") false :=
  ⟨_, RX17, TX17, 29, sv_tb, tyX17, rfl, by decide, hts, uw_X17, Or.inl (hts _ wd_1695), fun _ h => h, tyX17_ok 4 (by decide), tyX17_ok, nmX17, fun h => by cases h⟩
set_option maxHeartbeats 4000000 in
set_option maxRecDepth 100000 in
theorem lk_X17_leafOf_25 {p : Program} {l : Launch} {e : Env} {s : State} {m : MethodId} {args : Array Value} {below : List Frame} {meth : Method} {c : Code} {G : sv_G} {B : Nat} (K : sv_W p s m args meth c cX17_leafOf RX17 3 (some .int) G B "leafOf") {r : Int32} {hE : sv_H} {s0 : Int32} {h : sv_H} (hw : fn_X17_leafOf_25 s0 h = some (r, hE)) {H : Heap} {locs : List Loc} {ls : Array Slot} (hR : sv_R G vwCl sv_ft B h H) (hS : va_S (fun q => B ≤ q) s.heap H locs) (hl : lv_has ls 3 []) : W p l e rm_X17_leafOf s m args below meth c H locs 0 0 (sv_Z below s args G B (some (.int r)) hE) (F0 m 25 ls [.int s0]) := by
  obtain ⟨hx, hb, hml, hown, hts, hC, hlk, hr, hBs, hni⟩ := id K
  unfold fn_X17_leafOf_25 at hw
  obtain ⟨rfl, rfl⟩ := sv_ret hw
  exact W.iret hx hb hr (fun t ht hW => ⟨⟨rfl, by rw [ht]; exact hR⟩, hS.F ht⟩) hS.2.2 dX17_leafOf_25
set_option maxHeartbeats 4000000 in
set_option maxRecDepth 100000 in
theorem lk_X17_leafOf_0 {p : Program} {l : Launch} {e : Env} {s : State} {m : MethodId} {args : Array Value} {below : List Frame} {meth : Method} {c : Code} {G : sv_G} {B : Nat} (K : sv_W p s m args meth c cX17_leafOf RX17 3 (some .int) G B "leafOf") {r : Int32} {hE : sv_H} {x0 : Nat} {x1 : Int32} {x2 : Int32} {h : sv_H} (hw : fn_X17_leafOf x0 x1 x2 h = some (r, hE)) {H : Heap} {locs : List Loc} {ls : Array Slot} (hR : sv_R G vwCl sv_ft B h H) (hS : va_S (fun q => B ≤ q) s.heap H locs) (hl : lv_has ls 3 [(0, .ref x0), (1, .int x1), (2, .int x2)]) : W p l e rm_X17_leafOf s m args below meth c H locs 0 0 (sv_Z below s args G B (some (.int r)) hE) (F0 m 0 ls []) := by
  obtain ⟨hx, hb, hml, hown, hts, hC, hlk, hr, hBs, hni⟩ := id K
  unfold fn_X17_leafOf at hw
  have hw := (sv_go hw).2
  refine lv_aload_n hx hb dX17_leafOf_0 rfl (lv_at hl 0 rfl) ?_
  refine lv_iconst (v := 0) hx hb dX17_leafOf_1 (by decide) ?_
  obtain ⟨h1, hv, hw⟩ := sv_bd hw
  refine sv_rpI hx hb hown hC.1 hR hS (fl_X17_leafOf_60 hts hC hni) rfl (by decide) rfl rfl hv dX17_leafOf_2 (fun H locs hR hS => ?_)
  refine lv_aload_n hx hb dX17_leafOf_5 rfl (lv_at hl 0 rfl) ?_
  obtain ⟨v2, hv, hw⟩ := sv_bd hw
  refine sv_rgI hx hb hown hC.1 hR (fl_X17_leafOf_77 hts hC hni) rfl (by decide) rfl rfl hv dX17_leafOf_6 ?_
  refine lv_if_eq (tgt := 24) hx hb dX17_leafOf_9 (by decide) (fun cc => ?_) (fun cc => ?_)
  · have hw := sv_ift cc hw
    refine lv_iconst (v := (-1)) hx hb dX17_leafOf_24 (by decide) ?_
    exact lk_X17_leafOf_25 K hw hR hS (lv_sub hl [] rfl)
  · have hw := sv_iff cc hw
    refine lv_aload_n hx hb dX17_leafOf_12 rfl (lv_at hl 0 rfl) ?_
    obtain ⟨v3, hv, hw⟩ := sv_bd hw
    refine sv_rgP hx hb hown hC.1 hR (fl_X17_leafOf_33 hts hC hni) rfl (by decide) rfl rfl hv dX17_leafOf_13 ?_
    refine lv_iload_n hx hb dX17_leafOf_16 rfl (lv_at hl 1 rfl) ?_
    refine lv_iload_n hx hb dX17_leafOf_17 rfl (lv_at hl 2 rfl) ?_
    obtain ⟨r4, h5, hv1, hw⟩ := sv_b_some hw
    refine sv_call (va_runV (As := [.int x1, .int x2]) (rest := []) ⟨hx, hb, hml, hown, hts⟩ (mt_X16_leaf l G B hv1) (cwV 2 hts (sv_gV wd_2302 wd_2303 wd_2304 wd_148 wd_2305) rfl rfl rfl (by decide +kernel) ⟨Nat.le_of_ble_eq_true rfl, Nat.le_of_ble_eq_true rfl⟩) ⟨sv_blind, sv_recv hC.1 hR (ci := 16) (sv_go hv1).1 (by decide) rfl, fun U hU hW => sv_pre hC hR hS hBs hU hW⟩ rfl rfl hl.1 rfl (lv_room (Nat.le_of_ble_eq_true rfl)) dX17_leafOf_18 ⟨Nat.zero_le _, Nat.zero_le _⟩) hS (fun H locs hR hS => ?_)
    refine lv_goto (tgt := 25) hx hb dX17_leafOf_21 (by decide) ?_
    exact lk_X17_leafOf_25 K hw hR hS (lv_sub hl [] rfl)
set_option maxHeartbeats 4000000 in
set_option maxRecDepth 100000 in
theorem mt_X17_leafOf (l : Launch) (G : sv_G) (B : Nat) {x0 : Nat} {x1 : Int32} {x2 : Int32} {h : sv_H} {r : Int32} {hE : sv_H} (hw : fn_X17_leafOf x0 x1 x2 h = some (r, hE)) : Met l yX17_leafOf (.code yX17_leafOf cX17_leafOf 3 (some .int) :: sv_tb) rm_X17_leafOf (sv_Pc G B [.ref x0, .int x1, .int x2] h) (sv_Q G B (some (.int r)) hE) 0 0 (fun q => B ≤ q) := by
  refine Met.ofW (cc := cX17_leafOf) (maxL := 3) (ret := (some .int)) (by decide +kernel) rfl ?_
  intro p e s m args below meth c s₁ Bd hml hv
  obtain ⟨rfl, hR, hC, hB⟩ := hv
  have hl := lv_entry ([.ref x0, .int x1, .int x2]) (n := 3) (Nat.le_of_ble_eq_true rfl)
  rw [lg_entry_eq]
  generalize (lg_sl ([.ref x0, .int x1, .int x2]) ++ List.replicate (3 - (lg_sl ([.ref x0, .int x1, .int x2])).length) Slot.unset).toArray = ls at hl ⊢
  have hl : lv_has ls 3 [(0, .ref x0), (1, .int x1), (2, .int x2)] := hl
  exact lk_X17_leafOf_0 ⟨Bd.exec, Bd.bytes, hml, findClass_of_methodNamed Bd.named, fun w h => atoms_spec (ws := .code yX17_leafOf cX17_leafOf 3 (some .int) :: sv_tb) Bd.pre w (List.mem_cons_of_mem _ h), hC, Bd.notSynchronized, Bd.returns, hB, (name_of_methodNamed Bd.named Bd.method).1⟩ hw hR va_S.rf hl

def rm_X12_byteOf : Room := { frames := 0, cells := 0, slots := 0, locals := 0 }
theorem fl_X12_byteOf_76 {s : State} {meth : Method} {args : Array Value} {G : sv_G} {B : Nat} (hts : ∀ w ∈ sv_tb, w.before args s = true) (hC : sv_Cx G B s s.heap) (hni : meth.name = "byteOf") : sv_FL s meth args vwCl RX12 76 0 1 .int true :=
  ⟨_, RX0, TX0, 2, sv_tb, tyX0, rfl, by decide, hts, uw_X0, Or.inl (hts _ wd_174), fun _ h => h, tyX0_ok 1 (by decide), tyX0_ok, nmX0, fun _ => Or.inl rfl⟩
theorem fl_X12_byteOf_84 {s : State} {meth : Method} {args : Array Value} {G : sv_G} {B : Nat} (hts : ∀ w ∈ sv_tb, w.before args s = true) (hC : sv_Cx G B s s.heap) (hni : meth.name = "byteOf") : sv_FL s meth args vwCl RX12 84 0 0 (.array .int) true :=
  ⟨_, RX0, TX0, 2, sv_tb, tyX0, rfl, by decide, hts, uw_X0, Or.inl (hts _ wd_169), fun _ h => h, tyX0_ok 0 (by decide), tyX0_ok, nmX0, fun _ => Or.inl rfl⟩
theorem fl_X12_byteOf_16 {s : State} {meth : Method} {args : Array Value} {G : sv_G} {B : Nat} (hts : ∀ w ∈ sv_tb, w.before args s = true) (hC : sv_Cx G B s s.heap) (hni : meth.name = "byteOf") : sv_FL s meth args vwCl RX12 16 12 1 (.object "SectorView$ByteRow") false :=
  ⟨_, RX12, TX12, 11, sv_tb, tyX12, rfl, by decide, hts, uw_X12, Or.inl (hts _ wd_686), fun _ h => h, tyX12_ok 1 (by decide), tyX12_ok, nmX12, fun h => by cases h⟩
theorem fl_X12_byteOf_10 {s : State} {meth : Method} {args : Array Value} {G : sv_G} {B : Nat} (hts : ∀ w ∈ sv_tb, w.before args s = true) (hC : sv_Cx G B s s.heap) (hni : meth.name = "byteOf") : sv_FL s meth args vwCl RX12 10 12 0 (.object "SectorView$ByteRow") false :=
  ⟨_, RX12, TX12, 11, sv_tb, tyX12, rfl, by decide, hts, uw_X12, Or.inl (hts _ wd_685), fun _ h => h, tyX12_ok 0 (by decide), tyX12_ok, nmX12, fun h => by cases h⟩
set_option maxHeartbeats 4000000 in
set_option maxRecDepth 100000 in
theorem lk_X12_byteOf_38 {p : Program} {l : Launch} {e : Env} {s : State} {m : MethodId} {args : Array Value} {below : List Frame} {meth : Method} {c : Code} {G : sv_G} {B : Nat} (K : sv_W p s m args meth c cX12_byteOf RX12 4 (some .int) G B "byteOf") {r : Int32} {hE : sv_H} {s0 : Int32} {h : sv_H} (hw : fn_X12_byteOf_38 s0 h = some (r, hE)) {H : Heap} {locs : List Loc} {ls : Array Slot} (hR : sv_R G vwCl sv_ft B h H) (hS : va_S (fun q => B ≤ q) s.heap H locs) (hl : lv_has ls 4 []) : W p l e rm_X12_byteOf s m args below meth c H locs 0 0 (sv_Z below s args G B (some (.int r)) hE) (F0 m 38 ls [.int s0]) := by
  obtain ⟨hx, hb, hml, hown, hts, hC, hlk, hr, hBs, hni⟩ := id K
  unfold fn_X12_byteOf_38 at hw
  obtain ⟨rfl, rfl⟩ := sv_ret hw
  exact W.iret hx hb hr (fun t ht hW => ⟨⟨rfl, by rw [ht]; exact hR⟩, hS.F ht⟩) hS.2.2 dX12_byteOf_38
set_option maxHeartbeats 4000000 in
set_option maxRecDepth 100000 in
theorem lk_X12_byteOf_37 {p : Program} {l : Launch} {e : Env} {s : State} {m : MethodId} {args : Array Value} {below : List Frame} {meth : Method} {c : Code} {G : sv_G} {B : Nat} (K : sv_W p s m args meth c cX12_byteOf RX12 4 (some .int) G B "byteOf") {r : Int32} {hE : sv_H} {h : sv_H} (hw : fn_X12_byteOf_37 h = some (r, hE)) {H : Heap} {locs : List Loc} {ls : Array Slot} (hR : sv_R G vwCl sv_ft B h H) (hS : va_S (fun q => B ≤ q) s.heap H locs) (hl : lv_has ls 4 []) : W p l e rm_X12_byteOf s m args below meth c H locs 0 0 (sv_Z below s args G B (some (.int r)) hE) (F0 m 37 ls []) := by
  obtain ⟨hx, hb, hml, hown, hts, hC, hlk, hr, hBs, hni⟩ := id K
  unfold fn_X12_byteOf_37 at hw
  refine lv_iconst (v := (-1)) hx hb dX12_byteOf_37 (by decide) ?_
  exact lk_X12_byteOf_38 K hw hR hS (lv_sub hl [] rfl)
set_option maxHeartbeats 4000000 in
set_option maxRecDepth 100000 in
theorem lk_X12_byteOf_15 {p : Program} {l : Launch} {e : Env} {s : State} {m : MethodId} {args : Array Value} {below : List Frame} {meth : Method} {c : Code} {G : sv_G} {B : Nat} (K : sv_W p s m args meth c cX12_byteOf RX12 4 (some .int) G B "byteOf") {r : Int32} {hE : sv_H} {x1 : Int32} {s0 : Nat} {h : sv_H} (hw : fn_X12_byteOf_15 x1 s0 h = some (r, hE)) {H : Heap} {locs : List Loc} {ls : Array Slot} (hR : sv_R G vwCl sv_ft B h H) (hS : va_S (fun q => B ≤ q) s.heap H locs) (hl : lv_has ls 4 [(1, .int x1)]) : W p l e rm_X12_byteOf s m args below meth c H locs 0 0 (sv_Z below s args G B (some (.int r)) hE) (F0 m 15 ls [.ref s0]) := by
  obtain ⟨hx, hb, hml, hown, hts, hC, hlk, hr, hBs, hni⟩ := id K
  unfold fn_X12_byteOf_15 at hw
  refine lv_astore_n (lv' := [(3, .ref s0), (1, .int x1)]) hx hb dX12_byteOf_15 rfl hl (by decide) rfl (fun ls hl => ?_)
  refine lv_iload_n hx hb dX12_byteOf_16 rfl (lv_at hl 1 rfl) ?_
  refine lv_if_lt (tgt := 37) hx hb dX12_byteOf_17 (by decide) (fun cc => ?_) (fun cc => ?_)
  · have hw := sv_ift cc hw
    exact lk_X12_byteOf_37 K hw hR hS (lv_sub hl [] rfl)
  · have hw := sv_iff cc hw
    refine lv_iload_n hx hb dX12_byteOf_20 rfl (lv_at hl 1 rfl) ?_
    refine lv_aload_n hx hb dX12_byteOf_21 rfl (lv_at hl 0 rfl) ?_
    obtain ⟨v1, hv, hw⟩ := sv_bd hw
    refine sv_rgI hx hb hown hC.1 hR (fl_X12_byteOf_76 hts hC hni) rfl (by decide) rfl rfl hv dX12_byteOf_22 ?_
    refine lv_icmp_ge (tgt := 37) hx hb dX12_byteOf_25 (by decide) (fun cc => ?_) (fun cc => ?_)
    · have hw := sv_ift cc hw
      exact lk_X12_byteOf_37 K hw hR hS (lv_sub hl [] rfl)
    · have hw := sv_iff cc hw
      refine lv_aload_n hx hb dX12_byteOf_28 rfl (lv_at hl 0 rfl) ?_
      obtain ⟨v2, hv, hw⟩ := sv_bd hw
      refine sv_rgP hx hb hown hC.1 hR (fl_X12_byteOf_84 hts hC hni) rfl (by decide) rfl rfl hv dX12_byteOf_29 ?_
      refine lv_iload_n hx hb dX12_byteOf_32 rfl (lv_at hl 1 rfl) ?_
      obtain ⟨v3, hv, hw⟩ := sv_bd hw
      refine sv_rlI hx hb hC.1 rfl hR hv dX12_byteOf_33 ?_
      refine lv_goto (tgt := 38) hx hb dX12_byteOf_34 (by decide) ?_
      exact lk_X12_byteOf_38 K hw hR hS (lv_sub hl [] rfl)
set_option maxHeartbeats 4000000 in
set_option maxRecDepth 100000 in
theorem lk_X12_byteOf_0 {p : Program} {l : Launch} {e : Env} {s : State} {m : MethodId} {args : Array Value} {below : List Frame} {meth : Method} {c : Code} {G : sv_G} {B : Nat} (K : sv_W p s m args meth c cX12_byteOf RX12 4 (some .int) G B "byteOf") {r : Int32} {hE : sv_H} {x0 : Nat} {x1 : Int32} {x2 : Int32} {h : sv_H} (hw : fn_X12_byteOf x0 x1 x2 h = some (r, hE)) {H : Heap} {locs : List Loc} {ls : Array Slot} (hR : sv_R G vwCl sv_ft B h H) (hS : va_S (fun q => B ≤ q) s.heap H locs) (hl : lv_has ls 4 [(0, .ref x0), (1, .int x1), (2, .int x2)]) : W p l e rm_X12_byteOf s m args below meth c H locs 0 0 (sv_Z below s args G B (some (.int r)) hE) (F0 m 0 ls []) := by
  obtain ⟨hx, hb, hml, hown, hts, hC, hlk, hr, hBs, hni⟩ := id K
  unfold fn_X12_byteOf at hw
  have hw := (sv_go hw).2
  refine lv_iload_n hx hb dX12_byteOf_0 rfl (lv_at hl 2 rfl) ?_
  refine lv_if_eq (tgt := 11) hx hb dX12_byteOf_1 (by decide) (fun cc => ?_) (fun cc => ?_)
  · have hw := sv_ift cc hw
    refine lv_aload_n hx hb dX12_byteOf_11 rfl (lv_at hl 0 rfl) ?_
    obtain ⟨v1, hv, hw⟩ := sv_bd hw
    refine sv_rgP hx hb hown hC.1 hR (fl_X12_byteOf_16 hts hC hni) rfl (by decide) rfl rfl hv dX12_byteOf_12 ?_
    exact lk_X12_byteOf_15 K hw hR hS (lv_sub hl [1] rfl)
  · have hw := sv_iff cc hw
    refine lv_aload_n hx hb dX12_byteOf_4 rfl (lv_at hl 0 rfl) ?_
    obtain ⟨v2, hv, hw⟩ := sv_bd hw
    refine sv_rgP hx hb hown hC.1 hR (fl_X12_byteOf_10 hts hC hni) rfl (by decide) rfl rfl hv dX12_byteOf_5 ?_
    refine lv_goto (tgt := 15) hx hb dX12_byteOf_8 (by decide) ?_
    exact lk_X12_byteOf_15 K hw hR hS (lv_sub hl [1] rfl)
set_option maxHeartbeats 4000000 in
set_option maxRecDepth 100000 in
theorem mt_X12_byteOf (l : Launch) (G : sv_G) (B : Nat) {x0 : Nat} {x1 : Int32} {x2 : Int32} {h : sv_H} {r : Int32} {hE : sv_H} (hw : fn_X12_byteOf x0 x1 x2 h = some (r, hE)) : Met l yX12_byteOf (.code yX12_byteOf cX12_byteOf 4 (some .int) :: sv_tb) rm_X12_byteOf (sv_Pc G B [.ref x0, .int x1, .int x2] h) (sv_Q G B (some (.int r)) hE) 0 0 (fun q => B ≤ q) := by
  refine Met.ofW (cc := cX12_byteOf) (maxL := 4) (ret := (some .int)) (by decide +kernel) rfl ?_
  intro p e s m args below meth c s₁ Bd hml hv
  obtain ⟨rfl, hR, hC, hB⟩ := hv
  have hl := lv_entry ([.ref x0, .int x1, .int x2]) (n := 4) (Nat.le_of_ble_eq_true rfl)
  rw [lg_entry_eq]
  generalize (lg_sl ([.ref x0, .int x1, .int x2]) ++ List.replicate (4 - (lg_sl ([.ref x0, .int x1, .int x2])).length) Slot.unset).toArray = ls at hl ⊢
  have hl : lv_has ls 4 [(0, .ref x0), (1, .int x1), (2, .int x2)] := hl
  exact lk_X12_byteOf_0 ⟨Bd.exec, Bd.bytes, hml, findClass_of_methodNamed Bd.named, fun w h => atoms_spec (ws := .code yX12_byteOf cX12_byteOf 4 (some .int) :: sv_tb) Bd.pre w (List.mem_cons_of_mem _ h), hC, Bd.notSynchronized, Bd.returns, hB, (name_of_methodNamed Bd.named Bd.method).1⟩ hw hR va_S.rf hl

def rm_X17_byteOf : Room := { frames := 0, cells := 0, slots := 0, locals := 0 }
theorem fl_X17_byteOf_37 {s : State} {meth : Method} {args : Array Value} {G : sv_G} {B : Nat} (hts : ∀ w ∈ sv_tb, w.before args s = true) (hC : sv_Cx G B s s.heap) (hni : meth.name = "byteOf") : sv_FL s meth args vwCl RX17 37 17 5 (.array .int) false :=
  ⟨_, RX17, TX17, 29, sv_tb, tyX17, rfl, by decide, hts, uw_X17, Or.inl (hts _ wd_1696), fun _ h => h, tyX17_ok 5 (by decide), tyX17_ok, nmX17, fun h => by cases h⟩
theorem fl_X17_byteOf_10 {s : State} {meth : Method} {args : Array Value} {G : sv_G} {B : Nat} (hts : ∀ w ∈ sv_tb, w.before args s = true) (hC : sv_Cx G B s s.heap) (hni : meth.name = "byteOf") : sv_FL s meth args vwCl RX17 10 17 1 (.object "SectorViewModel$Lumps") false :=
  ⟨_, RX17, TX17, 29, sv_tb, tyX17, rfl, by decide, hts, uw_X17, Or.inl (hts _ wd_1692), fun _ h => h, tyX17_ok 1 (by decide), tyX17_ok, nmX17, fun h => by cases h⟩
theorem fl_X17_byteOf_73 {s : State} {meth : Method} {args : Array Value} {G : sv_G} {B : Nat} (hts : ∀ w ∈ sv_tb, w.before args s = true) (hC : sv_Cx G B s s.heap) (hni : meth.name = "byteOf") : sv_FL s meth args vwCl RX17 73 14 0 (.array .byte) false :=
  ⟨_, RX14, TX14, 10, sv_tb, tyX14, rfl, by decide, hts, uw_X14, Or.inr ⟨"SectorViewModel", Or.inr ⟨rfl, va_Nw.use rfl (hC.2.1 (.fieldLinkNest "SectorViewModel" 73 "SectorViewModel$Lumps" "input" "[B" "SectorViewModel") (by decide +kernel))⟩⟩, fun _ h => h, tyX14_ok 0 (by decide), tyX14_ok, nmX14, fun h => by cases h⟩
theorem fl_X17_byteOf_60 {s : State} {meth : Method} {args : Array Value} {G : sv_G} {B : Nat} (hts : ∀ w ∈ sv_tb, w.before args s = true) (hC : sv_Cx G B s s.heap) (hni : meth.name = "byteOf") : sv_FL s meth args vwCl RX17 60 17 0 .int true :=
  ⟨_, RX17, TX17, 29, sv_tb, tyX17, rfl, by decide, hts, uw_X17, Or.inl (hts _ wd_1691), fun _ h => h, tyX17_ok 0 (by decide), tyX17_ok, nmX17, fun _ => Or.inl rfl⟩
theorem fl_X17_byteOf_163 {s : State} {meth : Method} {args : Array Value} {G : sv_G} {B : Nat} (hts : ∀ w ∈ sv_tb, w.before args s = true) (hC : sv_Cx G B s s.heap) (hni : meth.name = "byteOf") : sv_FL s meth args vwCl RX17 163 17 6 .int true :=
  ⟨_, RX17, TX17, 29, sv_tb, tyX17, rfl, by decide, hts, uw_X17, Or.inl (hts _ wd_1697), fun _ h => h, tyX17_ok 6 (by decide), tyX17_ok, nmX17, fun _ => Or.inl rfl⟩
theorem fl_X17_byteOf_70 {s : State} {meth : Method} {args : Array Value} {G : sv_G} {B : Nat} (hts : ∀ w ∈ sv_tb, w.before args s = true) (hC : sv_Cx G B s s.heap) (hni : meth.name = "byteOf") : sv_FL s meth args vwCl RX17 70 14 1 .int true :=
  ⟨_, RX14, TX14, 10, sv_tb, tyX14, rfl, by decide, hts, uw_X14, Or.inr ⟨"SectorViewModel", Or.inl ⟨rfl, va_Nw.use rfl (hC.2.1 (.fieldLinkNest "SectorViewModel" 70 "SectorViewModel$Lumps" "size" "I" "SectorViewModel") (by decide +kernel))⟩⟩, fun _ h => h, tyX14_ok 1 (by decide), tyX14_ok, nmX14, fun _ => Or.inl rfl⟩
set_option maxHeartbeats 4000000 in
set_option maxRecDepth 100000 in
theorem lk_X17_byteOf_31 {p : Program} {l : Launch} {e : Env} {s : State} {m : MethodId} {args : Array Value} {below : List Frame} {meth : Method} {c : Code} {G : sv_G} {B : Nat} (K : sv_W p s m args meth c cX17_byteOf RX17 3 (some .int) G B "byteOf") {r : Int32} {hE : sv_H} {h : sv_H} (hw : fn_X17_byteOf_31 h = some (r, hE)) {H : Heap} {locs : List Loc} {ls : Array Slot} (hR : sv_R G vwCl sv_ft B h H) (hS : va_S (fun q => B ≤ q) s.heap H locs) (hl : lv_has ls 3 []) : W p l e rm_X17_byteOf s m args below meth c H locs 0 0 (sv_Z below s args G B (some (.int r)) hE) (F0 m 31 ls []) := by
  obtain ⟨hx, hb, hml, hown, hts, hC, hlk, hr, hBs, hni⟩ := id K
  unfold fn_X17_byteOf_31 at hw
  refine lv_iconst (v := (-1)) hx hb dX17_byteOf_31 (by decide) ?_
  obtain ⟨rfl, rfl⟩ := sv_ret hw
  exact W.iret hx hb hr (fun t ht hW => ⟨⟨rfl, by rw [ht]; exact hR⟩, hS.F ht⟩) hS.2.2 dX17_byteOf_32
set_option maxHeartbeats 4000000 in
set_option maxRecDepth 100000 in
theorem lk_X17_byteOf_59 {p : Program} {l : Launch} {e : Env} {s : State} {m : MethodId} {args : Array Value} {below : List Frame} {meth : Method} {c : Code} {G : sv_G} {B : Nat} (K : sv_W p s m args meth c cX17_byteOf RX17 3 (some .int) G B "byteOf") {r : Int32} {hE : sv_H} {s0 : Int32} {h : sv_H} (hw : fn_X17_byteOf_59 s0 h = some (r, hE)) {H : Heap} {locs : List Loc} {ls : Array Slot} (hR : sv_R G vwCl sv_ft B h H) (hS : va_S (fun q => B ≤ q) s.heap H locs) (hl : lv_has ls 3 []) : W p l e rm_X17_byteOf s m args below meth c H locs 0 0 (sv_Z below s args G B (some (.int r)) hE) (F0 m 59 ls [.int s0]) := by
  obtain ⟨hx, hb, hml, hown, hts, hC, hlk, hr, hBs, hni⟩ := id K
  unfold fn_X17_byteOf_59 at hw
  obtain ⟨rfl, rfl⟩ := sv_ret hw
  exact W.iret hx hb hr (fun t ht hW => ⟨⟨rfl, by rw [ht]; exact hR⟩, hS.F ht⟩) hS.2.2 dX17_byteOf_59
set_option maxHeartbeats 4000000 in
set_option maxRecDepth 100000 in
theorem lk_X17_byteOf_28 {p : Program} {l : Launch} {e : Env} {s : State} {m : MethodId} {args : Array Value} {below : List Frame} {meth : Method} {c : Code} {G : sv_G} {B : Nat} (K : sv_W p s m args meth c cX17_byteOf RX17 3 (some .int) G B "byteOf") {r : Int32} {hE : sv_H} {x0 : Nat} {x1 : Int32} {x2 : Int32} {s0 : Int32} {s1 : Int32} {h : sv_H} (hw : fn_X17_byteOf_28 x0 x1 x2 s0 s1 h = some (r, hE)) {H : Heap} {locs : List Loc} {ls : Array Slot} (hR : sv_R G vwCl sv_ft B h H) (hS : va_S (fun q => B ≤ q) s.heap H locs) (hl : lv_has ls 3 [(0, .ref x0), (1, .int x1), (2, .int x2)]) : W p l e rm_X17_byteOf s m args below meth c H locs 0 0 (sv_Z below s args G B (some (.int r)) hE) (F0 m 28 ls [.int s1, .int s0]) := by
  obtain ⟨hx, hb, hml, hown, hts, hC, hlk, hr, hBs, hni⟩ := id K
  unfold fn_X17_byteOf_28 at hw
  refine lv_icmp_lt (tgt := 33) hx hb dX17_byteOf_28 (by decide) (fun cc => ?_) (fun cc => ?_)
  · have hw := sv_ift cc hw
    refine lv_iload_n hx hb dX17_byteOf_33 rfl (lv_at hl 2 rfl) ?_
    refine lv_if_eq (tgt := 53) hx hb dX17_byteOf_34 (by decide) (fun cc => ?_) (fun cc => ?_)
    · have hw := sv_ift cc hw
      refine lv_aload_n hx hb dX17_byteOf_53 rfl (lv_at hl 0 rfl) ?_
      obtain ⟨v1, hv, hw⟩ := sv_bd hw
      refine sv_rgP hx hb hown hC.1 hR (fl_X17_byteOf_37 hts hC hni) rfl (by decide) rfl rfl hv dX17_byteOf_54 ?_
      refine lv_iload_n hx hb dX17_byteOf_57 rfl (lv_at hl 1 rfl) ?_
      obtain ⟨v2, hv, hw⟩ := sv_bd hw
      refine sv_rlI hx hb hC.1 rfl hR hv dX17_byteOf_58 ?_
      exact lk_X17_byteOf_59 K hw hR hS (lv_sub hl [] rfl)
    · have hw := sv_iff cc hw
      refine lv_aload_n hx hb dX17_byteOf_37 rfl (lv_at hl 0 rfl) ?_
      obtain ⟨v3, hv, hw⟩ := sv_bd hw
      refine sv_rgP hx hb hown hC.1 hR (fl_X17_byteOf_10 hts hC hni) rfl (by decide) rfl rfl hv dX17_byteOf_38 ?_
      obtain ⟨v4, hv, hw⟩ := sv_bd hw
      refine sv_rgP hx hb hown hC.1 hR (fl_X17_byteOf_73 hts hC hni) rfl (by decide) rfl rfl hv dX17_byteOf_41 ?_
      refine lv_iload_n hx hb dX17_byteOf_44 rfl (lv_at hl 1 rfl) ?_
      obtain ⟨v5, hv, hw⟩ := sv_bd hw
      refine sv_rlB hx hb hC.1 rfl hR hv dX17_byteOf_45 ?_
      refine lv_sipush (v := 255) hx hb dX17_byteOf_46 (by decide) ?_
      refine lv_iand hx hb dX17_byteOf_49 ?_
      refine lv_goto (tgt := 59) hx hb dX17_byteOf_50 (by decide) ?_
      exact lk_X17_byteOf_59 K hw hR hS (lv_sub hl [] rfl)
  · have hw := sv_iff cc hw
    exact lk_X17_byteOf_31 K hw hR hS (lv_sub hl [] rfl)
set_option maxHeartbeats 4000000 in
set_option maxRecDepth 100000 in
theorem lk_X17_byteOf_0 {p : Program} {l : Launch} {e : Env} {s : State} {m : MethodId} {args : Array Value} {below : List Frame} {meth : Method} {c : Code} {G : sv_G} {B : Nat} (K : sv_W p s m args meth c cX17_byteOf RX17 3 (some .int) G B "byteOf") {r : Int32} {hE : sv_H} {x0 : Nat} {x1 : Int32} {x2 : Int32} {h : sv_H} (hw : fn_X17_byteOf x0 x1 x2 h = some (r, hE)) {H : Heap} {locs : List Loc} {ls : Array Slot} (hR : sv_R G vwCl sv_ft B h H) (hS : va_S (fun q => B ≤ q) s.heap H locs) (hl : lv_has ls 3 [(0, .ref x0), (1, .int x1), (2, .int x2)]) : W p l e rm_X17_byteOf s m args below meth c H locs 0 0 (sv_Z below s args G B (some (.int r)) hE) (F0 m 0 ls []) := by
  obtain ⟨hx, hb, hml, hown, hts, hC, hlk, hr, hBs, hni⟩ := id K
  unfold fn_X17_byteOf at hw
  have hw := (sv_go hw).2
  refine lv_aload_n hx hb dX17_byteOf_0 rfl (lv_at hl 0 rfl) ?_
  refine lv_iconst (v := 0) hx hb dX17_byteOf_1 (by decide) ?_
  obtain ⟨h1, hv, hw⟩ := sv_bd hw
  refine sv_rpI hx hb hown hC.1 hR hS (fl_X17_byteOf_60 hts hC hni) rfl (by decide) rfl rfl hv dX17_byteOf_2 (fun H locs hR hS => ?_)
  refine lv_iload_n hx hb dX17_byteOf_5 rfl (lv_at hl 1 rfl) ?_
  refine lv_if_lt (tgt := 31) hx hb dX17_byteOf_6 (by decide) (fun cc => ?_) (fun cc => ?_)
  · have hw := sv_ift cc hw
    exact lk_X17_byteOf_31 K hw hR hS (lv_sub hl [] rfl)
  · have hw := sv_iff cc hw
    refine lv_iload_n hx hb dX17_byteOf_9 rfl (lv_at hl 1 rfl) ?_
    refine lv_iload_n hx hb dX17_byteOf_10 rfl (lv_at hl 2 rfl) ?_
    refine lv_if_eq (tgt := 24) hx hb dX17_byteOf_11 (by decide) (fun cc => ?_) (fun cc => ?_)
    · have hw := sv_ift cc hw
      refine lv_aload_n hx hb dX17_byteOf_24 rfl (lv_at hl 0 rfl) ?_
      obtain ⟨v2, hv, hw⟩ := sv_bd hw
      refine sv_rgI hx hb hown hC.1 hR (fl_X17_byteOf_163 hts hC hni) rfl (by decide) rfl rfl hv dX17_byteOf_25 ?_
      exact lk_X17_byteOf_28 K hw hR hS (lv_sub hl [0, 1, 2] rfl)
    · have hw := sv_iff cc hw
      refine lv_aload_n hx hb dX17_byteOf_14 rfl (lv_at hl 0 rfl) ?_
      obtain ⟨v3, hv, hw⟩ := sv_bd hw
      refine sv_rgP hx hb hown hC.1 hR (fl_X17_byteOf_10 hts hC hni) rfl (by decide) rfl rfl hv dX17_byteOf_15 ?_
      obtain ⟨v4, hv, hw⟩ := sv_bd hw
      refine sv_rgI hx hb hown hC.1 hR (fl_X17_byteOf_70 hts hC hni) rfl (by decide) rfl rfl hv dX17_byteOf_18 ?_
      refine lv_goto (tgt := 28) hx hb dX17_byteOf_21 (by decide) ?_
      exact lk_X17_byteOf_28 K hw hR hS (lv_sub hl [0, 1, 2] rfl)
set_option maxHeartbeats 4000000 in
set_option maxRecDepth 100000 in
theorem mt_X17_byteOf (l : Launch) (G : sv_G) (B : Nat) {x0 : Nat} {x1 : Int32} {x2 : Int32} {h : sv_H} {r : Int32} {hE : sv_H} (hw : fn_X17_byteOf x0 x1 x2 h = some (r, hE)) : Met l yX17_byteOf (.code yX17_byteOf cX17_byteOf 3 (some .int) :: sv_tb) rm_X17_byteOf (sv_Pc G B [.ref x0, .int x1, .int x2] h) (sv_Q G B (some (.int r)) hE) 0 0 (fun q => B ≤ q) := by
  refine Met.ofW (cc := cX17_byteOf) (maxL := 3) (ret := (some .int)) (by decide +kernel) rfl ?_
  intro p e s m args below meth c s₁ Bd hml hv
  obtain ⟨rfl, hR, hC, hB⟩ := hv
  have hl := lv_entry ([.ref x0, .int x1, .int x2]) (n := 3) (Nat.le_of_ble_eq_true rfl)
  rw [lg_entry_eq]
  generalize (lg_sl ([.ref x0, .int x1, .int x2]) ++ List.replicate (3 - (lg_sl ([.ref x0, .int x1, .int x2])).length) Slot.unset).toArray = ls at hl ⊢
  have hl : lv_has ls 3 [(0, .ref x0), (1, .int x1), (2, .int x2)] := hl
  exact lk_X17_byteOf_0 ⟨Bd.exec, Bd.bytes, hml, findClass_of_methodNamed Bd.named, fun w h => atoms_spec (ws := .code yX17_byteOf cX17_byteOf 3 (some .int) :: sv_tb) Bd.pre w (List.mem_cons_of_mem _ h), hC, Bd.notSynchronized, Bd.returns, hB, (name_of_methodNamed Bd.named Bd.method).1⟩ hw hR va_S.rf hl

def rm_X12_lookAt : Room := { frames := 1, cells := 0, slots := 0, locals := 22 }
theorem fl_X12_lookAt_38 {s : State} {meth : Method} {args : Array Value} {G : sv_G} {B : Nat} (hts : ∀ w ∈ sv_tb, w.before args s = true) (hC : sv_Cx G B s s.heap) (hni : meth.name = "lookAt") : sv_FL s meth args vwCl RX12 38 12 6 (.object "SectorView$Plan") true :=
  ⟨_, RX12, TX12, 11, sv_tb, tyX12, rfl, by decide, hts, uw_X12, Or.inl (hts _ wd_691), fun _ h => h, tyX12_ok 6 (by decide), tyX12_ok, nmX12, fun _ => Or.inl rfl⟩
theorem fl_X12_lookAt_275 {s : State} {meth : Method} {args : Array Value} {G : sv_G} {B : Nat} (hts : ∀ w ∈ sv_tb, w.before args s = true) (hC : sv_Cx G B s s.heap) (hni : meth.name = "lookAt") : sv_FL s meth args vwCl RX12 275 2 9 .int true :=
  ⟨_, RX2, TX2, 13, sv_tb, tyX2, rfl, by decide, hts, uw_X2, Or.inl (hts _ wd_501), fun _ h => h, tyX2_ok 9 (by decide), tyX2_ok, nmX2, fun _ => Or.inl rfl⟩
theorem fl_X12_lookAt_278 {s : State} {meth : Method} {args : Array Value} {G : sv_G} {B : Nat} (hts : ∀ w ∈ sv_tb, w.before args s = true) (hC : sv_Cx G B s s.heap) (hni : meth.name = "lookAt") : sv_FL s meth args vwCl RX12 278 2 10 .int true :=
  ⟨_, RX2, TX2, 13, sv_tb, tyX2, rfl, by decide, hts, uw_X2, Or.inl (hts _ wd_503), fun _ h => h, tyX2_ok 10 (by decide), tyX2_ok, nmX2, fun _ => Or.inl rfl⟩
theorem fl_X12_lookAt_141 {s : State} {meth : Method} {args : Array Value} {G : sv_G} {B : Nat} (hts : ∀ w ∈ sv_tb, w.before args s = true) (hC : sv_Cx G B s s.heap) (hni : meth.name = "lookAt") : sv_FL s meth args vwCl RX12 141 2 11 .int true :=
  ⟨_, RX2, TX2, 13, sv_tb, tyX2, rfl, by decide, hts, uw_X2, Or.inl (hts _ wd_505), fun _ h => h, tyX2_ok 11 (by decide), tyX2_ok, nmX2, fun _ => Or.inl rfl⟩
theorem fl_X12_lookAt_281 {s : State} {meth : Method} {args : Array Value} {G : sv_G} {B : Nat} (hts : ∀ w ∈ sv_tb, w.before args s = true) (hC : sv_Cx G B s s.heap) (hni : meth.name = "lookAt") : sv_FL s meth args vwCl RX12 281 2 12 .int true :=
  ⟨_, RX2, TX2, 13, sv_tb, tyX2, rfl, by decide, hts, uw_X2, Or.inl (hts _ wd_509), fun _ h => h, tyX2_ok 12 (by decide), tyX2_ok, nmX2, fun _ => Or.inl rfl⟩
theorem fl_X12_lookAt_69 {s : State} {meth : Method} {args : Array Value} {G : sv_G} {B : Nat} (hts : ∀ w ∈ sv_tb, w.before args s = true) (hC : sv_Cx G B s s.heap) (hni : meth.name = "lookAt") : sv_FL s meth args vwCl RX12 69 12 8 (.object "SectorView$Run") true :=
  ⟨_, RX12, TX12, 11, sv_tb, tyX12, rfl, by decide, hts, uw_X12, Or.inl (hts _ wd_693), fun _ h => h, tyX12_ok 8 (by decide), tyX12_ok, nmX12, fun _ => Or.inl rfl⟩
theorem fl_X12_lookAt_115 {s : State} {meth : Method} {args : Array Value} {G : sv_G} {B : Nat} (hts : ∀ w ∈ sv_tb, w.before args s = true) (hC : sv_Cx G B s s.heap) (hni : meth.name = "lookAt") : sv_FL s meth args vwCl RX12 115 5 2 .int true :=
  ⟨_, RX5, TX5, 3, sv_tb, tyX5, rfl, by decide, hts, uw_X5, Or.inl (hts _ wd_676), fun _ h => h, tyX5_ok 2 (by decide), tyX5_ok, nmX5, fun _ => Or.inl rfl⟩
theorem fl_X12_lookAt_10 {s : State} {meth : Method} {args : Array Value} {G : sv_G} {B : Nat} (hts : ∀ w ∈ sv_tb, w.before args s = true) (hC : sv_Cx G B s s.heap) (hni : meth.name = "lookAt") : sv_FL s meth args vwCl RX12 10 12 0 (.object "SectorView$ByteRow") false :=
  ⟨_, RX12, TX12, 11, sv_tb, tyX12, rfl, by decide, hts, uw_X12, Or.inl (hts _ wd_685), fun _ h => h, tyX12_ok 0 (by decide), tyX12_ok, nmX12, fun h => by cases h⟩
theorem fl_X12_lookAt_76 {s : State} {meth : Method} {args : Array Value} {G : sv_G} {B : Nat} (hts : ∀ w ∈ sv_tb, w.before args s = true) (hC : sv_Cx G B s s.heap) (hni : meth.name = "lookAt") : sv_FL s meth args vwCl RX12 76 0 1 .int true :=
  ⟨_, RX0, TX0, 2, sv_tb, tyX0, rfl, by decide, hts, uw_X0, Or.inl (hts _ wd_174), fun _ h => h, tyX0_ok 1 (by decide), tyX0_ok, nmX0, fun _ => Or.inl rfl⟩
theorem fl_X12_lookAt_16 {s : State} {meth : Method} {args : Array Value} {G : sv_G} {B : Nat} (hts : ∀ w ∈ sv_tb, w.before args s = true) (hC : sv_Cx G B s s.heap) (hni : meth.name = "lookAt") : sv_FL s meth args vwCl RX12 16 12 1 (.object "SectorView$ByteRow") false :=
  ⟨_, RX12, TX12, 11, sv_tb, tyX12, rfl, by decide, hts, uw_X12, Or.inl (hts _ wd_686), fun _ h => h, tyX12_ok 1 (by decide), tyX12_ok, nmX12, fun h => by cases h⟩
theorem fl_X12_lookAt_24 {s : State} {meth : Method} {args : Array Value} {G : sv_G} {B : Nat} (hts : ∀ w ∈ sv_tb, w.before args s = true) (hC : sv_Cx G B s s.heap) (hni : meth.name = "lookAt") : sv_FL s meth args vwCl RX12 24 12 2 (.object "SectorView$Reader") false :=
  ⟨_, RX12, TX12, 11, sv_tb, tyX12, rfl, by decide, hts, uw_X12, Or.inl (hts _ wd_687), fun _ h => h, tyX12_ok 2 (by decide), tyX12_ok, nmX12, fun h => by cases h⟩
theorem fl_X12_lookAt_131 {s : State} {meth : Method} {args : Array Value} {G : sv_G} {B : Nat} (hts : ∀ w ∈ sv_tb, w.before args s = true) (hC : sv_Cx G B s s.heap) (hni : meth.name = "lookAt") : sv_FL s meth args vwCl RX12 131 4 2 .int true :=
  ⟨_, RX4, TX4, 4, sv_tb, tyX4, rfl, by decide, hts, uw_X4, Or.inl (hts _ wd_196), fun _ h => h, tyX4_ok 2 (by decide), tyX4_ok, nmX4, fun _ => Or.inl rfl⟩
theorem fl_X12_lookAt_284 {s : State} {meth : Method} {args : Array Value} {G : sv_G} {B : Nat} (hts : ∀ w ∈ sv_tb, w.before args s = true) (hC : sv_Cx G B s s.heap) (hni : meth.name = "lookAt") : sv_FL s meth args vwCl RX12 284 4 3 .int true :=
  ⟨_, RX4, TX4, 4, sv_tb, tyX4, rfl, by decide, hts, uw_X4, Or.inl (hts _ wd_198), fun _ h => h, tyX4_ok 3 (by decide), tyX4_ok, nmX4, fun _ => Or.inl rfl⟩
theorem fl_X12_lookAt_31 {s : State} {meth : Method} {args : Array Value} {G : sv_G} {B : Nat} (hts : ∀ w ∈ sv_tb, w.before args s = true) (hC : sv_Cx G B s s.heap) (hni : meth.name = "lookAt") : sv_FL s meth args vwCl RX12 31 12 3 (.object "SectorView$Tree") false :=
  ⟨_, RX12, TX12, 11, sv_tb, tyX12, rfl, by decide, hts, uw_X12, Or.inl (hts _ wd_688), fun _ h => h, tyX12_ok 3 (by decide), tyX12_ok, nmX12, fun h => by cases h⟩
theorem fl_X12_lookAt_244 {s : State} {meth : Method} {args : Array Value} {G : sv_G} {B : Nat} (hts : ∀ w ∈ sv_tb, w.before args s = true) (hC : sv_Cx G B s s.heap) (hni : meth.name = "lookAt") : sv_FL s meth args vwCl RX12 244 8 11 .int true :=
  ⟨_, RX8, TX8, 18, sv_tb, tyX8, rfl, by decide, hts, uw_X8, Or.inl (hts _ wd_263), fun _ h => h, tyX8_ok 11 (by decide), tyX8_ok, nmX8, fun _ => Or.inl rfl⟩
theorem fl_X12_lookAt_287 {s : State} {meth : Method} {args : Array Value} {G : sv_G} {B : Nat} (hts : ∀ w ∈ sv_tb, w.before args s = true) (hC : sv_Cx G B s s.heap) (hni : meth.name = "lookAt") : sv_FL s meth args vwCl RX12 287 8 13 .int true :=
  ⟨_, RX8, TX8, 18, sv_tb, tyX8, rfl, by decide, hts, uw_X8, Or.inl (hts _ wd_266), fun _ h => h, tyX8_ok 13 (by decide), tyX8_ok, nmX8, fun _ => Or.inl rfl⟩
theorem fl_X12_lookAt_102 {s : State} {meth : Method} {args : Array Value} {G : sv_G} {B : Nat} (hts : ∀ w ∈ sv_tb, w.before args s = true) (hC : sv_Cx G B s s.heap) (hni : meth.name = "lookAt") : sv_FL s meth args vwCl RX12 102 12 10 .int true :=
  ⟨_, RX12, TX12, 11, sv_tb, tyX12, rfl, by decide, hts, uw_X12, Or.inl (hts _ wd_695), fun _ h => h, tyX12_ok 10 (by decide), tyX12_ok, nmX12, fun _ => Or.inl rfl⟩
set_option maxHeartbeats 4000000 in
set_option maxRecDepth 100000 in
theorem lk_X12_lookAt_86 {p : Program} {l : Launch} {e : Env} {s : State} {m : MethodId} {args : Array Value} {below : List Frame} {meth : Method} {c : Code} {G : sv_G} {B : Nat} (K : sv_W p s m args meth c cX12_lookAt RX12 2 (some .int) G B "lookAt") {r : Int32} {hE : sv_H} {s0 : Int32} {h : sv_H} (hw : fn_X12_lookAt_86 s0 h = some (r, hE)) {H : Heap} {locs : List Loc} {ls : Array Slot} (hR : sv_R G vwCl sv_ft B h H) (hS : va_S (fun q => B ≤ q) s.heap H locs) (hl : lv_has ls 2 []) : W p l e rm_X12_lookAt s m args below meth c H locs 0 0 (sv_Z below s args G B (some (.int r)) hE) (F0 m 86 ls [.int s0]) := by
  obtain ⟨hx, hb, hml, hown, hts, hC, hlk, hr, hBs, hni⟩ := id K
  unfold fn_X12_lookAt_86 at hw
  obtain ⟨rfl, rfl⟩ := sv_ret hw
  exact W.iret hx hb hr (fun t ht hW => ⟨⟨rfl, by rw [ht]; exact hR⟩, hS.F ht⟩) hS.2.2 dX12_lookAt_86
set_option maxHeartbeats 4000000 in
set_option maxRecDepth 100000 in
theorem lk_X12_lookAt_105 {p : Program} {l : Launch} {e : Env} {s : State} {m : MethodId} {args : Array Value} {below : List Frame} {meth : Method} {c : Code} {G : sv_G} {B : Nat} (K : sv_W p s m args meth c cX12_lookAt RX12 2 (some .int) G B "lookAt") {r : Int32} {hE : sv_H} {s0 : Int32} {h : sv_H} (hw : fn_X12_lookAt_105 s0 h = some (r, hE)) {H : Heap} {locs : List Loc} {ls : Array Slot} (hR : sv_R G vwCl sv_ft B h H) (hS : va_S (fun q => B ≤ q) s.heap H locs) (hl : lv_has ls 2 []) : W p l e rm_X12_lookAt s m args below meth c H locs 0 0 (sv_Z below s args G B (some (.int r)) hE) (F0 m 105 ls [.int s0]) := by
  obtain ⟨hx, hb, hml, hown, hts, hC, hlk, hr, hBs, hni⟩ := id K
  unfold fn_X12_lookAt_105 at hw
  obtain ⟨rfl, rfl⟩ := sv_ret hw
  exact W.iret hx hb hr (fun t ht hW => ⟨⟨rfl, by rw [ht]; exact hR⟩, hS.F ht⟩) hS.2.2 dX12_lookAt_105
set_option maxHeartbeats 4000000 in
set_option maxRecDepth 100000 in
theorem lk_X12_lookAt_124 {p : Program} {l : Launch} {e : Env} {s : State} {m : MethodId} {args : Array Value} {below : List Frame} {meth : Method} {c : Code} {G : sv_G} {B : Nat} (K : sv_W p s m args meth c cX12_lookAt RX12 2 (some .int) G B "lookAt") {r : Int32} {hE : sv_H} {s0 : Int32} {h : sv_H} (hw : fn_X12_lookAt_124 s0 h = some (r, hE)) {H : Heap} {locs : List Loc} {ls : Array Slot} (hR : sv_R G vwCl sv_ft B h H) (hS : va_S (fun q => B ≤ q) s.heap H locs) (hl : lv_has ls 2 []) : W p l e rm_X12_lookAt s m args below meth c H locs 0 0 (sv_Z below s args G B (some (.int r)) hE) (F0 m 124 ls [.int s0]) := by
  obtain ⟨hx, hb, hml, hown, hts, hC, hlk, hr, hBs, hni⟩ := id K
  unfold fn_X12_lookAt_124 at hw
  obtain ⟨rfl, rfl⟩ := sv_ret hw
  exact W.iret hx hb hr (fun t ht hW => ⟨⟨rfl, by rw [ht]; exact hR⟩, hS.F ht⟩) hS.2.2 dX12_lookAt_124
set_option maxHeartbeats 4000000 in
set_option maxRecDepth 100000 in
theorem lk_X12_lookAt_143 {p : Program} {l : Launch} {e : Env} {s : State} {m : MethodId} {args : Array Value} {below : List Frame} {meth : Method} {c : Code} {G : sv_G} {B : Nat} (K : sv_W p s m args meth c cX12_lookAt RX12 2 (some .int) G B "lookAt") {r : Int32} {hE : sv_H} {s0 : Int32} {h : sv_H} (hw : fn_X12_lookAt_143 s0 h = some (r, hE)) {H : Heap} {locs : List Loc} {ls : Array Slot} (hR : sv_R G vwCl sv_ft B h H) (hS : va_S (fun q => B ≤ q) s.heap H locs) (hl : lv_has ls 2 []) : W p l e rm_X12_lookAt s m args below meth c H locs 0 0 (sv_Z below s args G B (some (.int r)) hE) (F0 m 143 ls [.int s0]) := by
  obtain ⟨hx, hb, hml, hown, hts, hC, hlk, hr, hBs, hni⟩ := id K
  unfold fn_X12_lookAt_143 at hw
  obtain ⟨rfl, rfl⟩ := sv_ret hw
  exact W.iret hx hb hr (fun t ht hW => ⟨⟨rfl, by rw [ht]; exact hR⟩, hS.F ht⟩) hS.2.2 dX12_lookAt_143
set_option maxHeartbeats 4000000 in
set_option maxRecDepth 100000 in
theorem lk_X12_lookAt_202 {p : Program} {l : Launch} {e : Env} {s : State} {m : MethodId} {args : Array Value} {below : List Frame} {meth : Method} {c : Code} {G : sv_G} {B : Nat} (K : sv_W p s m args meth c cX12_lookAt RX12 2 (some .int) G B "lookAt") {r : Int32} {hE : sv_H} {s0 : Int32} {h : sv_H} (hw : fn_X12_lookAt_202 s0 h = some (r, hE)) {H : Heap} {locs : List Loc} {ls : Array Slot} (hR : sv_R G vwCl sv_ft B h H) (hS : va_S (fun q => B ≤ q) s.heap H locs) (hl : lv_has ls 2 []) : W p l e rm_X12_lookAt s m args below meth c H locs 0 0 (sv_Z below s args G B (some (.int r)) hE) (F0 m 202 ls [.int s0]) := by
  obtain ⟨hx, hb, hml, hown, hts, hC, hlk, hr, hBs, hni⟩ := id K
  unfold fn_X12_lookAt_202 at hw
  obtain ⟨rfl, rfl⟩ := sv_ret hw
  exact W.iret hx hb hr (fun t ht hW => ⟨⟨rfl, by rw [ht]; exact hR⟩, hS.F ht⟩) hS.2.2 dX12_lookAt_202
set_option maxHeartbeats 4000000 in
set_option maxRecDepth 100000 in
theorem lk_X12_lookAt_221 {p : Program} {l : Launch} {e : Env} {s : State} {m : MethodId} {args : Array Value} {below : List Frame} {meth : Method} {c : Code} {G : sv_G} {B : Nat} (K : sv_W p s m args meth c cX12_lookAt RX12 2 (some .int) G B "lookAt") {r : Int32} {hE : sv_H} {s0 : Int32} {h : sv_H} (hw : fn_X12_lookAt_221 s0 h = some (r, hE)) {H : Heap} {locs : List Loc} {ls : Array Slot} (hR : sv_R G vwCl sv_ft B h H) (hS : va_S (fun q => B ≤ q) s.heap H locs) (hl : lv_has ls 2 []) : W p l e rm_X12_lookAt s m args below meth c H locs 0 0 (sv_Z below s args G B (some (.int r)) hE) (F0 m 221 ls [.int s0]) := by
  obtain ⟨hx, hb, hml, hown, hts, hC, hlk, hr, hBs, hni⟩ := id K
  unfold fn_X12_lookAt_221 at hw
  obtain ⟨rfl, rfl⟩ := sv_ret hw
  exact W.iret hx hb hr (fun t ht hW => ⟨⟨rfl, by rw [ht]; exact hR⟩, hS.F ht⟩) hS.2.2 dX12_lookAt_221
set_option maxHeartbeats 4000000 in
set_option maxRecDepth 100000 in
theorem lk_X12_lookAt_240 {p : Program} {l : Launch} {e : Env} {s : State} {m : MethodId} {args : Array Value} {below : List Frame} {meth : Method} {c : Code} {G : sv_G} {B : Nat} (K : sv_W p s m args meth c cX12_lookAt RX12 2 (some .int) G B "lookAt") {r : Int32} {hE : sv_H} {s0 : Int32} {h : sv_H} (hw : fn_X12_lookAt_240 s0 h = some (r, hE)) {H : Heap} {locs : List Loc} {ls : Array Slot} (hR : sv_R G vwCl sv_ft B h H) (hS : va_S (fun q => B ≤ q) s.heap H locs) (hl : lv_has ls 2 []) : W p l e rm_X12_lookAt s m args below meth c H locs 0 0 (sv_Z below s args G B (some (.int r)) hE) (F0 m 240 ls [.int s0]) := by
  obtain ⟨hx, hb, hml, hown, hts, hC, hlk, hr, hBs, hni⟩ := id K
  unfold fn_X12_lookAt_240 at hw
  obtain ⟨rfl, rfl⟩ := sv_ret hw
  exact W.iret hx hb hr (fun t ht hW => ⟨⟨rfl, by rw [ht]; exact hR⟩, hS.F ht⟩) hS.2.2 dX12_lookAt_240
set_option maxHeartbeats 4000000 in
set_option maxRecDepth 100000 in
theorem lk_X12_lookAt_0 {p : Program} {l : Launch} {e : Env} {s : State} {m : MethodId} {args : Array Value} {below : List Frame} {meth : Method} {c : Code} {G : sv_G} {B : Nat} (K : sv_W p s m args meth c cX12_lookAt RX12 2 (some .int) G B "lookAt") {r : Int32} {hE : sv_H} {x0 : Nat} {x1 : Int32} {h : sv_H} (hw : fn_X12_lookAt x0 x1 h = some (r, hE)) {H : Heap} {locs : List Loc} {ls : Array Slot} (hR : sv_R G vwCl sv_ft B h H) (hS : va_S (fun q => B ≤ q) s.heap H locs) (hl : lv_has ls 2 [(0, .ref x0), (1, .int x1)]) : W p l e rm_X12_lookAt s m args below meth c H locs 0 0 (sv_Z below s args G B (some (.int r)) hE) (F0 m 0 ls []) := by
  obtain ⟨hx, hb, hml, hown, hts, hC, hlk, hr, hBs, hni⟩ := id K
  unfold fn_X12_lookAt at hw
  have hw := (sv_go hw).2
  refine lv_iload_n hx hb dX12_lookAt_0 rfl (lv_at hl 1 rfl) ?_
  refine sv_em (x1 = 0) (fun c0 => ?_) (fun c0 => ?_)
  · have hw := sv_ift c0 hw
    refine lv_tableIn (tgt := 68) (off := 67) hx hb dX12_lookAt_1 (by rw [c0]; decide) (by rw [c0]; decide) (by rw [c0]; rfl) (by decide) ?_
    refine lv_aload_n hx hb dX12_lookAt_68 rfl (lv_at hl 0 rfl) ?_
    obtain ⟨r1, h2, hv1, hw⟩ := sv_b_some hw
    refine sv_call (va_runV (As := []) (rest := []) ⟨hx, hb, hml, hown, hts⟩ (mt_X12_hasMap l G B hv1) (cwV 0 hts (sv_gV wd_1039 wd_1041 wd_27 wd_131 wd_1042) rfl rfl rfl (by decide +kernel) ⟨Nat.le_of_ble_eq_true rfl, Nat.le_of_ble_eq_true rfl⟩) ⟨sv_blind, sv_recv hC.1 hR (ci := 12) (sv_go hv1).1 (by decide) rfl, fun U hU hW => sv_pre hC hR hS hBs hU hW⟩ rfl rfl hl.1 rfl (lv_room (Nat.le_of_ble_eq_true rfl)) dX12_lookAt_69 ⟨Nat.zero_le _, Nat.zero_le _⟩) hS (fun H locs hR hS => ?_)
    refine lv_if_eq (tgt := 85) hx hb dX12_lookAt_72 (by decide) (fun cc => ?_) (fun cc => ?_)
    · have hw := sv_ift cc hw
      refine lv_iconst (v := (-1)) hx hb dX12_lookAt_85 (by decide) ?_
      exact lk_X12_lookAt_86 K hw hR hS (lv_sub hl [] rfl)
    · have hw := sv_iff cc hw
      refine lv_aload_n hx hb dX12_lookAt_75 rfl (lv_at hl 0 rfl) ?_
      obtain ⟨v3, hv, hw⟩ := sv_bd hw
      refine sv_rgP hx hb hown hC.1 hR (fl_X12_lookAt_38 hts hC hni) rfl (by decide) rfl rfl hv dX12_lookAt_76 ?_
      obtain ⟨v4, hv, hw⟩ := sv_bd hw
      refine sv_rgI hx hb hown hC.1 hR (fl_X12_lookAt_275 hts hC hni) rfl (by decide) rfl rfl hv dX12_lookAt_79 ?_
      refine lv_goto (tgt := 86) hx hb dX12_lookAt_82 (by decide) ?_
      exact lk_X12_lookAt_86 K hw hR hS (lv_sub hl [] rfl)
  have hw := sv_iff c0 hw
  refine sv_em (x1 = 1) (fun c1 => ?_) (fun c1 => ?_)
  · have hw := sv_ift c1 hw
    refine lv_tableIn (tgt := 87) (off := 86) hx hb dX12_lookAt_1 (by rw [c1]; decide) (by rw [c1]; decide) (by rw [c1]; rfl) (by decide) ?_
    refine lv_aload_n hx hb dX12_lookAt_87 rfl (lv_at hl 0 rfl) ?_
    obtain ⟨r5, h6, hv2, hw⟩ := sv_b_some hw
    refine sv_call (va_runV (As := []) (rest := []) ⟨hx, hb, hml, hown, hts⟩ (mt_X12_hasMap l G B hv2) (cwV 0 hts (sv_gV wd_1039 wd_1041 wd_27 wd_131 wd_1042) rfl rfl rfl (by decide +kernel) ⟨Nat.le_of_ble_eq_true rfl, Nat.le_of_ble_eq_true rfl⟩) ⟨sv_blind, sv_recv hC.1 hR (ci := 12) (sv_go hv2).1 (by decide) rfl, fun U hU hW => sv_pre hC hR hS hBs hU hW⟩ rfl rfl hl.1 rfl (lv_room (Nat.le_of_ble_eq_true rfl)) dX12_lookAt_88 ⟨Nat.zero_le _, Nat.zero_le _⟩) hS (fun H locs hR hS => ?_)
    refine lv_if_eq (tgt := 104) hx hb dX12_lookAt_91 (by decide) (fun cc => ?_) (fun cc => ?_)
    · have hw := sv_ift cc hw
      refine lv_iconst (v := (-1)) hx hb dX12_lookAt_104 (by decide) ?_
      exact lk_X12_lookAt_105 K hw hR hS (lv_sub hl [] rfl)
    · have hw := sv_iff cc hw
      refine lv_aload_n hx hb dX12_lookAt_94 rfl (lv_at hl 0 rfl) ?_
      obtain ⟨v7, hv, hw⟩ := sv_bd hw
      refine sv_rgP hx hb hown hC.1 hR (fl_X12_lookAt_38 hts hC hni) rfl (by decide) rfl rfl hv dX12_lookAt_95 ?_
      obtain ⟨v8, hv, hw⟩ := sv_bd hw
      refine sv_rgI hx hb hown hC.1 hR (fl_X12_lookAt_278 hts hC hni) rfl (by decide) rfl rfl hv dX12_lookAt_98 ?_
      refine lv_goto (tgt := 105) hx hb dX12_lookAt_101 (by decide) ?_
      exact lk_X12_lookAt_105 K hw hR hS (lv_sub hl [] rfl)
  have hw := sv_iff c1 hw
  refine sv_em (x1 = 2) (fun c2 => ?_) (fun c2 => ?_)
  · have hw := sv_ift c2 hw
    refine lv_tableIn (tgt := 106) (off := 105) hx hb dX12_lookAt_1 (by rw [c2]; decide) (by rw [c2]; decide) (by rw [c2]; rfl) (by decide) ?_
    refine lv_aload_n hx hb dX12_lookAt_106 rfl (lv_at hl 0 rfl) ?_
    obtain ⟨r9, h10, hv3, hw⟩ := sv_b_some hw
    refine sv_call (va_runV (As := []) (rest := []) ⟨hx, hb, hml, hown, hts⟩ (mt_X12_hasMap l G B hv3) (cwV 0 hts (sv_gV wd_1039 wd_1041 wd_27 wd_131 wd_1042) rfl rfl rfl (by decide +kernel) ⟨Nat.le_of_ble_eq_true rfl, Nat.le_of_ble_eq_true rfl⟩) ⟨sv_blind, sv_recv hC.1 hR (ci := 12) (sv_go hv3).1 (by decide) rfl, fun U hU hW => sv_pre hC hR hS hBs hU hW⟩ rfl rfl hl.1 rfl (lv_room (Nat.le_of_ble_eq_true rfl)) dX12_lookAt_107 ⟨Nat.zero_le _, Nat.zero_le _⟩) hS (fun H locs hR hS => ?_)
    refine lv_if_eq (tgt := 123) hx hb dX12_lookAt_110 (by decide) (fun cc => ?_) (fun cc => ?_)
    · have hw := sv_ift cc hw
      refine lv_iconst (v := (-1)) hx hb dX12_lookAt_123 (by decide) ?_
      exact lk_X12_lookAt_124 K hw hR hS (lv_sub hl [] rfl)
    · have hw := sv_iff cc hw
      refine lv_aload_n hx hb dX12_lookAt_113 rfl (lv_at hl 0 rfl) ?_
      obtain ⟨v11, hv, hw⟩ := sv_bd hw
      refine sv_rgP hx hb hown hC.1 hR (fl_X12_lookAt_38 hts hC hni) rfl (by decide) rfl rfl hv dX12_lookAt_114 ?_
      obtain ⟨v12, hv, hw⟩ := sv_bd hw
      refine sv_rgI hx hb hown hC.1 hR (fl_X12_lookAt_141 hts hC hni) rfl (by decide) rfl rfl hv dX12_lookAt_117 ?_
      refine lv_goto (tgt := 124) hx hb dX12_lookAt_120 (by decide) ?_
      exact lk_X12_lookAt_124 K hw hR hS (lv_sub hl [] rfl)
  have hw := sv_iff c2 hw
  refine sv_em (x1 = 3) (fun c3 => ?_) (fun c3 => ?_)
  · have hw := sv_ift c3 hw
    refine lv_tableIn (tgt := 125) (off := 124) hx hb dX12_lookAt_1 (by rw [c3]; decide) (by rw [c3]; decide) (by rw [c3]; rfl) (by decide) ?_
    refine lv_aload_n hx hb dX12_lookAt_125 rfl (lv_at hl 0 rfl) ?_
    obtain ⟨r13, h14, hv4, hw⟩ := sv_b_some hw
    refine sv_call (va_runV (As := []) (rest := []) ⟨hx, hb, hml, hown, hts⟩ (mt_X12_hasMap l G B hv4) (cwV 0 hts (sv_gV wd_1039 wd_1041 wd_27 wd_131 wd_1042) rfl rfl rfl (by decide +kernel) ⟨Nat.le_of_ble_eq_true rfl, Nat.le_of_ble_eq_true rfl⟩) ⟨sv_blind, sv_recv hC.1 hR (ci := 12) (sv_go hv4).1 (by decide) rfl, fun U hU hW => sv_pre hC hR hS hBs hU hW⟩ rfl rfl hl.1 rfl (lv_room (Nat.le_of_ble_eq_true rfl)) dX12_lookAt_126 ⟨Nat.zero_le _, Nat.zero_le _⟩) hS (fun H locs hR hS => ?_)
    refine lv_if_eq (tgt := 142) hx hb dX12_lookAt_129 (by decide) (fun cc => ?_) (fun cc => ?_)
    · have hw := sv_ift cc hw
      refine lv_iconst (v := (-1)) hx hb dX12_lookAt_142 (by decide) ?_
      exact lk_X12_lookAt_143 K hw hR hS (lv_sub hl [] rfl)
    · have hw := sv_iff cc hw
      refine lv_aload_n hx hb dX12_lookAt_132 rfl (lv_at hl 0 rfl) ?_
      obtain ⟨v15, hv, hw⟩ := sv_bd hw
      refine sv_rgP hx hb hown hC.1 hR (fl_X12_lookAt_38 hts hC hni) rfl (by decide) rfl rfl hv dX12_lookAt_133 ?_
      obtain ⟨v16, hv, hw⟩ := sv_bd hw
      refine sv_rgI hx hb hown hC.1 hR (fl_X12_lookAt_281 hts hC hni) rfl (by decide) rfl rfl hv dX12_lookAt_136 ?_
      refine lv_goto (tgt := 143) hx hb dX12_lookAt_139 (by decide) ?_
      exact lk_X12_lookAt_143 K hw hR hS (lv_sub hl [] rfl)
  have hw := sv_iff c3 hw
  refine sv_em (x1 = 4) (fun c4 => ?_) (fun c4 => ?_)
  · have hw := sv_ift c4 hw
    refine lv_tableIn (tgt := 144) (off := 143) hx hb dX12_lookAt_1 (by rw [c4]; decide) (by rw [c4]; decide) (by rw [c4]; rfl) (by decide) ?_
    refine lv_aload_n hx hb dX12_lookAt_144 rfl (lv_at hl 0 rfl) ?_
    obtain ⟨v17, hv, hw⟩ := sv_bd hw
    refine sv_rgP hx hb hown hC.1 hR (fl_X12_lookAt_69 hts hC hni) rfl (by decide) rfl rfl hv dX12_lookAt_145 ?_
    obtain ⟨v18, hv, hw⟩ := sv_bd hw
    refine sv_rgI hx hb hown hC.1 hR (fl_X12_lookAt_115 hts hC hni) rfl (by decide) rfl rfl hv dX12_lookAt_148 ?_
    obtain ⟨rfl, rfl⟩ := sv_ret hw
    exact W.iret hx hb hr (fun t ht hW => ⟨⟨rfl, by rw [ht]; exact hR⟩, hS.F ht⟩) hS.2.2 dX12_lookAt_151
  have hw := sv_iff c4 hw
  refine sv_em (x1 = 5) (fun c5 => ?_) (fun c5 => ?_)
  · have hw := sv_ift c5 hw
    refine lv_tableIn (tgt := 152) (off := 151) hx hb dX12_lookAt_1 (by rw [c5]; decide) (by rw [c5]; decide) (by rw [c5]; rfl) (by decide) ?_
    refine lv_aload_n hx hb dX12_lookAt_152 rfl (lv_at hl 0 rfl) ?_
    obtain ⟨v19, hv, hw⟩ := sv_bd hw
    refine sv_rgP hx hb hown hC.1 hR (fl_X12_lookAt_10 hts hC hni) rfl (by decide) rfl rfl hv dX12_lookAt_153 ?_
    obtain ⟨v20, hv, hw⟩ := sv_bd hw
    refine sv_rgI hx hb hown hC.1 hR (fl_X12_lookAt_76 hts hC hni) rfl (by decide) rfl rfl hv dX12_lookAt_156 ?_
    obtain ⟨rfl, rfl⟩ := sv_ret hw
    exact W.iret hx hb hr (fun t ht hW => ⟨⟨rfl, by rw [ht]; exact hR⟩, hS.F ht⟩) hS.2.2 dX12_lookAt_159
  have hw := sv_iff c5 hw
  refine sv_em (x1 = 6) (fun c6 => ?_) (fun c6 => ?_)
  · have hw := sv_ift c6 hw
    refine lv_tableIn (tgt := 160) (off := 159) hx hb dX12_lookAt_1 (by rw [c6]; decide) (by rw [c6]; decide) (by rw [c6]; rfl) (by decide) ?_
    refine lv_aload_n hx hb dX12_lookAt_160 rfl (lv_at hl 0 rfl) ?_
    obtain ⟨v21, hv, hw⟩ := sv_bd hw
    refine sv_rgP hx hb hown hC.1 hR (fl_X12_lookAt_16 hts hC hni) rfl (by decide) rfl rfl hv dX12_lookAt_161 ?_
    obtain ⟨v22, hv, hw⟩ := sv_bd hw
    refine sv_rgI hx hb hown hC.1 hR (fl_X12_lookAt_76 hts hC hni) rfl (by decide) rfl rfl hv dX12_lookAt_164 ?_
    obtain ⟨rfl, rfl⟩ := sv_ret hw
    exact W.iret hx hb hr (fun t ht hW => ⟨⟨rfl, by rw [ht]; exact hR⟩, hS.F ht⟩) hS.2.2 dX12_lookAt_167
  have hw := sv_iff c6 hw
  refine sv_em (x1 = 7) (fun c7 => ?_) (fun c7 => ?_)
  · have hw := sv_ift c7 hw
    refine lv_tableIn (tgt := 168) (off := 167) hx hb dX12_lookAt_1 (by rw [c7]; decide) (by rw [c7]; decide) (by rw [c7]; rfl) (by decide) ?_
    refine lv_aload_n hx hb dX12_lookAt_168 rfl (lv_at hl 0 rfl) ?_
    obtain ⟨v23, hv, hw⟩ := sv_bd hw
    refine sv_rgP hx hb hown hC.1 hR (fl_X12_lookAt_24 hts hC hni) rfl (by decide) rfl rfl hv dX12_lookAt_169 ?_
    obtain ⟨v24, hv, hw⟩ := sv_bd hw
    refine sv_rgI hx hb hown hC.1 hR (fl_X12_lookAt_131 hts hC hni) rfl (by decide) rfl rfl hv dX12_lookAt_172 ?_
    obtain ⟨rfl, rfl⟩ := sv_ret hw
    exact W.iret hx hb hr (fun t ht hW => ⟨⟨rfl, by rw [ht]; exact hR⟩, hS.F ht⟩) hS.2.2 dX12_lookAt_175
  have hw := sv_iff c7 hw
  refine sv_em (x1 = 8) (fun c8 => ?_) (fun c8 => ?_)
  · have hw := sv_ift c8 hw
    refine lv_tableIn (tgt := 176) (off := 175) hx hb dX12_lookAt_1 (by rw [c8]; decide) (by rw [c8]; decide) (by rw [c8]; rfl) (by decide) ?_
    refine lv_aload_n hx hb dX12_lookAt_176 rfl (lv_at hl 0 rfl) ?_
    obtain ⟨v25, hv, hw⟩ := sv_bd hw
    refine sv_rgP hx hb hown hC.1 hR (fl_X12_lookAt_24 hts hC hni) rfl (by decide) rfl rfl hv dX12_lookAt_177 ?_
    obtain ⟨v26, hv, hw⟩ := sv_bd hw
    refine sv_rgI hx hb hown hC.1 hR (fl_X12_lookAt_284 hts hC hni) rfl (by decide) rfl rfl hv dX12_lookAt_180 ?_
    obtain ⟨rfl, rfl⟩ := sv_ret hw
    exact W.iret hx hb hr (fun t ht hW => ⟨⟨rfl, by rw [ht]; exact hR⟩, hS.F ht⟩) hS.2.2 dX12_lookAt_183
  have hw := sv_iff c8 hw
  refine sv_em (x1 = 9) (fun c9 => ?_) (fun c9 => ?_)
  · have hw := sv_ift c9 hw
    refine lv_tableIn (tgt := 184) (off := 183) hx hb dX12_lookAt_1 (by rw [c9]; decide) (by rw [c9]; decide) (by rw [c9]; rfl) (by decide) ?_
    refine lv_aload_n hx hb dX12_lookAt_184 rfl (lv_at hl 0 rfl) ?_
    obtain ⟨r27, h28, hv5, hw⟩ := sv_b_some hw
    refine sv_call (va_runV (As := []) (rest := []) ⟨hx, hb, hml, hown, hts⟩ (mt_X12_hasMap l G B hv5) (cwV 0 hts (sv_gV wd_1039 wd_1041 wd_27 wd_131 wd_1042) rfl rfl rfl (by decide +kernel) ⟨Nat.le_of_ble_eq_true rfl, Nat.le_of_ble_eq_true rfl⟩) ⟨sv_blind, sv_recv hC.1 hR (ci := 12) (sv_go hv5).1 (by decide) rfl, fun U hU hW => sv_pre hC hR hS hBs hU hW⟩ rfl rfl hl.1 rfl (lv_room (Nat.le_of_ble_eq_true rfl)) dX12_lookAt_185 ⟨Nat.zero_le _, Nat.zero_le _⟩) hS (fun H locs hR hS => ?_)
    refine lv_if_eq (tgt := 201) hx hb dX12_lookAt_188 (by decide) (fun cc => ?_) (fun cc => ?_)
    · have hw := sv_ift cc hw
      refine lv_iconst (v := (-1)) hx hb dX12_lookAt_201 (by decide) ?_
      exact lk_X12_lookAt_202 K hw hR hS (lv_sub hl [] rfl)
    · have hw := sv_iff cc hw
      refine lv_aload_n hx hb dX12_lookAt_191 rfl (lv_at hl 0 rfl) ?_
      obtain ⟨v29, hv, hw⟩ := sv_bd hw
      refine sv_rgP hx hb hown hC.1 hR (fl_X12_lookAt_31 hts hC hni) rfl (by decide) rfl rfl hv dX12_lookAt_192 ?_
      obtain ⟨v30, hv, hw⟩ := sv_bd hw
      refine sv_rgI hx hb hown hC.1 hR (fl_X12_lookAt_244 hts hC hni) rfl (by decide) rfl rfl hv dX12_lookAt_195 ?_
      refine lv_goto (tgt := 202) hx hb dX12_lookAt_198 (by decide) ?_
      exact lk_X12_lookAt_202 K hw hR hS (lv_sub hl [] rfl)
  have hw := sv_iff c9 hw
  refine sv_em (x1 = 10) (fun c10 => ?_) (fun c10 => ?_)
  · have hw := sv_ift c10 hw
    refine lv_tableIn (tgt := 203) (off := 202) hx hb dX12_lookAt_1 (by rw [c10]; decide) (by rw [c10]; decide) (by rw [c10]; rfl) (by decide) ?_
    refine lv_aload_n hx hb dX12_lookAt_203 rfl (lv_at hl 0 rfl) ?_
    obtain ⟨r31, h32, hv6, hw⟩ := sv_b_some hw
    refine sv_call (va_runV (As := []) (rest := []) ⟨hx, hb, hml, hown, hts⟩ (mt_X12_hasMap l G B hv6) (cwV 0 hts (sv_gV wd_1039 wd_1041 wd_27 wd_131 wd_1042) rfl rfl rfl (by decide +kernel) ⟨Nat.le_of_ble_eq_true rfl, Nat.le_of_ble_eq_true rfl⟩) ⟨sv_blind, sv_recv hC.1 hR (ci := 12) (sv_go hv6).1 (by decide) rfl, fun U hU hW => sv_pre hC hR hS hBs hU hW⟩ rfl rfl hl.1 rfl (lv_room (Nat.le_of_ble_eq_true rfl)) dX12_lookAt_204 ⟨Nat.zero_le _, Nat.zero_le _⟩) hS (fun H locs hR hS => ?_)
    refine lv_if_eq (tgt := 220) hx hb dX12_lookAt_207 (by decide) (fun cc => ?_) (fun cc => ?_)
    · have hw := sv_ift cc hw
      refine lv_iconst (v := (-1)) hx hb dX12_lookAt_220 (by decide) ?_
      exact lk_X12_lookAt_221 K hw hR hS (lv_sub hl [] rfl)
    · have hw := sv_iff cc hw
      refine lv_aload_n hx hb dX12_lookAt_210 rfl (lv_at hl 0 rfl) ?_
      obtain ⟨v33, hv, hw⟩ := sv_bd hw
      refine sv_rgP hx hb hown hC.1 hR (fl_X12_lookAt_31 hts hC hni) rfl (by decide) rfl rfl hv dX12_lookAt_211 ?_
      obtain ⟨v34, hv, hw⟩ := sv_bd hw
      refine sv_rgI hx hb hown hC.1 hR (fl_X12_lookAt_287 hts hC hni) rfl (by decide) rfl rfl hv dX12_lookAt_214 ?_
      refine lv_goto (tgt := 221) hx hb dX12_lookAt_217 (by decide) ?_
      exact lk_X12_lookAt_221 K hw hR hS (lv_sub hl [] rfl)
  have hw := sv_iff c10 hw
  refine sv_em (x1 = 11) (fun c11 => ?_) (fun c11 => ?_)
  · have hw := sv_ift c11 hw
    refine lv_tableIn (tgt := 222) (off := 221) hx hb dX12_lookAt_1 (by rw [c11]; decide) (by rw [c11]; decide) (by rw [c11]; rfl) (by decide) ?_
    refine lv_aload_n hx hb dX12_lookAt_222 rfl (lv_at hl 0 rfl) ?_
    obtain ⟨r35, h36, hv7, hw⟩ := sv_b_some hw
    refine sv_call (va_runV (As := []) (rest := []) ⟨hx, hb, hml, hown, hts⟩ (mt_X12_hasMap l G B hv7) (cwV 0 hts (sv_gV wd_1039 wd_1041 wd_27 wd_131 wd_1042) rfl rfl rfl (by decide +kernel) ⟨Nat.le_of_ble_eq_true rfl, Nat.le_of_ble_eq_true rfl⟩) ⟨sv_blind, sv_recv hC.1 hR (ci := 12) (sv_go hv7).1 (by decide) rfl, fun U hU hW => sv_pre hC hR hS hBs hU hW⟩ rfl rfl hl.1 rfl (lv_room (Nat.le_of_ble_eq_true rfl)) dX12_lookAt_223 ⟨Nat.zero_le _, Nat.zero_le _⟩) hS (fun H locs hR hS => ?_)
    refine lv_if_eq (tgt := 239) hx hb dX12_lookAt_226 (by decide) (fun cc => ?_) (fun cc => ?_)
    · have hw := sv_ift cc hw
      refine lv_iconst (v := 0) hx hb dX12_lookAt_239 (by decide) ?_
      exact lk_X12_lookAt_240 K hw hR hS (lv_sub hl [] rfl)
    · have hw := sv_iff cc hw
      refine lv_aload_n hx hb dX12_lookAt_229 rfl (lv_at hl 0 rfl) ?_
      obtain ⟨v37, hv, hw⟩ := sv_bd hw
      refine sv_rgP hx hb hown hC.1 hR (fl_X12_lookAt_38 hts hC hni) rfl (by decide) rfl rfl hv dX12_lookAt_230 ?_
      obtain ⟨r38, h39, hv8, hw⟩ := sv_b_some hw
      refine sv_call (va_runV (As := []) (rest := []) ⟨hx, hb, hml, hown, hts⟩ (mt_X2_moverCount l G B hv8) (cwV 0 hts (sv_gV wd_1395 wd_1271 wd_1272 wd_136 wd_1273) rfl rfl rfl (by decide +kernel) ⟨Nat.le_of_ble_eq_true rfl, Nat.le_of_ble_eq_true rfl⟩) ⟨sv_blind, sv_recv hC.1 hR (ci := 2) (sv_go hv8).1 (by decide) rfl, fun U hU hW => sv_pre hC hR hS hBs hU hW⟩ rfl rfl hl.1 rfl (lv_room (Nat.le_of_ble_eq_true rfl)) dX12_lookAt_233 ⟨Nat.zero_le _, Nat.zero_le _⟩) hS (fun H locs hR hS => ?_)
      refine lv_goto (tgt := 240) hx hb dX12_lookAt_236 (by decide) ?_
      exact lk_X12_lookAt_240 K hw hR hS (lv_sub hl [] rfl)
  have hw := sv_iff c11 hw
  refine sv_em (x1 = 12) (fun c12 => ?_) (fun c12 => ?_)
  · have hw := sv_ift c12 hw
    refine lv_tableIn (tgt := 241) (off := 240) hx hb dX12_lookAt_1 (by rw [c12]; decide) (by rw [c12]; decide) (by rw [c12]; rfl) (by decide) ?_
    refine lv_aload_n hx hb dX12_lookAt_241 rfl (lv_at hl 0 rfl) ?_
    obtain ⟨v40, hv, hw⟩ := sv_bd hw
    refine sv_rgI hx hb hown hC.1 hR (fl_X12_lookAt_102 hts hC hni) rfl (by decide) rfl rfl hv dX12_lookAt_242 ?_
    obtain ⟨rfl, rfl⟩ := sv_ret hw
    exact W.iret hx hb hr (fun t ht hW => ⟨⟨rfl, by rw [ht]; exact hR⟩, hS.F ht⟩) hS.2.2 dX12_lookAt_245
  have hw := sv_iff c12 hw
  have n0 := lv_neT c0 (a := 0) rfl
  have n1 := lv_neT c1 (a := 1) rfl
  have n2 := lv_neT c2 (a := 2) rfl
  have n3 := lv_neT c3 (a := 3) rfl
  have n4 := lv_neT c4 (a := 4) rfl
  have n5 := lv_neT c5 (a := 5) rfl
  have n6 := lv_neT c6 (a := 6) rfl
  have n7 := lv_neT c7 (a := 7) rfl
  have n8 := lv_neT c8 (a := 8) rfl
  have n9 := lv_neT c9 (a := 9) rfl
  have n10 := lv_neT c10 (a := 10) rfl
  have n11 := lv_neT c11 (a := 11) rfl
  have n12 := lv_neT c12 (a := 12) rfl
  refine lv_tableOut (tgt := 246) hx hb dX12_lookAt_1 (by omega) (by decide) ?_
  refine lv_iconst (v := (-1)) hx hb dX12_lookAt_246 (by decide) ?_
  obtain ⟨rfl, rfl⟩ := sv_ret hw
  exact W.iret hx hb hr (fun t ht hW => ⟨⟨rfl, by rw [ht]; exact hR⟩, hS.F ht⟩) hS.2.2 dX12_lookAt_247
set_option maxHeartbeats 4000000 in
set_option maxRecDepth 100000 in
theorem mt_X12_lookAt (l : Launch) (G : sv_G) (B : Nat) {x0 : Nat} {x1 : Int32} {h : sv_H} {r : Int32} {hE : sv_H} (hw : fn_X12_lookAt x0 x1 h = some (r, hE)) : Met l yX12_lookAt (.code yX12_lookAt cX12_lookAt 2 (some .int) :: sv_tb) rm_X12_lookAt (sv_Pc G B [.ref x0, .int x1] h) (sv_Q G B (some (.int r)) hE) 0 0 (fun q => B ≤ q) := by
  refine Met.ofW (cc := cX12_lookAt) (maxL := 2) (ret := (some .int)) (by decide +kernel) rfl ?_
  intro p e s m args below meth c s₁ Bd hml hv
  obtain ⟨rfl, hR, hC, hB⟩ := hv
  have hl := lv_entry ([.ref x0, .int x1]) (n := 2) (Nat.le_of_ble_eq_true rfl)
  rw [lg_entry_eq]
  generalize (lg_sl ([.ref x0, .int x1]) ++ List.replicate (2 - (lg_sl ([.ref x0, .int x1])).length) Slot.unset).toArray = ls at hl ⊢
  have hl : lv_has ls 2 [(0, .ref x0), (1, .int x1)] := hl
  exact lk_X12_lookAt_0 ⟨Bd.exec, Bd.bytes, hml, findClass_of_methodNamed Bd.named, fun w h => atoms_spec (ws := .code yX12_lookAt cX12_lookAt 2 (some .int) :: sv_tb) Bd.pre w (List.mem_cons_of_mem _ h), hC, Bd.notSynchronized, Bd.returns, hB, (name_of_methodNamed Bd.named Bd.method).1⟩ hw hR va_S.rf hl

def rm_X17_lookAt : Room := { frames := 8, cells := 0, slots := 0, locals := 235 }
theorem fl_X17_lookAt_77 {s : State} {meth : Method} {args : Array Value} {G : sv_G} {B : Nat} (hts : ∀ w ∈ sv_tb, w.before args s = true) (hC : sv_Cx G B s s.heap) (hni : meth.name = "lookAt") : sv_FL s meth args vwCl RX17 77 17 9 .boolean true :=
  ⟨_, RX17, TX17, 29, sv_tb, tyX17, rfl, by decide, hts, uw_X17, Or.inl (hts _ wd_1700), fun _ h => h, tyX17_ok 9 (by decide), tyX17_ok, nmX17, fun _ => Or.inl rfl⟩
theorem fl_X17_lookAt_10 {s : State} {meth : Method} {args : Array Value} {G : sv_G} {B : Nat} (hts : ∀ w ∈ sv_tb, w.before args s = true) (hC : sv_Cx G B s s.heap) (hni : meth.name = "lookAt") : sv_FL s meth args vwCl RX17 10 17 1 (.object "SectorViewModel$Lumps") false :=
  ⟨_, RX17, TX17, 29, sv_tb, tyX17, rfl, by decide, hts, uw_X17, Or.inl (hts _ wd_1692), fun _ h => h, tyX17_ok 1 (by decide), tyX17_ok, nmX17, fun h => by cases h⟩
theorem fl_X17_lookAt_60 {s : State} {meth : Method} {args : Array Value} {G : sv_G} {B : Nat} (hts : ∀ w ∈ sv_tb, w.before args s = true) (hC : sv_Cx G B s s.heap) (hni : meth.name = "lookAt") : sv_FL s meth args vwCl RX17 60 17 0 .int true :=
  ⟨_, RX17, TX17, 29, sv_tb, tyX17, rfl, by decide, hts, uw_X17, Or.inl (hts _ wd_1691), fun _ h => h, tyX17_ok 0 (by decide), tyX17_ok, nmX17, fun _ => Or.inl rfl⟩
theorem fl_X17_lookAt_19 {s : State} {meth : Method} {args : Array Value} {G : sv_G} {B : Nat} (hts : ∀ w ∈ sv_tb, w.before args s = true) (hC : sv_Cx G B s s.heap) (hni : meth.name = "lookAt") : sv_FL s meth args vwCl RX17 19 17 2 (.object "SectorViewModel$Tape") false :=
  ⟨_, RX17, TX17, 29, sv_tb, tyX17, rfl, by decide, hts, uw_X17, Or.inl (hts _ wd_1693), fun _ h => h, tyX17_ok 2 (by decide), tyX17_ok, nmX17, fun h => by cases h⟩
theorem fl_X17_lookAt_98 {s : State} {meth : Method} {args : Array Value} {G : sv_G} {B : Nat} (hts : ∀ w ∈ sv_tb, w.before args s = true) (hC : sv_Cx G B s s.heap) (hni : meth.name = "lookAt") : sv_FL s meth args vwCl RX17 98 15 5 .int true :=
  ⟨_, RX15, TX15, 21, sv_tb, tyX15, rfl, by decide, hts, uw_X15, Or.inr ⟨"SectorViewModel", Or.inl ⟨rfl, va_Nw.use rfl (hC.2.1 (.fieldLinkNest "SectorViewModel" 98 "SectorViewModel$Tape" "many" "I" "SectorViewModel") (by decide +kernel))⟩⟩, fun _ h => h, tyX15_ok 5 (by decide), tyX15_ok, nmX15, fun _ => Or.inl rfl⟩
theorem fl_X17_lookAt_70 {s : State} {meth : Method} {args : Array Value} {G : sv_G} {B : Nat} (hts : ∀ w ∈ sv_tb, w.before args s = true) (hC : sv_Cx G B s s.heap) (hni : meth.name = "lookAt") : sv_FL s meth args vwCl RX17 70 14 1 .int true :=
  ⟨_, RX14, TX14, 10, sv_tb, tyX14, rfl, by decide, hts, uw_X14, Or.inr ⟨"SectorViewModel", Or.inl ⟨rfl, va_Nw.use rfl (hC.2.1 (.fieldLinkNest "SectorViewModel" 70 "SectorViewModel$Lumps" "size" "I" "SectorViewModel") (by decide +kernel))⟩⟩, fun _ h => h, tyX14_ok 1 (by decide), tyX14_ok, nmX14, fun _ => Or.inl rfl⟩
theorem fl_X17_lookAt_163 {s : State} {meth : Method} {args : Array Value} {G : sv_G} {B : Nat} (hts : ∀ w ∈ sv_tb, w.before args s = true) (hC : sv_Cx G B s s.heap) (hni : meth.name = "lookAt") : sv_FL s meth args vwCl RX17 163 17 6 .int true :=
  ⟨_, RX17, TX17, 29, sv_tb, tyX17, rfl, by decide, hts, uw_X17, Or.inl (hts _ wd_1697), fun _ h => h, tyX17_ok 6 (by decide), tyX17_ok, nmX17, fun _ => Or.inl rfl⟩
theorem fl_X17_lookAt_88 {s : State} {meth : Method} {args : Array Value} {G : sv_G} {B : Nat} (hts : ∀ w ∈ sv_tb, w.before args s = true) (hC : sv_Cx G B s s.heap) (hni : meth.name = "lookAt") : sv_FL s meth args vwCl RX17 88 17 7 .int true :=
  ⟨_, RX17, TX17, 29, sv_tb, tyX17, rfl, by decide, hts, uw_X17, Or.inl (hts _ wd_1698), fun _ h => h, tyX17_ok 7 (by decide), tyX17_ok, nmX17, fun _ => Or.inl rfl⟩
theorem fl_X17_lookAt_41 {s : State} {meth : Method} {args : Array Value} {G : sv_G} {B : Nat} (hts : ∀ w ∈ sv_tb, w.before args s = true) (hC : sv_Cx G B s s.heap) (hni : meth.name = "lookAt") : sv_FL s meth args vwCl RX17 41 17 8 .int true :=
  ⟨_, RX17, TX17, 29, sv_tb, tyX17, rfl, by decide, hts, uw_X17, Or.inl (hts _ wd_1699), fun _ h => h, tyX17_ok 8 (by decide), tyX17_ok, nmX17, fun _ => Or.inl rfl⟩
theorem fl_X17_lookAt_33 {s : State} {meth : Method} {args : Array Value} {G : sv_G} {B : Nat} (hts : ∀ w ∈ sv_tb, w.before args s = true) (hC : sv_Cx G B s s.heap) (hni : meth.name = "lookAt") : sv_FL s meth args vwCl RX17 33 17 4 (.object "SectorViewModel$Tree") false :=
  ⟨_, RX17, TX17, 29, sv_tb, tyX17, rfl, by decide, hts, uw_X17, Or.inl (hts _ wd_1695), fun _ h => h, tyX17_ok 4 (by decide), tyX17_ok, nmX17, fun h => by cases h⟩
theorem fl_X17_lookAt_375 {s : State} {meth : Method} {args : Array Value} {G : sv_G} {B : Nat} (hts : ∀ w ∈ sv_tb, w.before args s = true) (hC : sv_Cx G B s s.heap) (hni : meth.name = "lookAt") : sv_FL s meth args vwCl RX17 375 16 25 .int true :=
  ⟨_, RX16, TX16, 28, sv_tb, tyX16, rfl, by decide, hts, uw_X16, Or.inr ⟨"SectorViewModel", Or.inl ⟨rfl, va_Nw.use rfl (hC.2.1 (.fieldLinkNest "SectorViewModel" 375 "SectorViewModel$Tree" "nodes" "I" "SectorViewModel") (by decide +kernel))⟩⟩, fun _ h => h, tyX16_ok 25 (by decide), tyX16_ok, nmX16, fun _ => Or.inl rfl⟩
theorem fl_X17_lookAt_378 {s : State} {meth : Method} {args : Array Value} {G : sv_G} {B : Nat} (hts : ∀ w ∈ sv_tb, w.before args s = true) (hC : sv_Cx G B s s.heap) (hni : meth.name = "lookAt") : sv_FL s meth args vwCl RX17 378 16 27 .int true :=
  ⟨_, RX16, TX16, 28, sv_tb, tyX16, rfl, by decide, hts, uw_X16, Or.inr ⟨"SectorViewModel", Or.inl ⟨rfl, va_Nw.use rfl (hC.2.1 (.fieldLinkNest "SectorViewModel" 378 "SectorViewModel$Tree" "ons" "I" "SectorViewModel") (by decide +kernel))⟩⟩, fun _ h => h, tyX16_ok 27 (by decide), tyX16_ok, nmX16, fun _ => Or.inl rfl⟩
theorem fl_X17_lookAt_26 {s : State} {meth : Method} {args : Array Value} {G : sv_G} {B : Nat} (hts : ∀ w ∈ sv_tb, w.before args s = true) (hC : sv_Cx G B s s.heap) (hni : meth.name = "lookAt") : sv_FL s meth args vwCl RX17 26 17 3 (.object "SectorViewModel$Hall") false :=
  ⟨_, RX17, TX17, 29, sv_tb, tyX17, rfl, by decide, hts, uw_X17, Or.inl (hts _ wd_1694), fun _ h => h, tyX17_ok 3 (by decide), tyX17_ok, nmX17, fun h => by cases h⟩
theorem fl_X17_lookAt_92 {s : State} {meth : Method} {args : Array Value} {G : sv_G} {B : Nat} (hts : ∀ w ∈ sv_tb, w.before args s = true) (hC : sv_Cx G B s s.heap) (hni : meth.name = "lookAt") : sv_FL s meth args vwCl RX17 92 17 10 .int true :=
  ⟨_, RX17, TX17, 29, sv_tb, tyX17, rfl, by decide, hts, uw_X17, Or.inl (hts _ wd_1701), fun _ h => h, tyX17_ok 10 (by decide), tyX17_ok, nmX17, fun _ => Or.inl rfl⟩
set_option maxHeartbeats 4000000 in
set_option maxRecDepth 100000 in
theorem lk_X17_lookAt_93 {p : Program} {l : Launch} {e : Env} {s : State} {m : MethodId} {args : Array Value} {below : List Frame} {meth : Method} {c : Code} {G : sv_G} {B : Nat} (K : sv_W p s m args meth c cX17_lookAt RX17 2 (some .int) G B "lookAt") {r : Int32} {hE : sv_H} {s0 : Int32} {h : sv_H} (hw : fn_X17_lookAt_93 s0 h = some (r, hE)) {H : Heap} {locs : List Loc} {ls : Array Slot} (hR : sv_R G vwCl sv_ft B h H) (hS : va_S (fun q => B ≤ q) s.heap H locs) (hl : lv_has ls 2 []) : W p l e rm_X17_lookAt s m args below meth c H locs 0 0 (sv_Z below s args G B (some (.int r)) hE) (F0 m 93 ls [.int s0]) := by
  obtain ⟨hx, hb, hml, hown, hts, hC, hlk, hr, hBs, hni⟩ := id K
  unfold fn_X17_lookAt_93 at hw
  obtain ⟨rfl, rfl⟩ := sv_ret hw
  exact W.iret hx hb hr (fun t ht hW => ⟨⟨rfl, by rw [ht]; exact hR⟩, hS.F ht⟩) hS.2.2 dX17_lookAt_93
set_option maxHeartbeats 4000000 in
set_option maxRecDepth 100000 in
theorem lk_X17_lookAt_72 {p : Program} {l : Launch} {e : Env} {s : State} {m : MethodId} {args : Array Value} {below : List Frame} {meth : Method} {c : Code} {G : sv_G} {B : Nat} (K : sv_W p s m args meth c cX17_lookAt RX17 2 (some .int) G B "lookAt") {r : Int32} {hE : sv_H} {x0 : Nat} {x1 : Int32} {h : sv_H} (hw : fn_X17_lookAt_72 x0 x1 h = some (r, hE)) {H : Heap} {locs : List Loc} {ls : Array Slot} (hR : sv_R G vwCl sv_ft B h H) (hS : va_S (fun q => B ≤ q) s.heap H locs) (hl : lv_has ls 2 [(0, .ref x0), (1, .int x1)]) : W p l e rm_X17_lookAt s m args below meth c H locs 0 0 (sv_Z below s args G B (some (.int r)) hE) (F0 m 72 ls []) := by
  obtain ⟨hx, hb, hml, hown, hts, hC, hlk, hr, hBs, hni⟩ := id K
  unfold fn_X17_lookAt_72 at hw
  refine lv_aload_n hx hb dX17_lookAt_72 rfl (lv_at hl 0 rfl) ?_
  obtain ⟨v1, hv, hw⟩ := sv_bd hw
  refine sv_rgI hx hb hown hC.1 hR (fl_X17_lookAt_77 hts hC hni) rfl (by decide) rfl rfl hv dX17_lookAt_73 ?_
  refine lv_if_eq (tgt := 92) hx hb dX17_lookAt_76 (by decide) (fun cc => ?_) (fun cc => ?_)
  · have hw := sv_ift cc hw
    refine lv_iconst (v := (-1)) hx hb dX17_lookAt_92 (by decide) ?_
    exact lk_X17_lookAt_93 K hw hR hS (lv_sub hl [] rfl)
  · have hw := sv_iff cc hw
    refine lv_aload_n hx hb dX17_lookAt_79 rfl (lv_at hl 0 rfl) ?_
    obtain ⟨v2, hv, hw⟩ := sv_bd hw
    refine sv_rgP hx hb hown hC.1 hR (fl_X17_lookAt_10 hts hC hni) rfl (by decide) rfl rfl hv dX17_lookAt_80 ?_
    refine lv_iload_n hx hb dX17_lookAt_83 rfl (lv_at hl 1 rfl) ?_
    refine lv_iconst (v := 3) hx hb dX17_lookAt_84 (by decide) ?_
    refine lv_iadd hx hb dX17_lookAt_85 ?_
    obtain ⟨r3, h4, hv1, hw⟩ := sv_b_some hw
    refine sv_call (va_runVN (C := RX14) (As := [.int (x1 + 3)]) (rest := []) ⟨hx, hb, hml, hown, hts⟩ (mt_X14_many l G B hv1) ⟨va_cnB 1 hts (sv_gd wd_1885) rfl rfl rfl (hC.2.1 (.methodLinkNest "SectorViewModel" 81 ⟨"SectorViewModel$Lumps", "many", "(I)I"⟩ "SectorViewModel") (by decide +kernel)) (hts _ wd_145) (by decide +kernel) ⟨Nat.le_of_ble_eq_true rfl, Nat.le_of_ble_eq_true rfl⟩, hts _ wd_1884, hts _ wd_71⟩ ⟨sv_blind, sv_recv hC.1 hR (ci := 14) (sv_go hv1).1 (by decide) rfl, fun U hU hW => sv_pre hC hR hS hBs hU hW⟩ rfl rfl hl.1 rfl (lv_room (Nat.le_of_ble_eq_true rfl)) dX17_lookAt_86 ⟨Nat.zero_le _, Nat.zero_le _⟩) hS (fun H locs hR hS => ?_)
    refine lv_goto (tgt := 93) hx hb dX17_lookAt_89 (by decide) ?_
    exact lk_X17_lookAt_93 K hw hR hS (lv_sub hl [] rfl)
set_option maxHeartbeats 4000000 in
set_option maxRecDepth 100000 in
theorem lk_X17_lookAt_150 {p : Program} {l : Launch} {e : Env} {s : State} {m : MethodId} {args : Array Value} {below : List Frame} {meth : Method} {c : Code} {G : sv_G} {B : Nat} (K : sv_W p s m args meth c cX17_lookAt RX17 2 (some .int) G B "lookAt") {r : Int32} {hE : sv_H} {s0 : Int32} {h : sv_H} (hw : fn_X17_lookAt_150 s0 h = some (r, hE)) {H : Heap} {locs : List Loc} {ls : Array Slot} (hR : sv_R G vwCl sv_ft B h H) (hS : va_S (fun q => B ≤ q) s.heap H locs) (hl : lv_has ls 2 []) : W p l e rm_X17_lookAt s m args below meth c H locs 0 0 (sv_Z below s args G B (some (.int r)) hE) (F0 m 150 ls [.int s0]) := by
  obtain ⟨hx, hb, hml, hown, hts, hC, hlk, hr, hBs, hni⟩ := id K
  unfold fn_X17_lookAt_150 at hw
  obtain ⟨rfl, rfl⟩ := sv_ret hw
  exact W.iret hx hb hr (fun t ht hW => ⟨⟨rfl, by rw [ht]; exact hR⟩, hS.F ht⟩) hS.2.2 dX17_lookAt_150
set_option maxHeartbeats 4000000 in
set_option maxRecDepth 100000 in
theorem lk_X17_lookAt_176 {p : Program} {l : Launch} {e : Env} {s : State} {m : MethodId} {args : Array Value} {below : List Frame} {meth : Method} {c : Code} {G : sv_G} {B : Nat} (K : sv_W p s m args meth c cX17_lookAt RX17 2 (some .int) G B "lookAt") {r : Int32} {hE : sv_H} {s0 : Int32} {h : sv_H} (hw : fn_X17_lookAt_176 s0 h = some (r, hE)) {H : Heap} {locs : List Loc} {ls : Array Slot} (hR : sv_R G vwCl sv_ft B h H) (hS : va_S (fun q => B ≤ q) s.heap H locs) (hl : lv_has ls 2 []) : W p l e rm_X17_lookAt s m args below meth c H locs 0 0 (sv_Z below s args G B (some (.int r)) hE) (F0 m 176 ls [.int s0]) := by
  obtain ⟨hx, hb, hml, hown, hts, hC, hlk, hr, hBs, hni⟩ := id K
  unfold fn_X17_lookAt_176 at hw
  obtain ⟨rfl, rfl⟩ := sv_ret hw
  exact W.iret hx hb hr (fun t ht hW => ⟨⟨rfl, by rw [ht]; exact hR⟩, hS.F ht⟩) hS.2.2 dX17_lookAt_176
set_option maxHeartbeats 4000000 in
set_option maxRecDepth 100000 in
theorem lk_X17_lookAt_0 {p : Program} {l : Launch} {e : Env} {s : State} {m : MethodId} {args : Array Value} {below : List Frame} {meth : Method} {c : Code} {G : sv_G} {B : Nat} (K : sv_W p s m args meth c cX17_lookAt RX17 2 (some .int) G B "lookAt") {r : Int32} {hE : sv_H} {x0 : Nat} {x1 : Int32} {h : sv_H} (hw : fn_X17_lookAt x0 x1 h = some (r, hE)) {H : Heap} {locs : List Loc} {ls : Array Slot} (hR : sv_R G vwCl sv_ft B h H) (hS : va_S (fun q => B ≤ q) s.heap H locs) (hl : lv_has ls 2 [(0, .ref x0), (1, .int x1)]) : W p l e rm_X17_lookAt s m args below meth c H locs 0 0 (sv_Z below s args G B (some (.int r)) hE) (F0 m 0 ls []) := by
  obtain ⟨hx, hb, hml, hown, hts, hC, hlk, hr, hBs, hni⟩ := id K
  unfold fn_X17_lookAt at hw
  have hw := (sv_go hw).2
  refine lv_aload_n hx hb dX17_lookAt_0 rfl (lv_at hl 0 rfl) ?_
  refine lv_iconst (v := 0) hx hb dX17_lookAt_1 (by decide) ?_
  obtain ⟨h1, hv, hw⟩ := sv_bd hw
  refine sv_rpI hx hb hown hC.1 hR hS (fl_X17_lookAt_60 hts hC hni) rfl (by decide) rfl rfl hv dX17_lookAt_2 (fun H locs hR hS => ?_)
  refine lv_iload_n hx hb dX17_lookAt_5 rfl (lv_at hl 1 rfl) ?_
  refine sv_em (x1 = 0) (fun c0 => ?_) (fun c0 => ?_)
  · have hw := sv_ift c0 hw
    refine lv_tableIn (tgt := 72) (off := 66) hx hb dX17_lookAt_6 (by rw [c0]; decide) (by rw [c0]; decide) (by rw [c0]; rfl) (by decide) ?_
    exact lk_X17_lookAt_72 K hw hR hS (lv_sub hl [0, 1] rfl)
  have hw := sv_iff c0 hw
  refine sv_em (x1 = 1) (fun c1 => ?_) (fun c1 => ?_)
  · have hw := sv_ift c1 hw
    refine lv_tableIn (tgt := 72) (off := 66) hx hb dX17_lookAt_6 (by rw [c1]; decide) (by rw [c1]; decide) (by rw [c1]; rfl) (by decide) ?_
    exact lk_X17_lookAt_72 K hw hR hS (lv_sub hl [0, 1] rfl)
  have hw := sv_iff c1 hw
  refine sv_em (x1 = 2) (fun c2 => ?_) (fun c2 => ?_)
  · have hw := sv_ift c2 hw
    refine lv_tableIn (tgt := 72) (off := 66) hx hb dX17_lookAt_6 (by rw [c2]; decide) (by rw [c2]; decide) (by rw [c2]; rfl) (by decide) ?_
    exact lk_X17_lookAt_72 K hw hR hS (lv_sub hl [0, 1] rfl)
  have hw := sv_iff c2 hw
  refine sv_em (x1 = 3) (fun c3 => ?_) (fun c3 => ?_)
  · have hw := sv_ift c3 hw
    refine lv_tableIn (tgt := 72) (off := 66) hx hb dX17_lookAt_6 (by rw [c3]; decide) (by rw [c3]; decide) (by rw [c3]; rfl) (by decide) ?_
    exact lk_X17_lookAt_72 K hw hR hS (lv_sub hl [0, 1] rfl)
  have hw := sv_iff c3 hw
  refine sv_em (x1 = 4) (fun c4 => ?_) (fun c4 => ?_)
  · have hw := sv_ift c4 hw
    refine lv_tableIn (tgt := 94) (off := 88) hx hb dX17_lookAt_6 (by rw [c4]; decide) (by rw [c4]; decide) (by rw [c4]; rfl) (by decide) ?_
    refine lv_aload_n hx hb dX17_lookAt_94 rfl (lv_at hl 0 rfl) ?_
    obtain ⟨v2, hv, hw⟩ := sv_bd hw
    refine sv_rgP hx hb hown hC.1 hR (fl_X17_lookAt_19 hts hC hni) rfl (by decide) rfl rfl hv dX17_lookAt_95 ?_
    obtain ⟨v3, hv, hw⟩ := sv_bd hw
    refine sv_rgI hx hb hown hC.1 hR (fl_X17_lookAt_98 hts hC hni) rfl (by decide) rfl rfl hv dX17_lookAt_98 ?_
    obtain ⟨rfl, rfl⟩ := sv_ret hw
    exact W.iret hx hb hr (fun t ht hW => ⟨⟨rfl, by rw [ht]; exact hR⟩, hS.F ht⟩) hS.2.2 dX17_lookAt_101
  have hw := sv_iff c4 hw
  refine sv_em (x1 = 5) (fun c5 => ?_) (fun c5 => ?_)
  · have hw := sv_ift c5 hw
    refine lv_tableIn (tgt := 102) (off := 96) hx hb dX17_lookAt_6 (by rw [c5]; decide) (by rw [c5]; decide) (by rw [c5]; rfl) (by decide) ?_
    refine lv_aload_n hx hb dX17_lookAt_102 rfl (lv_at hl 0 rfl) ?_
    obtain ⟨v4, hv, hw⟩ := sv_bd hw
    refine sv_rgP hx hb hown hC.1 hR (fl_X17_lookAt_10 hts hC hni) rfl (by decide) rfl rfl hv dX17_lookAt_103 ?_
    obtain ⟨v5, hv, hw⟩ := sv_bd hw
    refine sv_rgI hx hb hown hC.1 hR (fl_X17_lookAt_70 hts hC hni) rfl (by decide) rfl rfl hv dX17_lookAt_106 ?_
    obtain ⟨rfl, rfl⟩ := sv_ret hw
    exact W.iret hx hb hr (fun t ht hW => ⟨⟨rfl, by rw [ht]; exact hR⟩, hS.F ht⟩) hS.2.2 dX17_lookAt_109
  have hw := sv_iff c5 hw
  refine sv_em (x1 = 6) (fun c6 => ?_) (fun c6 => ?_)
  · have hw := sv_ift c6 hw
    refine lv_tableIn (tgt := 110) (off := 104) hx hb dX17_lookAt_6 (by rw [c6]; decide) (by rw [c6]; decide) (by rw [c6]; rfl) (by decide) ?_
    refine lv_aload_n hx hb dX17_lookAt_110 rfl (lv_at hl 0 rfl) ?_
    obtain ⟨v6, hv, hw⟩ := sv_bd hw
    refine sv_rgI hx hb hown hC.1 hR (fl_X17_lookAt_163 hts hC hni) rfl (by decide) rfl rfl hv dX17_lookAt_111 ?_
    obtain ⟨rfl, rfl⟩ := sv_ret hw
    exact W.iret hx hb hr (fun t ht hW => ⟨⟨rfl, by rw [ht]; exact hR⟩, hS.F ht⟩) hS.2.2 dX17_lookAt_114
  have hw := sv_iff c6 hw
  refine sv_em (x1 = 7) (fun c7 => ?_) (fun c7 => ?_)
  · have hw := sv_ift c7 hw
    refine lv_tableIn (tgt := 115) (off := 109) hx hb dX17_lookAt_6 (by rw [c7]; decide) (by rw [c7]; decide) (by rw [c7]; rfl) (by decide) ?_
    refine lv_aload_n hx hb dX17_lookAt_115 rfl (lv_at hl 0 rfl) ?_
    obtain ⟨v7, hv, hw⟩ := sv_bd hw
    refine sv_rgI hx hb hown hC.1 hR (fl_X17_lookAt_88 hts hC hni) rfl (by decide) rfl rfl hv dX17_lookAt_116 ?_
    obtain ⟨rfl, rfl⟩ := sv_ret hw
    exact W.iret hx hb hr (fun t ht hW => ⟨⟨rfl, by rw [ht]; exact hR⟩, hS.F ht⟩) hS.2.2 dX17_lookAt_119
  have hw := sv_iff c7 hw
  refine sv_em (x1 = 8) (fun c8 => ?_) (fun c8 => ?_)
  · have hw := sv_ift c8 hw
    refine lv_tableIn (tgt := 120) (off := 114) hx hb dX17_lookAt_6 (by rw [c8]; decide) (by rw [c8]; decide) (by rw [c8]; rfl) (by decide) ?_
    refine lv_aload_n hx hb dX17_lookAt_120 rfl (lv_at hl 0 rfl) ?_
    obtain ⟨v8, hv, hw⟩ := sv_bd hw
    refine sv_rgI hx hb hown hC.1 hR (fl_X17_lookAt_41 hts hC hni) rfl (by decide) rfl rfl hv dX17_lookAt_121 ?_
    obtain ⟨rfl, rfl⟩ := sv_ret hw
    exact W.iret hx hb hr (fun t ht hW => ⟨⟨rfl, by rw [ht]; exact hR⟩, hS.F ht⟩) hS.2.2 dX17_lookAt_124
  have hw := sv_iff c8 hw
  refine sv_em (x1 = 9) (fun c9 => ?_) (fun c9 => ?_)
  · have hw := sv_ift c9 hw
    refine lv_tableIn (tgt := 125) (off := 119) hx hb dX17_lookAt_6 (by rw [c9]; decide) (by rw [c9]; decide) (by rw [c9]; rfl) (by decide) ?_
    refine lv_aload_n hx hb dX17_lookAt_125 rfl (lv_at hl 0 rfl) ?_
    obtain ⟨v9, hv, hw⟩ := sv_bd hw
    refine sv_rgP hx hb hown hC.1 hR (fl_X17_lookAt_33 hts hC hni) rfl (by decide) rfl rfl hv dX17_lookAt_126 ?_
    obtain ⟨_, h10, hv1, hw⟩ := sv_b_some hw
    refine sv_call (va_runVN (C := RX16) (As := []) (rest := []) ⟨hx, hb, hml, hown, hts⟩ (mt_X16_know l G B hv1) ⟨va_cnB 0 hts (sv_gd wd_2248) rfl rfl rfl (hC.2.1 (.methodLinkNest "SectorViewModel" 372 ⟨"SectorViewModel$Tree", "know", "()V"⟩ "SectorViewModel") (by decide +kernel)) (hts _ wd_148) (by decide +kernel) ⟨Nat.le_of_ble_eq_true rfl, Nat.le_of_ble_eq_true rfl⟩, hts _ wd_2247, hts _ wd_117⟩ ⟨sv_blind, sv_recv hC.1 hR (ci := 16) (sv_go hv1).1 (by decide) rfl, fun U hU hW => sv_pre hC hR hS hBs hU hW⟩ rfl rfl hl.1 rfl (lv_room (Nat.le_of_ble_eq_true rfl)) dX17_lookAt_129 ⟨Nat.zero_le _, Nat.zero_le _⟩) hS (fun H locs hR hS => ?_)
    refine lv_aload_n hx hb dX17_lookAt_132 rfl (lv_at hl 0 rfl) ?_
    obtain ⟨v11, hv, hw⟩ := sv_bd hw
    refine sv_rgI hx hb hown hC.1 hR (fl_X17_lookAt_77 hts hC hni) rfl (by decide) rfl rfl hv dX17_lookAt_133 ?_
    refine lv_if_eq (tgt := 149) hx hb dX17_lookAt_136 (by decide) (fun cc => ?_) (fun cc => ?_)
    · have hw := sv_ift cc hw
      refine lv_iconst (v := (-1)) hx hb dX17_lookAt_149 (by decide) ?_
      exact lk_X17_lookAt_150 K hw hR hS (lv_sub hl [] rfl)
    · have hw := sv_iff cc hw
      refine lv_aload_n hx hb dX17_lookAt_139 rfl (lv_at hl 0 rfl) ?_
      obtain ⟨v12, hv, hw⟩ := sv_bd hw
      refine sv_rgP hx hb hown hC.1 hR (fl_X17_lookAt_33 hts hC hni) rfl (by decide) rfl rfl hv dX17_lookAt_140 ?_
      obtain ⟨v13, hv, hw⟩ := sv_bd hw
      refine sv_rgI hx hb hown hC.1 hR (fl_X17_lookAt_375 hts hC hni) rfl (by decide) rfl rfl hv dX17_lookAt_143 ?_
      refine lv_goto (tgt := 150) hx hb dX17_lookAt_146 (by decide) ?_
      exact lk_X17_lookAt_150 K hw hR hS (lv_sub hl [] rfl)
  have hw := sv_iff c9 hw
  refine sv_em (x1 = 10) (fun c10 => ?_) (fun c10 => ?_)
  · have hw := sv_ift c10 hw
    refine lv_tableIn (tgt := 151) (off := 145) hx hb dX17_lookAt_6 (by rw [c10]; decide) (by rw [c10]; decide) (by rw [c10]; rfl) (by decide) ?_
    refine lv_aload_n hx hb dX17_lookAt_151 rfl (lv_at hl 0 rfl) ?_
    obtain ⟨v14, hv, hw⟩ := sv_bd hw
    refine sv_rgP hx hb hown hC.1 hR (fl_X17_lookAt_33 hts hC hni) rfl (by decide) rfl rfl hv dX17_lookAt_152 ?_
    obtain ⟨_, h15, hv2, hw⟩ := sv_b_some hw
    refine sv_call (va_runVN (C := RX16) (As := []) (rest := []) ⟨hx, hb, hml, hown, hts⟩ (mt_X16_know l G B hv2) ⟨va_cnB 0 hts (sv_gd wd_2248) rfl rfl rfl (hC.2.1 (.methodLinkNest "SectorViewModel" 372 ⟨"SectorViewModel$Tree", "know", "()V"⟩ "SectorViewModel") (by decide +kernel)) (hts _ wd_148) (by decide +kernel) ⟨Nat.le_of_ble_eq_true rfl, Nat.le_of_ble_eq_true rfl⟩, hts _ wd_2247, hts _ wd_117⟩ ⟨sv_blind, sv_recv hC.1 hR (ci := 16) (sv_go hv2).1 (by decide) rfl, fun U hU hW => sv_pre hC hR hS hBs hU hW⟩ rfl rfl hl.1 rfl (lv_room (Nat.le_of_ble_eq_true rfl)) dX17_lookAt_155 ⟨Nat.zero_le _, Nat.zero_le _⟩) hS (fun H locs hR hS => ?_)
    refine lv_aload_n hx hb dX17_lookAt_158 rfl (lv_at hl 0 rfl) ?_
    obtain ⟨v16, hv, hw⟩ := sv_bd hw
    refine sv_rgI hx hb hown hC.1 hR (fl_X17_lookAt_77 hts hC hni) rfl (by decide) rfl rfl hv dX17_lookAt_159 ?_
    refine lv_if_eq (tgt := 175) hx hb dX17_lookAt_162 (by decide) (fun cc => ?_) (fun cc => ?_)
    · have hw := sv_ift cc hw
      refine lv_iconst (v := (-1)) hx hb dX17_lookAt_175 (by decide) ?_
      exact lk_X17_lookAt_176 K hw hR hS (lv_sub hl [] rfl)
    · have hw := sv_iff cc hw
      refine lv_aload_n hx hb dX17_lookAt_165 rfl (lv_at hl 0 rfl) ?_
      obtain ⟨v17, hv, hw⟩ := sv_bd hw
      refine sv_rgP hx hb hown hC.1 hR (fl_X17_lookAt_33 hts hC hni) rfl (by decide) rfl rfl hv dX17_lookAt_166 ?_
      obtain ⟨v18, hv, hw⟩ := sv_bd hw
      refine sv_rgI hx hb hown hC.1 hR (fl_X17_lookAt_378 hts hC hni) rfl (by decide) rfl rfl hv dX17_lookAt_169 ?_
      refine lv_goto (tgt := 176) hx hb dX17_lookAt_172 (by decide) ?_
      exact lk_X17_lookAt_176 K hw hR hS (lv_sub hl [] rfl)
  have hw := sv_iff c10 hw
  refine sv_em (x1 = 11) (fun c11 => ?_) (fun c11 => ?_)
  · have hw := sv_ift c11 hw
    refine lv_tableIn (tgt := 177) (off := 171) hx hb dX17_lookAt_6 (by rw [c11]; decide) (by rw [c11]; decide) (by rw [c11]; rfl) (by decide) ?_
    refine lv_aload_n hx hb dX17_lookAt_177 rfl (lv_at hl 0 rfl) ?_
    obtain ⟨v19, hv, hw⟩ := sv_bd hw
    refine sv_rgP hx hb hown hC.1 hR (fl_X17_lookAt_26 hts hC hni) rfl (by decide) rfl rfl hv dX17_lookAt_178 ?_
    obtain ⟨r20, h21, hv3, hw⟩ := sv_b_some hw
    refine sv_call (va_runVN (C := RX13) (As := []) (rest := []) ⟨hx, hb, hml, hown, hts⟩ (mt_X13_many l G B hv3) ⟨va_cnB 0 hts (sv_gd wd_2106) rfl rfl rfl (hC.2.1 (.methodLinkNest "SectorViewModel" 381 ⟨"SectorViewModel$Hall", "many", "()I"⟩ "SectorViewModel") (by decide +kernel)) (hts _ wd_147) (by decide +kernel) ⟨Nat.le_of_ble_eq_true rfl, Nat.le_of_ble_eq_true rfl⟩, hts _ wd_2105, hts _ wd_101⟩ ⟨sv_blind, sv_recv hC.1 hR (ci := 13) (sv_go hv3).1 (by decide) rfl, fun U hU hW => sv_pre hC hR hS hBs hU hW⟩ rfl rfl hl.1 rfl (lv_room (Nat.le_of_ble_eq_true rfl)) dX17_lookAt_181 ⟨Nat.zero_le _, Nat.zero_le _⟩) hS (fun H locs hR hS => ?_)
    obtain ⟨rfl, rfl⟩ := sv_ret hw
    exact W.iret hx hb hr (fun t ht hW => ⟨⟨rfl, by rw [ht]; exact hR⟩, hS.F ht⟩) hS.2.2 dX17_lookAt_184
  have hw := sv_iff c11 hw
  refine sv_em (x1 = 12) (fun c12 => ?_) (fun c12 => ?_)
  · have hw := sv_ift c12 hw
    refine lv_tableIn (tgt := 185) (off := 179) hx hb dX17_lookAt_6 (by rw [c12]; decide) (by rw [c12]; decide) (by rw [c12]; rfl) (by decide) ?_
    refine lv_aload_n hx hb dX17_lookAt_185 rfl (lv_at hl 0 rfl) ?_
    obtain ⟨v22, hv, hw⟩ := sv_bd hw
    refine sv_rgI hx hb hown hC.1 hR (fl_X17_lookAt_92 hts hC hni) rfl (by decide) rfl rfl hv dX17_lookAt_186 ?_
    obtain ⟨rfl, rfl⟩ := sv_ret hw
    exact W.iret hx hb hr (fun t ht hW => ⟨⟨rfl, by rw [ht]; exact hR⟩, hS.F ht⟩) hS.2.2 dX17_lookAt_189
  have hw := sv_iff c12 hw
  have n0 := lv_neT c0 (a := 0) rfl
  have n1 := lv_neT c1 (a := 1) rfl
  have n2 := lv_neT c2 (a := 2) rfl
  have n3 := lv_neT c3 (a := 3) rfl
  have n4 := lv_neT c4 (a := 4) rfl
  have n5 := lv_neT c5 (a := 5) rfl
  have n6 := lv_neT c6 (a := 6) rfl
  have n7 := lv_neT c7 (a := 7) rfl
  have n8 := lv_neT c8 (a := 8) rfl
  have n9 := lv_neT c9 (a := 9) rfl
  have n10 := lv_neT c10 (a := 10) rfl
  have n11 := lv_neT c11 (a := 11) rfl
  have n12 := lv_neT c12 (a := 12) rfl
  refine lv_tableOut (tgt := 190) hx hb dX17_lookAt_6 (by omega) (by decide) ?_
  refine lv_iconst (v := (-1)) hx hb dX17_lookAt_190 (by decide) ?_
  obtain ⟨rfl, rfl⟩ := sv_ret hw
  exact W.iret hx hb hr (fun t ht hW => ⟨⟨rfl, by rw [ht]; exact hR⟩, hS.F ht⟩) hS.2.2 dX17_lookAt_191
set_option maxHeartbeats 4000000 in
set_option maxRecDepth 100000 in
theorem mt_X17_lookAt (l : Launch) (G : sv_G) (B : Nat) {x0 : Nat} {x1 : Int32} {h : sv_H} {r : Int32} {hE : sv_H} (hw : fn_X17_lookAt x0 x1 h = some (r, hE)) : Met l yX17_lookAt (.code yX17_lookAt cX17_lookAt 2 (some .int) :: sv_tb) rm_X17_lookAt (sv_Pc G B [.ref x0, .int x1] h) (sv_Q G B (some (.int r)) hE) 0 0 (fun q => B ≤ q) := by
  refine Met.ofW (cc := cX17_lookAt) (maxL := 2) (ret := (some .int)) (by decide +kernel) rfl ?_
  intro p e s m args below meth c s₁ Bd hml hv
  obtain ⟨rfl, hR, hC, hB⟩ := hv
  have hl := lv_entry ([.ref x0, .int x1]) (n := 2) (Nat.le_of_ble_eq_true rfl)
  rw [lg_entry_eq]
  generalize (lg_sl ([.ref x0, .int x1]) ++ List.replicate (2 - (lg_sl ([.ref x0, .int x1])).length) Slot.unset).toArray = ls at hl ⊢
  have hl : lv_has ls 2 [(0, .ref x0), (1, .int x1)] := hl
  exact lk_X17_lookAt_0 ⟨Bd.exec, Bd.bytes, hml, findClass_of_methodNamed Bd.named, fun w h => atoms_spec (ws := .code yX17_lookAt cX17_lookAt 2 (some .int) :: sv_tb) Bd.pre w (List.mem_cons_of_mem _ h), hC, Bd.notSynchronized, Bd.returns, hB, (name_of_methodNamed Bd.named Bd.method).1⟩ hw hR va_S.rf hl

