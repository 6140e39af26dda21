theorem dX2_findOverlap_0 : decode cX2_findOverlap 0 = .ok (.iconst 1, 1) := by decide +kernel
theorem dX2_findOverlap_1 : decode cX2_findOverlap 1 = .ok (.istore_n 3, 1) := by decide +kernel
theorem dX2_findOverlap_2 : decode cX2_findOverlap 2 = .ok (.iload_n 3, 1) := by decide +kernel
theorem dX2_findOverlap_3 : decode cX2_findOverlap 3 = .ok (.aload_n 0, 1) := by decide +kernel
theorem dX2_findOverlap_4 : decode cX2_findOverlap 4 = .ok (.getfield 75, 3) := by decide +kernel
theorem dX2_findOverlap_7 : decode cX2_findOverlap 7 = .ok (.if_icmp .ge 69, 3) := by decide +kernel
theorem dX2_findOverlap_10 : decode cX2_findOverlap 10 = .ok (.aload_n 1, 1) := by decide +kernel
theorem dX2_findOverlap_11 : decode cX2_findOverlap 11 = .ok (.invokevirtual 78, 3) := by decide +kernel
theorem dX2_findOverlap_14 : decode cX2_findOverlap 14 = .ok (.ifCond .eq 62, 3) := by decide +kernel
theorem dX2_findOverlap_17 : decode cX2_findOverlap 17 = .ok (.iconst 0, 1) := by decide +kernel
theorem dX2_findOverlap_18 : decode cX2_findOverlap 18 = .ok (.istore 4, 2) := by decide +kernel
theorem dX2_findOverlap_20 : decode cX2_findOverlap 20 = .ok (.iload 4, 2) := by decide +kernel
theorem dX2_findOverlap_22 : decode cX2_findOverlap 22 = .ok (.iload_n 3, 1) := by decide +kernel
theorem dX2_findOverlap_23 : decode cX2_findOverlap 23 = .ok (.if_icmp .ge 47, 3) := by decide +kernel
theorem dX2_findOverlap_26 : decode cX2_findOverlap 26 = .ok (.aload_n 1, 1) := by decide +kernel
theorem dX2_findOverlap_27 : decode cX2_findOverlap 27 = .ok (.invokevirtual 78, 3) := by decide +kernel
theorem dX2_findOverlap_30 : decode cX2_findOverlap 30 = .ok (.ifCond .eq 40, 3) := by decide +kernel
theorem dX2_findOverlap_33 : decode cX2_findOverlap 33 = .ok (.aload_n 0, 1) := by decide +kernel
theorem dX2_findOverlap_34 : decode cX2_findOverlap 34 = .ok (.getfield 49, 3) := by decide +kernel
theorem dX2_findOverlap_37 : decode cX2_findOverlap 37 = .ok (.iload_n 3, 1) := by decide +kernel
theorem dX2_findOverlap_38 : decode cX2_findOverlap 38 = .ok (.aaload, 1) := by decide +kernel
theorem dX2_findOverlap_39 : decode cX2_findOverlap 39 = .ok (.aload_n 0, 1) := by decide +kernel
theorem dX2_findOverlap_40 : decode cX2_findOverlap 40 = .ok (.getfield 49, 3) := by decide +kernel
theorem dX2_findOverlap_43 : decode cX2_findOverlap 43 = .ok (.iload 4, 2) := by decide +kernel
theorem dX2_findOverlap_45 : decode cX2_findOverlap 45 = .ok (.aaload, 1) := by decide +kernel
theorem dX2_findOverlap_46 : decode cX2_findOverlap 46 = .ok (.invokevirtual 191, 3) := by decide +kernel
theorem dX2_findOverlap_49 : decode cX2_findOverlap 49 = .ok (.ifCond .eq 15, 3) := by decide +kernel
theorem dX2_findOverlap_52 : decode cX2_findOverlap 52 = .ok (.aload_n 1, 1) := by decide +kernel
theorem dX2_findOverlap_53 : decode cX2_findOverlap 53 = .ok (.bipush 6, 2) := by decide +kernel
theorem dX2_findOverlap_55 : decode cX2_findOverlap 55 = .ok (.iload_n 2, 1) := by decide +kernel
theorem dX2_findOverlap_56 : decode cX2_findOverlap 56 = .ok (.bipush 14, 2) := by decide +kernel
theorem dX2_findOverlap_58 : decode cX2_findOverlap 58 = .ok (.iload_n 3, 1) := by decide +kernel
theorem dX2_findOverlap_59 : decode cX2_findOverlap 59 = .ok (.imul, 1) := by decide +kernel
theorem dX2_findOverlap_60 : decode cX2_findOverlap 60 = .ok (.iadd, 1) := by decide +kernel
theorem dX2_findOverlap_61 : decode cX2_findOverlap 61 = .ok (.invokevirtual 119, 3) := by decide +kernel
theorem dX2_findOverlap_64 : decode cX2_findOverlap 64 = .ok (.iinc 4 1, 3) := by decide +kernel
theorem dX2_findOverlap_67 : decode cX2_findOverlap 67 = .ok (.goto (-47), 3) := by decide +kernel
theorem dX2_findOverlap_70 : decode cX2_findOverlap 70 = .ok (.iinc 3 1, 3) := by decide +kernel
theorem dX2_findOverlap_73 : decode cX2_findOverlap 73 = .ok (.goto (-71), 3) := by decide +kernel
theorem dX2_findOverlap_76 : decode cX2_findOverlap 76 = .ok (.return_, 1) := by decide +kernel
theorem dX2_read_0 : decode cX2_read 0 = .ok (.aload_n 1, 1) := by decide +kernel
theorem dX2_read_1 : decode cX2_read 1 = .ok (.bipush 77, 2) := by decide +kernel
theorem dX2_read_3 : decode cX2_read 3 = .ok (.iconst 2, 1) := by decide +kernel
theorem dX2_read_4 : decode cX2_read 4 = .ok (.invokevirtual 55, 3) := by decide +kernel
theorem dX2_read_7 : decode cX2_read 7 = .ok (.aload_n 1, 1) := by decide +kernel
theorem dX2_read_8 : decode cX2_read 8 = .ok (.bipush 72, 2) := by decide +kernel
theorem dX2_read_10 : decode cX2_read 10 = .ok (.iconst 2, 1) := by decide +kernel
theorem dX2_read_11 : decode cX2_read 11 = .ok (.invokevirtual 55, 3) := by decide +kernel
theorem dX2_read_14 : decode cX2_read 14 = .ok (.aload_n 1, 1) := by decide +kernel
theorem dX2_read_15 : decode cX2_read 15 = .ok (.iconst 1, 1) := by decide +kernel
theorem dX2_read_16 : decode cX2_read 16 = .ok (.iconst 2, 1) := by decide +kernel
theorem dX2_read_17 : decode cX2_read 17 = .ok (.invokevirtual 55, 3) := by decide +kernel
theorem dX2_read_20 : decode cX2_read 20 = .ok (.aload_n 0, 1) := by decide +kernel
theorem dX2_read_21 : decode cX2_read 21 = .ok (.aload_n 1, 1) := by decide +kernel
theorem dX2_read_22 : decode cX2_read 22 = .ok (.iconst 0, 1) := by decide +kernel
theorem dX2_read_23 : decode cX2_read 23 = .ok (.sipush 128, 3) := by decide +kernel
theorem dX2_read_26 : decode cX2_read 26 = .ok (.invokevirtual 61, 3) := by decide +kernel
theorem dX2_read_29 : decode cX2_read 29 = .ok (.putfield 65, 3) := by decide +kernel
theorem dX2_read_32 : decode cX2_read 32 = .ok (.aload_n 0, 1) := by decide +kernel
theorem dX2_read_33 : decode cX2_read 33 = .ok (.aload_n 1, 1) := by decide +kernel
theorem dX2_read_34 : decode cX2_read 34 = .ok (.iconst 0, 1) := by decide +kernel
theorem dX2_read_35 : decode cX2_read 35 = .ok (.bipush 16, 2) := by decide +kernel
theorem dX2_read_37 : decode cX2_read 37 = .ok (.invokevirtual 61, 3) := by decide +kernel
theorem dX2_read_40 : decode cX2_read 40 = .ok (.putfield 69, 3) := by decide +kernel
theorem dX2_read_43 : decode cX2_read 43 = .ok (.aload_n 0, 1) := by decide +kernel
theorem dX2_read_44 : decode cX2_read 44 = .ok (.aload_n 1, 1) := by decide +kernel
theorem dX2_read_45 : decode cX2_read 45 = .ok (.iconst 1, 1) := by decide +kernel
theorem dX2_read_46 : decode cX2_read 46 = .ok (.bipush 32, 2) := by decide +kernel
theorem dX2_read_48 : decode cX2_read 48 = .ok (.invokevirtual 61, 3) := by decide +kernel
theorem dX2_read_51 : decode cX2_read 51 = .ok (.putfield 72, 3) := by decide +kernel
theorem dX2_read_54 : decode cX2_read 54 = .ok (.aload_n 0, 1) := by decide +kernel
theorem dX2_read_55 : decode cX2_read 55 = .ok (.aload_n 1, 1) := by decide +kernel
theorem dX2_read_56 : decode cX2_read 56 = .ok (.iconst 0, 1) := by decide +kernel
theorem dX2_read_57 : decode cX2_read 57 = .ok (.sipush 128, 3) := by decide +kernel
theorem dX2_read_60 : decode cX2_read 60 = .ok (.invokevirtual 61, 3) := by decide +kernel
theorem dX2_read_63 : decode cX2_read 63 = .ok (.putfield 75, 3) := by decide +kernel
theorem dX2_read_66 : decode cX2_read 66 = .ok (.iconst 0, 1) := by decide +kernel
theorem dX2_read_67 : decode cX2_read 67 = .ok (.istore_n 2, 1) := by decide +kernel
theorem dX2_read_68 : decode cX2_read 68 = .ok (.iload_n 2, 1) := by decide +kernel
theorem dX2_read_69 : decode cX2_read 69 = .ok (.aload_n 0, 1) := by decide +kernel
theorem dX2_read_70 : decode cX2_read 70 = .ok (.getfield 65, 3) := by decide +kernel
theorem dX2_read_73 : decode cX2_read 73 = .ok (.if_icmp .ge 22, 3) := by decide +kernel
theorem dX2_read_76 : decode cX2_read 76 = .ok (.aload_n 1, 1) := by decide +kernel
theorem dX2_read_77 : decode cX2_read 77 = .ok (.invokevirtual 78, 3) := by decide +kernel
theorem dX2_read_80 : decode cX2_read 80 = .ok (.ifCond .eq 15, 3) := by decide +kernel
theorem dX2_read_83 : decode cX2_read 83 = .ok (.aload_n 0, 1) := by decide +kernel
theorem dX2_read_84 : decode cX2_read 84 = .ok (.aload_n 1, 1) := by decide +kernel
theorem dX2_read_85 : decode cX2_read 85 = .ok (.iload_n 2, 1) := by decide +kernel
theorem dX2_read_86 : decode cX2_read 86 = .ok (.invokevirtual 82, 3) := by decide +kernel
theorem dX2_read_89 : decode cX2_read 89 = .ok (.iinc 2 1, 3) := by decide +kernel
theorem dX2_read_92 : decode cX2_read 92 = .ok (.goto (-24), 3) := by decide +kernel
theorem dX2_read_95 : decode cX2_read 95 = .ok (.iconst 0, 1) := by decide +kernel
theorem dX2_read_96 : decode cX2_read 96 = .ok (.istore_n 2, 1) := by decide +kernel
theorem dX2_read_97 : decode cX2_read 97 = .ok (.iload_n 2, 1) := by decide +kernel
theorem dX2_read_98 : decode cX2_read 98 = .ok (.aload_n 0, 1) := by decide +kernel
theorem dX2_read_99 : decode cX2_read 99 = .ok (.getfield 69, 3) := by decide +kernel
theorem dX2_read_102 : decode cX2_read 102 = .ok (.if_icmp .ge 22, 3) := by decide +kernel
theorem dX2_read_105 : decode cX2_read 105 = .ok (.aload_n 1, 1) := by decide +kernel
theorem dX2_read_106 : decode cX2_read 106 = .ok (.invokevirtual 78, 3) := by decide +kernel
theorem dX2_read_109 : decode cX2_read 109 = .ok (.ifCond .eq 15, 3) := by decide +kernel
theorem dX2_read_112 : decode cX2_read 112 = .ok (.aload_n 0, 1) := by decide +kernel
theorem dX2_read_113 : decode cX2_read 113 = .ok (.aload_n 1, 1) := by decide +kernel
theorem dX2_read_114 : decode cX2_read 114 = .ok (.iload_n 2, 1) := by decide +kernel
theorem dX2_read_115 : decode cX2_read 115 = .ok (.invokevirtual 86, 3) := by decide +kernel
theorem dX2_read_118 : decode cX2_read 118 = .ok (.iinc 2 1, 3) := by decide +kernel
theorem dX2_read_121 : decode cX2_read 121 = .ok (.goto (-24), 3) := by decide +kernel
theorem dX2_read_124 : decode cX2_read 124 = .ok (.iconst 0, 1) := by decide +kernel
theorem dX2_read_125 : decode cX2_read 125 = .ok (.istore_n 2, 1) := by decide +kernel
theorem dX2_read_126 : decode cX2_read 126 = .ok (.iload_n 2, 1) := by decide +kernel
theorem dX2_read_127 : decode cX2_read 127 = .ok (.aload_n 0, 1) := by decide +kernel
theorem dX2_read_128 : decode cX2_read 128 = .ok (.getfield 72, 3) := by decide +kernel
theorem dX2_read_131 : decode cX2_read 131 = .ok (.if_icmp .ge 27, 3) := by decide +kernel
theorem dX2_read_134 : decode cX2_read 134 = .ok (.aload_n 1, 1) := by decide +kernel
theorem dX2_read_135 : decode cX2_read 135 = .ok (.invokevirtual 78, 3) := by decide +kernel
theorem dX2_read_138 : decode cX2_read 138 = .ok (.ifCond .eq 20, 3) := by decide +kernel
theorem dX2_read_141 : decode cX2_read 141 = .ok (.aload_n 0, 1) := by decide +kernel
theorem dX2_read_142 : decode cX2_read 142 = .ok (.aload_n 1, 1) := by decide +kernel
theorem dX2_read_143 : decode cX2_read 143 = .ok (.aload_n 0, 1) := by decide +kernel
theorem dX2_read_144 : decode cX2_read 144 = .ok (.getfield 43, 3) := by decide +kernel
theorem dX2_read_147 : decode cX2_read 147 = .ok (.iload_n 2, 1) := by decide +kernel
theorem dX2_read_148 : decode cX2_read 148 = .ok (.aaload, 1) := by decide +kernel
theorem dX2_read_149 : decode cX2_read 149 = .ok (.invokevirtual 89, 3) := by decide +kernel
theorem dX2_read_152 : decode cX2_read 152 = .ok (.iinc 2 1, 3) := by decide +kernel
theorem dX2_read_155 : decode cX2_read 155 = .ok (.goto (-29), 3) := by decide +kernel
theorem dX2_read_158 : decode cX2_read 158 = .ok (.aload_n 1, 1) := by decide +kernel
theorem dX2_read_159 : decode cX2_read 159 = .ok (.getfield 93, 3) := by decide +kernel
theorem dX2_read_162 : decode cX2_read 162 = .ok (.istore_n 2, 1) := by decide +kernel
theorem dX2_read_163 : decode cX2_read 163 = .ok (.iconst 0, 1) := by decide +kernel
theorem dX2_read_164 : decode cX2_read 164 = .ok (.istore_n 3, 1) := by decide +kernel
theorem dX2_read_165 : decode cX2_read 165 = .ok (.iload_n 3, 1) := by decide +kernel
theorem dX2_read_166 : decode cX2_read 166 = .ok (.aload_n 0, 1) := by decide +kernel
theorem dX2_read_167 : decode cX2_read 167 = .ok (.getfield 75, 3) := by decide +kernel
theorem dX2_read_170 : decode cX2_read 170 = .ok (.if_icmp .ge 27, 3) := by decide +kernel
theorem dX2_read_173 : decode cX2_read 173 = .ok (.aload_n 1, 1) := by decide +kernel
theorem dX2_read_174 : decode cX2_read 174 = .ok (.invokevirtual 78, 3) := by decide +kernel
theorem dX2_read_177 : decode cX2_read 177 = .ok (.ifCond .eq 20, 3) := by decide +kernel
theorem dX2_read_180 : decode cX2_read 180 = .ok (.aload_n 0, 1) := by decide +kernel
theorem dX2_read_181 : decode cX2_read 181 = .ok (.aload_n 1, 1) := by decide +kernel
theorem dX2_read_182 : decode cX2_read 182 = .ok (.aload_n 0, 1) := by decide +kernel
theorem dX2_read_183 : decode cX2_read 183 = .ok (.getfield 49, 3) := by decide +kernel
theorem dX2_read_186 : decode cX2_read 186 = .ok (.iload_n 3, 1) := by decide +kernel
theorem dX2_read_187 : decode cX2_read 187 = .ok (.aaload, 1) := by decide +kernel
theorem dX2_read_188 : decode cX2_read 188 = .ok (.invokevirtual 96, 3) := by decide +kernel
theorem dX2_read_191 : decode cX2_read 191 = .ok (.iinc 3 1, 3) := by decide +kernel
theorem dX2_read_194 : decode cX2_read 194 = .ok (.goto (-29), 3) := by decide +kernel
theorem dX2_read_197 : decode cX2_read 197 = .ok (.aload_n 1, 1) := by decide +kernel
theorem dX2_read_198 : decode cX2_read 198 = .ok (.aload_n 0, 1) := by decide +kernel
theorem dX2_read_199 : decode cX2_read 199 = .ok (.getfield 21, 3) := by decide +kernel
theorem dX2_read_202 : decode cX2_read 202 = .ok (.aload_n 0, 1) := by decide +kernel
theorem dX2_read_203 : decode cX2_read 203 = .ok (.getfield 72, 3) := by decide +kernel
theorem dX2_read_206 : decode cX2_read 206 = .ok (.invokevirtual 100, 3) := by decide +kernel
theorem dX2_read_209 : decode cX2_read 209 = .ok (.aload_n 0, 1) := by decide +kernel
theorem dX2_read_210 : decode cX2_read 210 = .ok (.aload_n 1, 1) := by decide +kernel
theorem dX2_read_211 : decode cX2_read 211 = .ok (.invokevirtual 104, 3) := by decide +kernel
theorem dX2_read_214 : decode cX2_read 214 = .ok (.aload_n 1, 1) := by decide +kernel
theorem dX2_read_215 : decode cX2_read 215 = .ok (.iconst 5, 1) := by decide +kernel
theorem dX2_read_216 : decode cX2_read 216 = .ok (.invokevirtual 108, 3) := by decide +kernel
theorem dX2_read_219 : decode cX2_read 219 = .ok (.aload_n 0, 1) := by decide +kernel
theorem dX2_read_220 : decode cX2_read 220 = .ok (.aload_n 1, 1) := by decide +kernel
theorem dX2_read_221 : decode cX2_read 221 = .ok (.iload_n 2, 1) := by decide +kernel
theorem dX2_read_222 : decode cX2_read 222 = .ok (.invokevirtual 112, 3) := by decide +kernel
theorem dX2_read_225 : decode cX2_read 225 = .ok (.return_, 1) := by decide +kernel
theorem dX12_swapPlans_0 : decode cX12_swapPlans 0 = .ok (.aload_n 0, 1) := by decide +kernel
theorem dX12_swapPlans_1 : decode cX12_swapPlans 1 = .ok (.getfield 38, 3) := by decide +kernel
theorem dX12_swapPlans_4 : decode cX12_swapPlans 4 = .ok (.astore_n 1, 1) := by decide +kernel
theorem dX12_swapPlans_5 : decode cX12_swapPlans 5 = .ok (.aload_n 0, 1) := by decide +kernel
theorem dX12_swapPlans_6 : decode cX12_swapPlans 6 = .ok (.aload_n 0, 1) := by decide +kernel
theorem dX12_swapPlans_7 : decode cX12_swapPlans 7 = .ok (.getfield 42, 3) := by decide +kernel
theorem dX12_swapPlans_10 : decode cX12_swapPlans 10 = .ok (.putfield 38, 3) := by decide +kernel
theorem dX12_swapPlans_13 : decode cX12_swapPlans 13 = .ok (.aload_n 0, 1) := by decide +kernel
theorem dX12_swapPlans_14 : decode cX12_swapPlans 14 = .ok (.aload_n 1, 1) := by decide +kernel
theorem dX12_swapPlans_15 : decode cX12_swapPlans 15 = .ok (.putfield 42, 3) := by decide +kernel
theorem dX12_swapPlans_18 : decode cX12_swapPlans 18 = .ok (.return_, 1) := by decide +kernel
theorem dX8_open_0 : decode cX8_open 0 = .ok (.aload_n 0, 1) := by decide +kernel
theorem dX8_open_1 : decode cX8_open 1 = .ok (.getfield 57, 3) := by decide +kernel
theorem dX8_open_4 : decode cX8_open 4 = .ok (.sipush 130, 3) := by decide +kernel
theorem dX8_open_7 : decode cX8_open 7 = .ok (.if_icmp .ge 43, 3) := by decide +kernel
theorem dX8_open_10 : decode cX8_open 10 = .ok (.aload_n 0, 1) := by decide +kernel
theorem dX8_open_11 : decode cX8_open 11 = .ok (.getfield 37, 3) := by decide +kernel
theorem dX8_open_14 : decode cX8_open 14 = .ok (.aload_n 0, 1) := by decide +kernel
theorem dX8_open_15 : decode cX8_open 15 = .ok (.getfield 57, 3) := by decide +kernel
theorem dX8_open_18 : decode cX8_open 18 = .ok (.iload_n 1, 1) := by decide +kernel
theorem dX8_open_19 : decode cX8_open 19 = .ok (.iastore, 1) := by decide +kernel
theorem dX8_open_20 : decode cX8_open 20 = .ok (.aload_n 0, 1) := by decide +kernel
theorem dX8_open_21 : decode cX8_open 21 = .ok (.getfield 40, 3) := by decide +kernel
theorem dX8_open_24 : decode cX8_open 24 = .ok (.aload_n 0, 1) := by decide +kernel
theorem dX8_open_25 : decode cX8_open 25 = .ok (.getfield 57, 3) := by decide +kernel
theorem dX8_open_28 : decode cX8_open 28 = .ok (.iload_n 2, 1) := by decide +kernel
theorem dX8_open_29 : decode cX8_open 29 = .ok (.iastore, 1) := by decide +kernel
theorem dX8_open_30 : decode cX8_open 30 = .ok (.aload_n 0, 1) := by decide +kernel
theorem dX8_open_31 : decode cX8_open 31 = .ok (.getfield 43, 3) := by decide +kernel
theorem dX8_open_34 : decode cX8_open 34 = .ok (.aload_n 0, 1) := by decide +kernel
theorem dX8_open_35 : decode cX8_open 35 = .ok (.getfield 57, 3) := by decide +kernel
theorem dX8_open_38 : decode cX8_open 38 = .ok (.iload_n 3, 1) := by decide +kernel
theorem dX8_open_39 : decode cX8_open 39 = .ok (.bastore, 1) := by decide +kernel
theorem dX8_open_40 : decode cX8_open 40 = .ok (.aload_n 0, 1) := by decide +kernel
theorem dX8_open_41 : decode cX8_open 41 = .ok (.dup, 1) := by decide +kernel
theorem dX8_open_42 : decode cX8_open 42 = .ok (.getfield 57, 3) := by decide +kernel
theorem dX8_open_45 : decode cX8_open 45 = .ok (.iconst 1, 1) := by decide +kernel
theorem dX8_open_46 : decode cX8_open 46 = .ok (.iadd, 1) := by decide +kernel
theorem dX8_open_47 : decode cX8_open 47 = .ok (.putfield 57, 3) := by decide +kernel
theorem dX8_open_50 : decode cX8_open 50 = .ok (.return_, 1) := by decide +kernel
theorem dX8_hang_0 : decode cX8_hang 0 = .ok (.iload_n 2, 1) := by decide +kernel
theorem dX8_hang_1 : decode cX8_hang 1 = .ok (.iconst (-1), 1) := by decide +kernel
theorem dX8_hang_2 : decode cX8_hang 2 = .ok (.if_icmp .ne 4, 3) := by decide +kernel
theorem dX8_hang_5 : decode cX8_hang 5 = .ok (.return_, 1) := by decide +kernel
theorem dX8_hang_6 : decode cX8_hang 6 = .ok (.iload_n 3, 1) := by decide +kernel
theorem dX8_hang_7 : decode cX8_hang 7 = .ok (.ifCond .eq 13, 3) := by decide +kernel
theorem dX8_hang_10 : decode cX8_hang 10 = .ok (.aload_n 0, 1) := by decide +kernel
theorem dX8_hang_11 : decode cX8_hang 11 = .ok (.getfield 22, 3) := by decide +kernel
theorem dX8_hang_14 : decode cX8_hang 14 = .ok (.iload_n 2, 1) := by decide +kernel
theorem dX8_hang_15 : decode cX8_hang 15 = .ok (.iload_n 1, 1) := by decide +kernel
theorem dX8_hang_16 : decode cX8_hang 16 = .ok (.iastore, 1) := by decide +kernel
theorem dX8_hang_17 : decode cX8_hang 17 = .ok (.goto 10, 3) := by decide +kernel
theorem dX8_hang_20 : decode cX8_hang 20 = .ok (.aload_n 0, 1) := by decide +kernel
theorem dX8_hang_21 : decode cX8_hang 21 = .ok (.getfield 25, 3) := by decide +kernel
theorem dX8_hang_24 : decode cX8_hang 24 = .ok (.iload_n 2, 1) := by decide +kernel
theorem dX8_hang_25 : decode cX8_hang 25 = .ok (.iload_n 1, 1) := by decide +kernel
theorem dX8_hang_26 : decode cX8_hang 26 = .ok (.iastore, 1) := by decide +kernel
theorem dX8_hang_27 : decode cX8_hang 27 = .ok (.return_, 1) := by decide +kernel
theorem dX12_compareQuotients_0 : decode cX12_compareQuotients 0 = .ok (.lload_n 0, 1) := by decide +kernel
theorem dX12_compareQuotients_1 : decode cX12_compareQuotients 1 = .ok (.lstore 8, 2) := by decide +kernel
theorem dX12_compareQuotients_3 : decode cX12_compareQuotients 3 = .ok (.lload_n 2, 1) := by decide +kernel
theorem dX12_compareQuotients_4 : decode cX12_compareQuotients 4 = .ok (.lstore 10, 2) := by decide +kernel
theorem dX12_compareQuotients_6 : decode cX12_compareQuotients 6 = .ok (.lload 4, 2) := by decide +kernel
theorem dX12_compareQuotients_8 : decode cX12_compareQuotients 8 = .ok (.lstore 12, 2) := by decide +kernel
theorem dX12_compareQuotients_10 : decode cX12_compareQuotients 10 = .ok (.lload 6, 2) := by decide +kernel
theorem dX12_compareQuotients_12 : decode cX12_compareQuotients 12 = .ok (.lstore 14, 2) := by decide +kernel
theorem dX12_compareQuotients_14 : decode cX12_compareQuotients 14 = .ok (.iconst 0, 1) := by decide +kernel
theorem dX12_compareQuotients_15 : decode cX12_compareQuotients 15 = .ok (.istore 16, 2) := by decide +kernel
theorem dX12_compareQuotients_17 : decode cX12_compareQuotients 17 = .ok (.iload 16, 2) := by decide +kernel
theorem dX12_compareQuotients_19 : decode cX12_compareQuotients 19 = .ok (.sipush 200, 3) := by decide +kernel
theorem dX12_compareQuotients_22 : decode cX12_compareQuotients 22 = .ok (.if_icmp .ge 138, 3) := by decide +kernel
theorem dX12_compareQuotients_25 : decode cX12_compareQuotients 25 = .ok (.lload 10, 2) := by decide +kernel
theorem dX12_compareQuotients_27 : decode cX12_compareQuotients 27 = .ok (.lconst 0, 1) := by decide +kernel
theorem dX12_compareQuotients_28 : decode cX12_compareQuotients 28 = .ok (.lcmp, 1) := by decide +kernel
theorem dX12_compareQuotients_29 : decode cX12_compareQuotients 29 = .ok (.ifCond .le 131, 3) := by decide +kernel
theorem dX12_compareQuotients_32 : decode cX12_compareQuotients 32 = .ok (.lload 14, 2) := by decide +kernel
theorem dX12_compareQuotients_34 : decode cX12_compareQuotients 34 = .ok (.lconst 0, 1) := by decide +kernel
theorem dX12_compareQuotients_35 : decode cX12_compareQuotients 35 = .ok (.lcmp, 1) := by decide +kernel
theorem dX12_compareQuotients_36 : decode cX12_compareQuotients 36 = .ok (.ifCond .le 124, 3) := by decide +kernel
theorem dX12_compareQuotients_39 : decode cX12_compareQuotients 39 = .ok (.lload 8, 2) := by decide +kernel
theorem dX12_compareQuotients_41 : decode cX12_compareQuotients 41 = .ok (.lload 10, 2) := by decide +kernel
theorem dX12_compareQuotients_43 : decode cX12_compareQuotients 43 = .ok (.ldiv, 1) := by decide +kernel
theorem dX12_compareQuotients_44 : decode cX12_compareQuotients 44 = .ok (.lstore 17, 2) := by decide +kernel
theorem dX12_compareQuotients_46 : decode cX12_compareQuotients 46 = .ok (.lload 12, 2) := by decide +kernel
theorem dX12_compareQuotients_48 : decode cX12_compareQuotients 48 = .ok (.lload 14, 2) := by decide +kernel
theorem dX12_compareQuotients_50 : decode cX12_compareQuotients 50 = .ok (.ldiv, 1) := by decide +kernel
theorem dX12_compareQuotients_51 : decode cX12_compareQuotients 51 = .ok (.lstore 19, 2) := by decide +kernel
theorem dX12_compareQuotients_53 : decode cX12_compareQuotients 53 = .ok (.lload 17, 2) := by decide +kernel
theorem dX12_compareQuotients_55 : decode cX12_compareQuotients 55 = .ok (.lload 19, 2) := by decide +kernel
theorem dX12_compareQuotients_57 : decode cX12_compareQuotients 57 = .ok (.lcmp, 1) := by decide +kernel
theorem dX12_compareQuotients_58 : decode cX12_compareQuotients 58 = .ok (.ifCond .eq 17, 3) := by decide +kernel
theorem dX12_compareQuotients_61 : decode cX12_compareQuotients 61 = .ok (.lload 17, 2) := by decide +kernel
theorem dX12_compareQuotients_63 : decode cX12_compareQuotients 63 = .ok (.lload 19, 2) := by decide +kernel
theorem dX12_compareQuotients_65 : decode cX12_compareQuotients 65 = .ok (.lcmp, 1) := by decide +kernel
theorem dX12_compareQuotients_66 : decode cX12_compareQuotients 66 = .ok (.ifCond .ge 7, 3) := by decide +kernel
theorem dX12_compareQuotients_69 : decode cX12_compareQuotients 69 = .ok (.iconst (-1), 1) := by decide +kernel
theorem dX12_compareQuotients_70 : decode cX12_compareQuotients 70 = .ok (.goto 4, 3) := by decide +kernel
theorem dX12_compareQuotients_73 : decode cX12_compareQuotients 73 = .ok (.iconst 1, 1) := by decide +kernel
theorem dX12_compareQuotients_74 : decode cX12_compareQuotients 74 = .ok (.ireturn, 1) := by decide +kernel
theorem dX12_compareQuotients_75 : decode cX12_compareQuotients 75 = .ok (.lload 8, 2) := by decide +kernel
theorem dX12_compareQuotients_77 : decode cX12_compareQuotients 77 = .ok (.lload 17, 2) := by decide +kernel
theorem dX12_compareQuotients_79 : decode cX12_compareQuotients 79 = .ok (.lload 10, 2) := by decide +kernel
theorem dX12_compareQuotients_81 : decode cX12_compareQuotients 81 = .ok (.lmul, 1) := by decide +kernel
theorem dX12_compareQuotients_82 : decode cX12_compareQuotients 82 = .ok (.lsub, 1) := by decide +kernel
theorem dX12_compareQuotients_83 : decode cX12_compareQuotients 83 = .ok (.lstore 21, 2) := by decide +kernel
theorem dX12_compareQuotients_85 : decode cX12_compareQuotients 85 = .ok (.lload 12, 2) := by decide +kernel
theorem dX12_compareQuotients_87 : decode cX12_compareQuotients 87 = .ok (.lload 19, 2) := by decide +kernel
theorem dX12_compareQuotients_89 : decode cX12_compareQuotients 89 = .ok (.lload 14, 2) := by decide +kernel
theorem dX12_compareQuotients_91 : decode cX12_compareQuotients 91 = .ok (.lmul, 1) := by decide +kernel
theorem dX12_compareQuotients_92 : decode cX12_compareQuotients 92 = .ok (.lsub, 1) := by decide +kernel
theorem dX12_compareQuotients_93 : decode cX12_compareQuotients 93 = .ok (.lstore 23, 2) := by decide +kernel
theorem dX12_compareQuotients_95 : decode cX12_compareQuotients 95 = .ok (.lload 21, 2) := by decide +kernel
theorem dX12_compareQuotients_97 : decode cX12_compareQuotients 97 = .ok (.lconst 0, 1) := by decide +kernel
theorem dX12_compareQuotients_98 : decode cX12_compareQuotients 98 = .ok (.lcmp, 1) := by decide +kernel
theorem dX12_compareQuotients_99 : decode cX12_compareQuotients 99 = .ok (.ifCond .ne 12, 3) := by decide +kernel
theorem dX12_compareQuotients_102 : decode cX12_compareQuotients 102 = .ok (.lload 23, 2) := by decide +kernel
theorem dX12_compareQuotients_104 : decode cX12_compareQuotients 104 = .ok (.lconst 0, 1) := by decide +kernel
theorem dX12_compareQuotients_105 : decode cX12_compareQuotients 105 = .ok (.lcmp, 1) := by decide +kernel
theorem dX12_compareQuotients_106 : decode cX12_compareQuotients 106 = .ok (.ifCond .ne 5, 3) := by decide +kernel
theorem dX12_compareQuotients_109 : decode cX12_compareQuotients 109 = .ok (.iconst 0, 1) := by decide +kernel
theorem dX12_compareQuotients_110 : decode cX12_compareQuotients 110 = .ok (.ireturn, 1) := by decide +kernel
theorem dX12_compareQuotients_111 : decode cX12_compareQuotients 111 = .ok (.lload 21, 2) := by decide +kernel
theorem dX12_compareQuotients_113 : decode cX12_compareQuotients 113 = .ok (.lconst 0, 1) := by decide +kernel
theorem dX12_compareQuotients_114 : decode cX12_compareQuotients 114 = .ok (.lcmp, 1) := by decide +kernel
theorem dX12_compareQuotients_115 : decode cX12_compareQuotients 115 = .ok (.ifCond .eq 10, 3) := by decide +kernel
theorem dX12_compareQuotients_118 : decode cX12_compareQuotients 118 = .ok (.lload 23, 2) := by decide +kernel
theorem dX12_compareQuotients_120 : decode cX12_compareQuotients 120 = .ok (.lconst 0, 1) := by decide +kernel
theorem dX12_compareQuotients_121 : decode cX12_compareQuotients 121 = .ok (.lcmp, 1) := by decide +kernel
theorem dX12_compareQuotients_122 : decode cX12_compareQuotients 122 = .ok (.ifCond .ne 16, 3) := by decide +kernel
theorem dX12_compareQuotients_125 : decode cX12_compareQuotients 125 = .ok (.lload 21, 2) := by decide +kernel
theorem dX12_compareQuotients_127 : decode cX12_compareQuotients 127 = .ok (.lconst 0, 1) := by decide +kernel
theorem dX12_compareQuotients_128 : decode cX12_compareQuotients 128 = .ok (.lcmp, 1) := by decide +kernel
theorem dX12_compareQuotients_129 : decode cX12_compareQuotients 129 = .ok (.ifCond .ne 7, 3) := by decide +kernel
theorem dX12_compareQuotients_132 : decode cX12_compareQuotients 132 = .ok (.iconst (-1), 1) := by decide +kernel
theorem dX12_compareQuotients_133 : decode cX12_compareQuotients 133 = .ok (.goto 4, 3) := by decide +kernel
theorem dX12_compareQuotients_136 : decode cX12_compareQuotients 136 = .ok (.iconst 1, 1) := by decide +kernel
theorem dX12_compareQuotients_137 : decode cX12_compareQuotients 137 = .ok (.ireturn, 1) := by decide +kernel
theorem dX12_compareQuotients_138 : decode cX12_compareQuotients 138 = .ok (.lload 14, 2) := by decide +kernel
theorem dX12_compareQuotients_140 : decode cX12_compareQuotients 140 = .ok (.lstore 8, 2) := by decide +kernel
theorem dX12_compareQuotients_142 : decode cX12_compareQuotients 142 = .ok (.lload 10, 2) := by decide +kernel
theorem dX12_compareQuotients_144 : decode cX12_compareQuotients 144 = .ok (.lstore 12, 2) := by decide +kernel
theorem dX12_compareQuotients_146 : decode cX12_compareQuotients 146 = .ok (.lload 23, 2) := by decide +kernel
theorem dX12_compareQuotients_148 : decode cX12_compareQuotients 148 = .ok (.lstore 10, 2) := by decide +kernel
theorem dX12_compareQuotients_150 : decode cX12_compareQuotients 150 = .ok (.lload 21, 2) := by decide +kernel
theorem dX12_compareQuotients_152 : decode cX12_compareQuotients 152 = .ok (.lstore 14, 2) := by decide +kernel
theorem dX12_compareQuotients_154 : decode cX12_compareQuotients 154 = .ok (.iinc 16 1, 3) := by decide +kernel
theorem dX12_compareQuotients_157 : decode cX12_compareQuotients 157 = .ok (.goto (-140), 3) := by decide +kernel
theorem dX12_compareQuotients_160 : decode cX12_compareQuotients 160 = .ok (.iconst 0, 1) := by decide +kernel
theorem dX12_compareQuotients_161 : decode cX12_compareQuotients 161 = .ok (.ireturn, 1) := by decide +kernel
theorem dX1_sideAt_0 : decode cX1_sideAt 0 = .ok (.lload 4, 2) := by decide +kernel
theorem dX1_sideAt_2 : decode cX1_sideAt 2 = .ok (.lconst 0, 1) := by decide +kernel
theorem dX1_sideAt_3 : decode cX1_sideAt 3 = .ok (.lcmp, 1) := by decide +kernel
theorem dX1_sideAt_4 : decode cX1_sideAt 4 = .ok (.ifCond .ne 8, 3) := by decide +kernel
theorem dX1_sideAt_7 : decode cX1_sideAt 7 = .ok (.lload_n 0, 1) := by decide +kernel
theorem dX1_sideAt_8 : decode cX1_sideAt 8 = .ok (.invokestatic 84, 3) := by decide +kernel
theorem dX1_sideAt_11 : decode cX1_sideAt 11 = .ok (.ireturn, 1) := by decide +kernel
theorem dX1_sideAt_12 : decode cX1_sideAt 12 = .ok (.lload 4, 2) := by decide +kernel
theorem dX1_sideAt_14 : decode cX1_sideAt 14 = .ok (.lload 6, 2) := by decide +kernel
theorem dX1_sideAt_16 : decode cX1_sideAt 16 = .ok (.lcmp, 1) := by decide +kernel
theorem dX1_sideAt_17 : decode cX1_sideAt 17 = .ok (.ifCond .ne 8, 3) := by decide +kernel
theorem dX1_sideAt_20 : decode cX1_sideAt 20 = .ok (.lload_n 2, 1) := by decide +kernel
theorem dX1_sideAt_21 : decode cX1_sideAt 21 = .ok (.invokestatic 84, 3) := by decide +kernel
theorem dX1_sideAt_24 : decode cX1_sideAt 24 = .ok (.ireturn, 1) := by decide +kernel
theorem dX1_sideAt_25 : decode cX1_sideAt 25 = .ok (.lload_n 0, 1) := by decide +kernel
theorem dX1_sideAt_26 : decode cX1_sideAt 26 = .ok (.invokestatic 84, 3) := by decide +kernel
theorem dX1_sideAt_29 : decode cX1_sideAt 29 = .ok (.lload_n 2, 1) := by decide +kernel
theorem dX1_sideAt_30 : decode cX1_sideAt 30 = .ok (.invokestatic 84, 3) := by decide +kernel
theorem dX1_sideAt_33 : decode cX1_sideAt 33 = .ok (.imul, 1) := by decide +kernel
theorem dX1_sideAt_34 : decode cX1_sideAt 34 = .ok (.ifCond .lt 10, 3) := by decide +kernel
theorem dX1_sideAt_37 : decode cX1_sideAt 37 = .ok (.lload_n 0, 1) := by decide +kernel
theorem dX1_sideAt_38 : decode cX1_sideAt 38 = .ok (.lload_n 2, 1) := by decide +kernel
theorem dX1_sideAt_39 : decode cX1_sideAt 39 = .ok (.ladd, 1) := by decide +kernel
theorem dX1_sideAt_40 : decode cX1_sideAt 40 = .ok (.invokestatic 84, 3) := by decide +kernel
theorem dX1_sideAt_43 : decode cX1_sideAt 43 = .ok (.ireturn, 1) := by decide +kernel
theorem dX1_sideAt_44 : decode cX1_sideAt 44 = .ok (.lload 4, 2) := by decide +kernel
theorem dX1_sideAt_46 : decode cX1_sideAt 46 = .ok (.lload 6, 2) := by decide +kernel
theorem dX1_sideAt_48 : decode cX1_sideAt 48 = .ok (.lload_n 0, 1) := by decide +kernel
theorem dX1_sideAt_49 : decode cX1_sideAt 49 = .ok (.invokestatic 89, 3) := by decide +kernel
theorem dX1_sideAt_52 : decode cX1_sideAt 52 = .ok (.lload_n 0, 1) := by decide +kernel
theorem dX1_sideAt_53 : decode cX1_sideAt 53 = .ok (.lload_n 2, 1) := by decide +kernel
theorem dX1_sideAt_54 : decode cX1_sideAt 54 = .ok (.lsub, 1) := by decide +kernel
theorem dX1_sideAt_55 : decode cX1_sideAt 55 = .ok (.invokestatic 89, 3) := by decide +kernel
theorem dX1_sideAt_58 : decode cX1_sideAt 58 = .ok (.invokestatic 95, 3) := by decide +kernel
theorem dX1_sideAt_61 : decode cX1_sideAt 61 = .ok (.istore 8, 2) := by decide +kernel
theorem dX1_sideAt_63 : decode cX1_sideAt 63 = .ok (.iload 8, 2) := by decide +kernel
theorem dX1_sideAt_65 : decode cX1_sideAt 65 = .ok (.ifCond .ne 7, 3) := by decide +kernel
theorem dX1_sideAt_68 : decode cX1_sideAt 68 = .ok (.iconst 0, 1) := by decide +kernel
theorem dX1_sideAt_69 : decode cX1_sideAt 69 = .ok (.goto 16, 3) := by decide +kernel
theorem dX1_sideAt_72 : decode cX1_sideAt 72 = .ok (.iload 8, 2) := by decide +kernel
theorem dX1_sideAt_74 : decode cX1_sideAt 74 = .ok (.ifCond .ge 7, 3) := by decide +kernel
theorem dX1_sideAt_77 : decode cX1_sideAt 77 = .ok (.lload_n 0, 1) := by decide +kernel
theorem dX1_sideAt_78 : decode cX1_sideAt 78 = .ok (.goto 4, 3) := by decide +kernel
theorem dX1_sideAt_81 : decode cX1_sideAt 81 = .ok (.lload_n 2, 1) := by decide +kernel
theorem dX1_sideAt_82 : decode cX1_sideAt 82 = .ok (.invokestatic 84, 3) := by decide +kernel
theorem dX1_sideAt_85 : decode cX1_sideAt 85 = .ok (.ireturn, 1) := by decide +kernel
theorem dX1_lieOf_0 : decode cX1_lieOf 0 = .ok (.aload_n 1, 1) := by decide +kernel
theorem dX1_lieOf_1 : decode cX1_lieOf 1 = .ok (.getfield 52, 3) := by decide +kernel
theorem dX1_lieOf_4 : decode cX1_lieOf 4 = .ok (.aload_n 0, 1) := by decide +kernel
theorem dX1_lieOf_5 : decode cX1_lieOf 5 = .ok (.getfield 9, 3) := by decide +kernel
theorem dX1_lieOf_8 : decode cX1_lieOf 8 = .ok (.iload_n 2, 1) := by decide +kernel
theorem dX1_lieOf_9 : decode cX1_lieOf 9 = .ok (.iaload, 1) := by decide +kernel
theorem dX1_lieOf_10 : decode cX1_lieOf 10 = .ok (.aaload, 1) := by decide +kernel
theorem dX1_lieOf_11 : decode cX1_lieOf 11 = .ok (.astore 4, 2) := by decide +kernel
theorem dX1_lieOf_13 : decode cX1_lieOf 13 = .ok (.aload_n 3, 1) := by decide +kernel
theorem dX1_lieOf_14 : decode cX1_lieOf 14 = .ok (.aload 4, 2) := by decide +kernel
theorem dX1_lieOf_16 : decode cX1_lieOf 16 = .ok (.getfield 57, 3) := by decide +kernel
theorem dX1_lieOf_19 : decode cX1_lieOf 19 = .ok (.aload 4, 2) := by decide +kernel
theorem dX1_lieOf_21 : decode cX1_lieOf 21 = .ok (.getfield 62, 3) := by decide +kernel
theorem dX1_lieOf_24 : decode cX1_lieOf 24 = .ok (.invokevirtual 65, 3) := by decide +kernel
theorem dX1_lieOf_27 : decode cX1_lieOf 27 = .ok (.lstore 5, 2) := by decide +kernel
theorem dX1_lieOf_29 : decode cX1_lieOf 29 = .ok (.aload_n 3, 1) := by decide +kernel
theorem dX1_lieOf_30 : decode cX1_lieOf 30 = .ok (.aload 4, 2) := by decide +kernel
theorem dX1_lieOf_32 : decode cX1_lieOf 32 = .ok (.getfield 69, 3) := by decide +kernel
theorem dX1_lieOf_35 : decode cX1_lieOf 35 = .ok (.aload 4, 2) := by decide +kernel
theorem dX1_lieOf_37 : decode cX1_lieOf 37 = .ok (.getfield 72, 3) := by decide +kernel
theorem dX1_lieOf_40 : decode cX1_lieOf 40 = .ok (.invokevirtual 65, 3) := by decide +kernel
theorem dX1_lieOf_43 : decode cX1_lieOf 43 = .ok (.lstore 7, 2) := by decide +kernel
theorem dX1_lieOf_45 : decode cX1_lieOf 45 = .ok (.lload 5, 2) := by decide +kernel
theorem dX1_lieOf_47 : decode cX1_lieOf 47 = .ok (.lload 7, 2) := by decide +kernel
theorem dX1_lieOf_49 : decode cX1_lieOf 49 = .ok (.aload_n 0, 1) := by decide +kernel
theorem dX1_lieOf_50 : decode cX1_lieOf 50 = .ok (.getfield 18, 3) := by decide +kernel
theorem dX1_lieOf_53 : decode cX1_lieOf 53 = .ok (.iload_n 2, 1) := by decide +kernel
theorem dX1_lieOf_54 : decode cX1_lieOf 54 = .ok (.laload, 1) := by decide +kernel
theorem dX1_lieOf_55 : decode cX1_lieOf 55 = .ok (.aload_n 0, 1) := by decide +kernel
theorem dX1_lieOf_56 : decode cX1_lieOf 56 = .ok (.getfield 22, 3) := by decide +kernel
theorem dX1_lieOf_59 : decode cX1_lieOf 59 = .ok (.iload_n 2, 1) := by decide +kernel
theorem dX1_lieOf_60 : decode cX1_lieOf 60 = .ok (.laload, 1) := by decide +kernel
theorem dX1_lieOf_61 : decode cX1_lieOf 61 = .ok (.invokestatic 75, 3) := by decide +kernel
theorem dX1_lieOf_64 : decode cX1_lieOf 64 = .ok (.istore 9, 2) := by decide +kernel
theorem dX1_lieOf_66 : decode cX1_lieOf 66 = .ok (.lload 5, 2) := by decide +kernel
theorem dX1_lieOf_68 : decode cX1_lieOf 68 = .ok (.lload 7, 2) := by decide +kernel
theorem dX1_lieOf_70 : decode cX1_lieOf 70 = .ok (.aload_n 0, 1) := by decide +kernel
theorem dX1_lieOf_71 : decode cX1_lieOf 71 = .ok (.getfield 25, 3) := by decide +kernel
theorem dX1_lieOf_74 : decode cX1_lieOf 74 = .ok (.iload_n 2, 1) := by decide +kernel
theorem dX1_lieOf_75 : decode cX1_lieOf 75 = .ok (.laload, 1) := by decide +kernel
theorem dX1_lieOf_76 : decode cX1_lieOf 76 = .ok (.aload_n 0, 1) := by decide +kernel
theorem dX1_lieOf_77 : decode cX1_lieOf 77 = .ok (.getfield 28, 3) := by decide +kernel
theorem dX1_lieOf_80 : decode cX1_lieOf 80 = .ok (.iload_n 2, 1) := by decide +kernel
theorem dX1_lieOf_81 : decode cX1_lieOf 81 = .ok (.laload, 1) := by decide +kernel
theorem dX1_lieOf_82 : decode cX1_lieOf 82 = .ok (.invokestatic 75, 3) := by decide +kernel
theorem dX1_lieOf_85 : decode cX1_lieOf 85 = .ok (.istore 10, 2) := by decide +kernel
theorem dX1_lieOf_87 : decode cX1_lieOf 87 = .ok (.iload 9, 2) := by decide +kernel
theorem dX1_lieOf_89 : decode cX1_lieOf 89 = .ok (.iload 10, 2) := by decide +kernel
theorem dX1_lieOf_91 : decode cX1_lieOf 91 = .ok (.imul, 1) := by decide +kernel
theorem dX1_lieOf_92 : decode cX1_lieOf 92 = .ok (.ifCond .ge 7, 3) := by decide +kernel
theorem dX1_lieOf_95 : decode cX1_lieOf 95 = .ok (.iconst 2, 1) := by decide +kernel
theorem dX1_lieOf_96 : decode cX1_lieOf 96 = .ok (.goto 11, 3) := by decide +kernel
theorem dX1_lieOf_99 : decode cX1_lieOf 99 = .ok (.iload 9, 2) := by decide +kernel
theorem dX1_lieOf_101 : decode cX1_lieOf 101 = .ok (.iload 10, 2) := by decide +kernel
theorem dX1_lieOf_103 : decode cX1_lieOf 103 = .ok (.iadd, 1) := by decide +kernel
theorem dX1_lieOf_104 : decode cX1_lieOf 104 = .ok (.invokestatic 79, 3) := by decide +kernel
theorem dX1_lieOf_107 : decode cX1_lieOf 107 = .ok (.ireturn, 1) := by decide +kernel
theorem dX8_costOf_0 : decode cX8_costOf 0 = .ok (.iconst 0, 1) := by decide +kernel
theorem dX8_costOf_1 : decode cX8_costOf 1 = .ok (.istore 4, 2) := by decide +kernel
theorem dX8_costOf_3 : decode cX8_costOf 3 = .ok (.iconst 0, 1) := by decide +kernel
theorem dX8_costOf_4 : decode cX8_costOf 4 = .ok (.istore 5, 2) := by decide +kernel
theorem dX8_costOf_6 : decode cX8_costOf 6 = .ok (.iload_n 2, 1) := by decide +kernel
theorem dX8_costOf_7 : decode cX8_costOf 7 = .ok (.istore 6, 2) := by decide +kernel
theorem dX8_costOf_9 : decode cX8_costOf 9 = .ok (.iconst 0, 1) := by decide +kernel
theorem dX8_costOf_10 : decode cX8_costOf 10 = .ok (.istore 7, 2) := by decide +kernel
theorem dX8_costOf_12 : decode cX8_costOf 12 = .ok (.iload 7, 2) := by decide +kernel
theorem dX8_costOf_14 : decode cX8_costOf 14 = .ok (.sipush 16384, 3) := by decide +kernel
theorem dX8_costOf_17 : decode cX8_costOf 17 = .ok (.if_icmp .ge 59, 3) := by decide +kernel
theorem dX8_costOf_20 : decode cX8_costOf 20 = .ok (.iload 6, 2) := by decide +kernel
theorem dX8_costOf_22 : decode cX8_costOf 22 = .ok (.iconst (-1), 1) := by decide +kernel
theorem dX8_costOf_23 : decode cX8_costOf 23 = .ok (.if_icmp .eq 53, 3) := by decide +kernel
theorem dX8_costOf_26 : decode cX8_costOf 26 = .ok (.aload_n 0, 1) := by decide +kernel
theorem dX8_costOf_27 : decode cX8_costOf 27 = .ok (.getfield 12, 3) := by decide +kernel
theorem dX8_costOf_30 : decode cX8_costOf 30 = .ok (.aload_n 1, 1) := by decide +kernel
theorem dX8_costOf_31 : decode cX8_costOf 31 = .ok (.iload 6, 2) := by decide +kernel
theorem dX8_costOf_33 : decode cX8_costOf 33 = .ok (.aload_n 3, 1) := by decide +kernel
theorem dX8_costOf_34 : decode cX8_costOf 34 = .ok (.invokevirtual 125, 3) := by decide +kernel
theorem dX8_costOf_37 : decode cX8_costOf 37 = .ok (.istore 8, 2) := by decide +kernel
theorem dX8_costOf_39 : decode cX8_costOf 39 = .ok (.iload 8, 2) := by decide +kernel
theorem dX8_costOf_41 : decode cX8_costOf 41 = .ok (.iconst 2, 1) := by decide +kernel
theorem dX8_costOf_42 : decode cX8_costOf 42 = .ok (.if_icmp .ne 9, 3) := by decide +kernel
theorem dX8_costOf_45 : decode cX8_costOf 45 = .ok (.iinc 4 1, 3) := by decide +kernel
theorem dX8_costOf_48 : decode cX8_costOf 48 = .ok (.goto 10, 3) := by decide +kernel
theorem dX8_costOf_51 : decode cX8_costOf 51 = .ok (.iload 5, 2) := by decide +kernel
theorem dX8_costOf_53 : decode cX8_costOf 53 = .ok (.iload 8, 2) := by decide +kernel
theorem dX8_costOf_55 : decode cX8_costOf 55 = .ok (.iadd, 1) := by decide +kernel
theorem dX8_costOf_56 : decode cX8_costOf 56 = .ok (.istore 5, 2) := by decide +kernel
theorem dX8_costOf_58 : decode cX8_costOf 58 = .ok (.aload_n 0, 1) := by decide +kernel
theorem dX8_costOf_59 : decode cX8_costOf 59 = .ok (.getfield 12, 3) := by decide +kernel
theorem dX8_costOf_62 : decode cX8_costOf 62 = .ok (.getfield 122, 3) := by decide +kernel
theorem dX8_costOf_65 : decode cX8_costOf 65 = .ok (.iload 6, 2) := by decide +kernel
theorem dX8_costOf_67 : decode cX8_costOf 67 = .ok (.iaload, 1) := by decide +kernel
theorem dX8_costOf_68 : decode cX8_costOf 68 = .ok (.istore 6, 2) := by decide +kernel
theorem dX8_costOf_70 : decode cX8_costOf 70 = .ok (.iinc 7 1, 3) := by decide +kernel
theorem dX8_costOf_73 : decode cX8_costOf 73 = .ok (.goto (-61), 3) := by decide +kernel
theorem dX8_costOf_76 : decode cX8_costOf 76 = .ok (.iconst 4, 1) := by decide +kernel
theorem dX8_costOf_77 : decode cX8_costOf 77 = .ok (.iload 4, 2) := by decide +kernel
theorem dX8_costOf_79 : decode cX8_costOf 79 = .ok (.imul, 1) := by decide +kernel
theorem dX8_costOf_80 : decode cX8_costOf 80 = .ok (.iload 5, 2) := by decide +kernel
theorem dX8_costOf_82 : decode cX8_costOf 82 = .ok (.invokestatic 128, 3) := by decide +kernel
theorem dX8_costOf_85 : decode cX8_costOf 85 = .ok (.iadd, 1) := by decide +kernel
theorem dX8_costOf_86 : decode cX8_costOf 86 = .ok (.ireturn, 1) := by decide +kernel
theorem dX8_bestLine_0 : decode cX8_bestLine 0 = .ok (.aload_n 0, 1) := by decide +kernel
theorem dX8_bestLine_1 : decode cX8_bestLine 1 = .ok (.getfield 12, 3) := by decide +kernel
theorem dX8_bestLine_4 : decode cX8_bestLine 4 = .ok (.getfield 111, 3) := by decide +kernel
theorem dX8_bestLine_7 : decode cX8_bestLine 7 = .ok (.iload_n 2, 1) := by decide +kernel
theorem dX8_bestLine_8 : decode cX8_bestLine 8 = .ok (.iaload, 1) := by decide +kernel
theorem dX8_bestLine_9 : decode cX8_bestLine 9 = .ok (.istore_n 3, 1) := by decide +kernel
theorem dX8_bestLine_10 : decode cX8_bestLine 10 = .ok (.ldc 114, 2) := by decide +kernel
theorem dX8_bestLine_12 : decode cX8_bestLine 12 = .ok (.istore 4, 2) := by decide +kernel
theorem dX8_bestLine_14 : decode cX8_bestLine 14 = .ok (.iload_n 2, 1) := by decide +kernel
theorem dX8_bestLine_15 : decode cX8_bestLine 15 = .ok (.istore 5, 2) := by decide +kernel
theorem dX8_bestLine_17 : decode cX8_bestLine 17 = .ok (.iconst 0, 1) := by decide +kernel
theorem dX8_bestLine_18 : decode cX8_bestLine 18 = .ok (.istore 6, 2) := by decide +kernel
theorem dX8_bestLine_20 : decode cX8_bestLine 20 = .ok (.iload 6, 2) := by decide +kernel
theorem dX8_bestLine_22 : decode cX8_bestLine 22 = .ok (.bipush 16, 2) := by decide +kernel
theorem dX8_bestLine_24 : decode cX8_bestLine 24 = .ok (.if_icmp .ge 72, 3) := by decide +kernel
theorem dX8_bestLine_27 : decode cX8_bestLine 27 = .ok (.iload 5, 2) := by decide +kernel
theorem dX8_bestLine_29 : decode cX8_bestLine 29 = .ok (.iconst (-1), 1) := by decide +kernel
theorem dX8_bestLine_30 : decode cX8_bestLine 30 = .ok (.if_icmp .eq 66, 3) := by decide +kernel
theorem dX8_bestLine_33 : decode cX8_bestLine 33 = .ok (.aload_n 0, 1) := by decide +kernel
theorem dX8_bestLine_34 : decode cX8_bestLine 34 = .ok (.aload_n 1, 1) := by decide +kernel
theorem dX8_bestLine_35 : decode cX8_bestLine 35 = .ok (.iload_n 2, 1) := by decide +kernel
theorem dX8_bestLine_36 : decode cX8_bestLine 36 = .ok (.aload_n 1, 1) := by decide +kernel
theorem dX8_bestLine_37 : decode cX8_bestLine 37 = .ok (.getfield 115, 3) := by decide +kernel
theorem dX8_bestLine_40 : decode cX8_bestLine 40 = .ok (.aload_n 0, 1) := by decide +kernel
theorem dX8_bestLine_41 : decode cX8_bestLine 41 = .ok (.getfield 12, 3) := by decide +kernel
theorem dX8_bestLine_44 : decode cX8_bestLine 44 = .ok (.getfield 111, 3) := by decide +kernel
theorem dX8_bestLine_47 : decode cX8_bestLine 47 = .ok (.iload 5, 2) := by decide +kernel
theorem dX8_bestLine_49 : decode cX8_bestLine 49 = .ok (.iaload, 1) := by decide +kernel
theorem dX8_bestLine_50 : decode cX8_bestLine 50 = .ok (.aaload, 1) := by decide +kernel
theorem dX8_bestLine_51 : decode cX8_bestLine 51 = .ok (.invokevirtual 118, 3) := by decide +kernel
theorem dX8_bestLine_54 : decode cX8_bestLine 54 = .ok (.istore 7, 2) := by decide +kernel
theorem dX8_bestLine_56 : decode cX8_bestLine 56 = .ok (.iload 7, 2) := by decide +kernel
theorem dX8_bestLine_58 : decode cX8_bestLine 58 = .ok (.iload 4, 2) := by decide +kernel
theorem dX8_bestLine_60 : decode cX8_bestLine 60 = .ok (.if_icmp .ge 18, 3) := by decide +kernel
theorem dX8_bestLine_63 : decode cX8_bestLine 63 = .ok (.iload 7, 2) := by decide +kernel
theorem dX8_bestLine_65 : decode cX8_bestLine 65 = .ok (.istore 4, 2) := by decide +kernel
theorem dX8_bestLine_67 : decode cX8_bestLine 67 = .ok (.aload_n 0, 1) := by decide +kernel
theorem dX8_bestLine_68 : decode cX8_bestLine 68 = .ok (.getfield 12, 3) := by decide +kernel
theorem dX8_bestLine_71 : decode cX8_bestLine 71 = .ok (.getfield 111, 3) := by decide +kernel
theorem dX8_bestLine_74 : decode cX8_bestLine 74 = .ok (.iload 5, 2) := by decide +kernel
theorem dX8_bestLine_76 : decode cX8_bestLine 76 = .ok (.iaload, 1) := by decide +kernel
theorem dX8_bestLine_77 : decode cX8_bestLine 77 = .ok (.istore_n 3, 1) := by decide +kernel
theorem dX8_bestLine_78 : decode cX8_bestLine 78 = .ok (.aload_n 0, 1) := by decide +kernel
theorem dX8_bestLine_79 : decode cX8_bestLine 79 = .ok (.getfield 12, 3) := by decide +kernel
theorem dX8_bestLine_82 : decode cX8_bestLine 82 = .ok (.getfield 122, 3) := by decide +kernel
theorem dX8_bestLine_85 : decode cX8_bestLine 85 = .ok (.iload 5, 2) := by decide +kernel
theorem dX8_bestLine_87 : decode cX8_bestLine 87 = .ok (.iaload, 1) := by decide +kernel
theorem dX8_bestLine_88 : decode cX8_bestLine 88 = .ok (.istore 5, 2) := by decide +kernel
theorem dX8_bestLine_90 : decode cX8_bestLine 90 = .ok (.iinc 6 1, 3) := by decide +kernel
theorem dX8_bestLine_93 : decode cX8_bestLine 93 = .ok (.goto (-73), 3) := by decide +kernel
theorem dX8_bestLine_96 : decode cX8_bestLine 96 = .ok (.iload_n 3, 1) := by decide +kernel
theorem dX8_bestLine_97 : decode cX8_bestLine 97 = .ok (.ireturn, 1) := by decide +kernel
theorem dX8_append_0 : decode cX8_append 0 = .ok (.aload_n 0, 1) := by decide +kernel
theorem dX8_append_1 : decode cX8_append 1 = .ok (.getfield 12, 3) := by decide +kernel
theorem dX8_append_4 : decode cX8_append 4 = .ok (.getfield 122, 3) := by decide +kernel
theorem dX8_append_7 : decode cX8_append 7 = .ok (.iload_n 1, 1) := by decide +kernel
theorem dX8_append_8 : decode cX8_append 8 = .ok (.iconst (-1), 1) := by decide +kernel
theorem dX8_append_9 : decode cX8_append 9 = .ok (.iastore, 1) := by decide +kernel
theorem dX8_append_10 : decode cX8_append 10 = .ok (.iload_n 2, 1) := by decide +kernel
theorem dX8_append_11 : decode cX8_append 11 = .ok (.iconst 1, 1) := by decide +kernel
theorem dX8_append_12 : decode cX8_append 12 = .ok (.if_icmp .ne 40, 3) := by decide +kernel
theorem dX8_append_15 : decode cX8_append 15 = .ok (.aload_n 0, 1) := by decide +kernel
theorem dX8_append_16 : decode cX8_append 16 = .ok (.getfield 92, 3) := by decide +kernel
theorem dX8_append_19 : decode cX8_append 19 = .ok (.iconst (-1), 1) := by decide +kernel
theorem dX8_append_20 : decode cX8_append 20 = .ok (.if_icmp .ne 11, 3) := by decide +kernel
theorem dX8_append_23 : decode cX8_append 23 = .ok (.aload_n 0, 1) := by decide +kernel
theorem dX8_append_24 : decode cX8_append 24 = .ok (.iload_n 1, 1) := by decide +kernel
theorem dX8_append_25 : decode cX8_append 25 = .ok (.putfield 92, 3) := by decide +kernel
theorem dX8_append_28 : decode cX8_append 28 = .ok (.goto 16, 3) := by decide +kernel
theorem dX8_append_31 : decode cX8_append 31 = .ok (.aload_n 0, 1) := by decide +kernel
theorem dX8_append_32 : decode cX8_append 32 = .ok (.getfield 12, 3) := by decide +kernel
theorem dX8_append_35 : decode cX8_append 35 = .ok (.getfield 122, 3) := by decide +kernel
theorem dX8_append_38 : decode cX8_append 38 = .ok (.aload_n 0, 1) := by decide +kernel
theorem dX8_append_39 : decode cX8_append 39 = .ok (.getfield 140, 3) := by decide +kernel
theorem dX8_append_42 : decode cX8_append 42 = .ok (.iload_n 1, 1) := by decide +kernel
theorem dX8_append_43 : decode cX8_append 43 = .ok (.iastore, 1) := by decide +kernel
theorem dX8_append_44 : decode cX8_append 44 = .ok (.aload_n 0, 1) := by decide +kernel
theorem dX8_append_45 : decode cX8_append 45 = .ok (.iload_n 1, 1) := by decide +kernel
theorem dX8_append_46 : decode cX8_append 46 = .ok (.putfield 140, 3) := by decide +kernel
theorem dX8_append_49 : decode cX8_append 49 = .ok (.goto 37, 3) := by decide +kernel
theorem dX8_append_52 : decode cX8_append 52 = .ok (.aload_n 0, 1) := by decide +kernel
theorem dX8_append_53 : decode cX8_append 53 = .ok (.getfield 89, 3) := by decide +kernel
theorem dX8_append_56 : decode cX8_append 56 = .ok (.iconst (-1), 1) := by decide +kernel
theorem dX8_append_57 : decode cX8_append 57 = .ok (.if_icmp .ne 11, 3) := by decide +kernel
theorem dX8_append_60 : decode cX8_append 60 = .ok (.aload_n 0, 1) := by decide +kernel
theorem dX8_append_61 : decode cX8_append 61 = .ok (.iload_n 1, 1) := by decide +kernel
theorem dX8_append_62 : decode cX8_append 62 = .ok (.putfield 89, 3) := by decide +kernel
theorem dX8_append_65 : decode cX8_append 65 = .ok (.goto 16, 3) := by decide +kernel
theorem dX8_append_68 : decode cX8_append 68 = .ok (.aload_n 0, 1) := by decide +kernel
theorem dX8_append_69 : decode cX8_append 69 = .ok (.getfield 12, 3) := by decide +kernel
theorem dX8_append_72 : decode cX8_append 72 = .ok (.getfield 122, 3) := by decide +kernel
theorem dX8_append_75 : decode cX8_append 75 = .ok (.aload_n 0, 1) := by decide +kernel
theorem dX8_append_76 : decode cX8_append 76 = .ok (.getfield 143, 3) := by decide +kernel
theorem dX8_append_79 : decode cX8_append 79 = .ok (.iload_n 1, 1) := by decide +kernel
theorem dX8_append_80 : decode cX8_append 80 = .ok (.iastore, 1) := by decide +kernel
theorem dX8_append_81 : decode cX8_append 81 = .ok (.aload_n 0, 1) := by decide +kernel
theorem dX8_append_82 : decode cX8_append 82 = .ok (.iload_n 1, 1) := by decide +kernel
theorem dX8_append_83 : decode cX8_append 83 = .ok (.putfield 143, 3) := by decide +kernel
theorem dX8_append_86 : decode cX8_append 86 = .ok (.return_, 1) := by decide +kernel
theorem dX8_sizeOf_0 : decode cX8_sizeOf 0 = .ok (.iload_n 1, 1) := by decide +kernel
theorem dX8_sizeOf_1 : decode cX8_sizeOf 1 = .ok (.ifCond .ge 7, 3) := by decide +kernel
theorem dX8_sizeOf_4 : decode cX8_sizeOf 4 = .ok (.iconst 0, 1) := by decide +kernel
theorem dX8_sizeOf_5 : decode cX8_sizeOf 5 = .ok (.goto 9, 3) := by decide +kernel
theorem dX8_sizeOf_8 : decode cX8_sizeOf 8 = .ok (.aload_n 0, 1) := by decide +kernel
theorem dX8_sizeOf_9 : decode cX8_sizeOf 9 = .ok (.getfield 31, 3) := by decide +kernel
theorem dX8_sizeOf_12 : decode cX8_sizeOf 12 = .ok (.iload_n 1, 1) := by decide +kernel
theorem dX8_sizeOf_13 : decode cX8_sizeOf 13 = .ok (.iaload, 1) := by decide +kernel
theorem dX8_sizeOf_14 : decode cX8_sizeOf 14 = .ok (.ireturn, 1) := by decide +kernel
theorem dX8_countSizes_0 : decode cX8_countSizes 0 = .ok (.aload_n 0, 1) := by decide +kernel
theorem dX8_countSizes_1 : decode cX8_countSizes 1 = .ok (.getfield 47, 3) := by decide +kernel
theorem dX8_countSizes_4 : decode cX8_countSizes 4 = .ok (.iconst 1, 1) := by decide +kernel
theorem dX8_countSizes_5 : decode cX8_countSizes 5 = .ok (.isub, 1) := by decide +kernel
theorem dX8_countSizes_6 : decode cX8_countSizes 6 = .ok (.istore_n 1, 1) := by decide +kernel
theorem dX8_countSizes_7 : decode cX8_countSizes 7 = .ok (.iload_n 1, 1) := by decide +kernel
theorem dX8_countSizes_8 : decode cX8_countSizes 8 = .ok (.ifCond .lt 38, 3) := by decide +kernel
theorem dX8_countSizes_11 : decode cX8_countSizes 11 = .ok (.aload_n 0, 1) := by decide +kernel
theorem dX8_countSizes_12 : decode cX8_countSizes 12 = .ok (.getfield 31, 3) := by decide +kernel
theorem dX8_countSizes_15 : decode cX8_countSizes 15 = .ok (.iload_n 1, 1) := by decide +kernel
theorem dX8_countSizes_16 : decode cX8_countSizes 16 = .ok (.iconst 1, 1) := by decide +kernel
theorem dX8_countSizes_17 : decode cX8_countSizes 17 = .ok (.aload_n 0, 1) := by decide +kernel
theorem dX8_countSizes_18 : decode cX8_countSizes 18 = .ok (.aload_n 0, 1) := by decide +kernel
theorem dX8_countSizes_19 : decode cX8_countSizes 19 = .ok (.getfield 22, 3) := by decide +kernel
theorem dX8_countSizes_22 : decode cX8_countSizes 22 = .ok (.iload_n 1, 1) := by decide +kernel
theorem dX8_countSizes_23 : decode cX8_countSizes 23 = .ok (.iaload, 1) := by decide +kernel
theorem dX8_countSizes_24 : decode cX8_countSizes 24 = .ok (.invokevirtual 98, 3) := by decide +kernel
theorem dX8_countSizes_27 : decode cX8_countSizes 27 = .ok (.iadd, 1) := by decide +kernel
theorem dX8_countSizes_28 : decode cX8_countSizes 28 = .ok (.aload_n 0, 1) := by decide +kernel
theorem dX8_countSizes_29 : decode cX8_countSizes 29 = .ok (.aload_n 0, 1) := by decide +kernel
theorem dX8_countSizes_30 : decode cX8_countSizes 30 = .ok (.getfield 25, 3) := by decide +kernel
theorem dX8_countSizes_33 : decode cX8_countSizes 33 = .ok (.iload_n 1, 1) := by decide +kernel
theorem dX8_countSizes_34 : decode cX8_countSizes 34 = .ok (.iaload, 1) := by decide +kernel
theorem dX8_countSizes_35 : decode cX8_countSizes 35 = .ok (.invokevirtual 98, 3) := by decide +kernel
theorem dX8_countSizes_38 : decode cX8_countSizes 38 = .ok (.iadd, 1) := by decide +kernel
theorem dX8_countSizes_39 : decode cX8_countSizes 39 = .ok (.iastore, 1) := by decide +kernel
theorem dX8_countSizes_40 : decode cX8_countSizes 40 = .ok (.iinc 1 (-1), 3) := by decide +kernel
theorem dX8_countSizes_43 : decode cX8_countSizes 43 = .ok (.goto (-36), 3) := by decide +kernel
theorem dX8_countSizes_46 : decode cX8_countSizes 46 = .ok (.return_, 1) := by decide +kernel
theorem dX7_put_0 : decode cX7_put 0 = .ok (.aload_n 0, 1) := by decide +kernel
theorem dX7_put_1 : decode cX7_put 1 = .ok (.iload_n 1, 1) := by decide +kernel
theorem dX7_put_2 : decode cX7_put 2 = .ok (.putfield 7, 3) := by decide +kernel
theorem dX7_put_5 : decode cX7_put 5 = .ok (.aload_n 0, 1) := by decide +kernel
theorem dX7_put_6 : decode cX7_put 6 = .ok (.iload_n 2, 1) := by decide +kernel
theorem dX7_put_7 : decode cX7_put 7 = .ok (.putfield 13, 3) := by decide +kernel
theorem dX7_put_10 : decode cX7_put 10 = .ok (.aload_n 0, 1) := by decide +kernel
theorem dX7_put_11 : decode cX7_put 11 = .ok (.iload_n 3, 1) := by decide +kernel
theorem dX7_put_12 : decode cX7_put 12 = .ok (.putfield 16, 3) := by decide +kernel
theorem dX7_put_15 : decode cX7_put 15 = .ok (.aload_n 0, 1) := by decide +kernel
theorem dX7_put_16 : decode cX7_put 16 = .ok (.iload 4, 2) := by decide +kernel
theorem dX7_put_18 : decode cX7_put 18 = .ok (.putfield 19, 3) := by decide +kernel
theorem dX7_put_21 : decode cX7_put 21 = .ok (.return_, 1) := by decide +kernel
theorem dX7_become_0 : decode cX7_become 0 = .ok (.aload_n 0, 1) := by decide +kernel
theorem dX7_become_1 : decode cX7_become 1 = .ok (.aload_n 1, 1) := by decide +kernel
theorem dX7_become_2 : decode cX7_become 2 = .ok (.getfield 7, 3) := by decide +kernel
theorem dX7_become_5 : decode cX7_become 5 = .ok (.aload_n 1, 1) := by decide +kernel
theorem dX7_become_6 : decode cX7_become 6 = .ok (.getfield 13, 3) := by decide +kernel
theorem dX7_become_9 : decode cX7_become 9 = .ok (.aload_n 1, 1) := by decide +kernel
theorem dX7_become_10 : decode cX7_become 10 = .ok (.getfield 16, 3) := by decide +kernel
theorem dX7_become_13 : decode cX7_become 13 = .ok (.aload_n 1, 1) := by decide +kernel
theorem dX7_become_14 : decode cX7_become 14 = .ok (.getfield 19, 3) := by decide +kernel
theorem dX7_become_17 : decode cX7_become 17 = .ok (.invokevirtual 22, 3) := by decide +kernel
theorem dX7_become_20 : decode cX7_become 20 = .ok (.return_, 1) := by decide +kernel
theorem dX6_endMover_0 : decode cX6_endMover 0 = .ok (.aload_n 0, 1) := by decide +kernel
theorem dX6_endMover_1 : decode cX6_endMover 1 = .ok (.iconst (-1), 1) := by decide +kernel
theorem dX6_endMover_2 : decode cX6_endMover 2 = .ok (.putfield 9, 3) := by decide +kernel
theorem dX6_endMover_5 : decode cX6_endMover 5 = .ok (.aload_n 0, 1) := by decide +kernel
theorem dX6_endMover_6 : decode cX6_endMover 6 = .ok (.iconst 0, 1) := by decide +kernel
theorem dX6_endMover_7 : decode cX6_endMover 7 = .ok (.putfield 30, 3) := by decide +kernel
theorem dX6_endMover_10 : decode cX6_endMover 10 = .ok (.aload_n 0, 1) := by decide +kernel
theorem dX6_endMover_11 : decode cX6_endMover 11 = .ok (.iconst 0, 1) := by decide +kernel
theorem dX6_endMover_12 : decode cX6_endMover 12 = .ok (.putfield 39, 3) := by decide +kernel
theorem dX6_endMover_15 : decode cX6_endMover 15 = .ok (.return_, 1) := by decide +kernel
theorem dX6_settle_0 : decode cX6_settle 0 = .ok (.aload_n 0, 1) := by decide +kernel
theorem dX6_settle_1 : decode cX6_settle 1 = .ok (.aload_n 0, 1) := by decide +kernel
theorem dX6_settle_2 : decode cX6_settle 2 = .ok (.getfield 15, 3) := by decide +kernel
theorem dX6_settle_5 : decode cX6_settle 5 = .ok (.putfield 18, 3) := by decide +kernel
theorem dX6_settle_8 : decode cX6_settle 8 = .ok (.aload_n 0, 1) := by decide +kernel
theorem dX6_settle_9 : decode cX6_settle 9 = .ok (.aload_n 0, 1) := by decide +kernel
theorem dX6_settle_10 : decode cX6_settle 10 = .ok (.getfield 21, 3) := by decide +kernel
theorem dX6_settle_13 : decode cX6_settle 13 = .ok (.putfield 24, 3) := by decide +kernel
theorem dX6_settle_16 : decode cX6_settle 16 = .ok (.aload_n 0, 1) := by decide +kernel
theorem dX6_settle_17 : decode cX6_settle 17 = .ok (.invokevirtual 27, 3) := by decide +kernel
theorem dX6_settle_20 : decode cX6_settle 20 = .ok (.return_, 1) := by decide +kernel
theorem dX2_settle_0 : decode cX2_settle 0 = .ok (.iconst 0, 1) := by decide +kernel
theorem dX2_settle_1 : decode cX2_settle 1 = .ok (.istore_n 1, 1) := by decide +kernel
theorem dX2_settle_2 : decode cX2_settle 2 = .ok (.iload_n 1, 1) := by decide +kernel
theorem dX2_settle_3 : decode cX2_settle 3 = .ok (.aload_n 0, 1) := by decide +kernel
theorem dX2_settle_4 : decode cX2_settle 4 = .ok (.getfield 72, 3) := by decide +kernel
theorem dX2_settle_7 : decode cX2_settle 7 = .ok (.if_icmp .ge 18, 3) := by decide +kernel
theorem dX2_settle_10 : decode cX2_settle 10 = .ok (.aload_n 0, 1) := by decide +kernel
theorem dX2_settle_11 : decode cX2_settle 11 = .ok (.getfield 43, 3) := by decide +kernel
theorem dX2_settle_14 : decode cX2_settle 14 = .ok (.iload_n 1, 1) := by decide +kernel
theorem dX2_settle_15 : decode cX2_settle 15 = .ok (.aaload, 1) := by decide +kernel
theorem dX2_settle_16 : decode cX2_settle 16 = .ok (.invokevirtual 206, 3) := by decide +kernel
theorem dX2_settle_19 : decode cX2_settle 19 = .ok (.iinc 1 1, 3) := by decide +kernel
theorem dX2_settle_22 : decode cX2_settle 22 = .ok (.goto (-20), 3) := by decide +kernel
theorem dX2_settle_25 : decode cX2_settle 25 = .ok (.return_, 1) := by decide +kernel
theorem dX10_begin_0 : decode cX10_begin 0 = .ok (.aload_n 0, 1) := by decide +kernel
theorem dX10_begin_1 : decode cX10_begin 1 = .ok (.aload_n 1, 1) := by decide +kernel
theorem dX10_begin_2 : decode cX10_begin 2 = .ok (.putfield 15, 3) := by decide +kernel
theorem dX10_begin_5 : decode cX10_begin 5 = .ok (.aload_n 0, 1) := by decide +kernel
theorem dX10_begin_6 : decode cX10_begin 6 = .ok (.getfield 15, 3) := by decide +kernel
theorem dX10_begin_9 : decode cX10_begin 9 = .ok (.invokevirtual 19, 3) := by decide +kernel
theorem dX10_begin_12 : decode cX10_begin 12 = .ok (.aload_n 0, 1) := by decide +kernel
theorem dX10_begin_13 : decode cX10_begin 13 = .ok (.aload_n 2, 1) := by decide +kernel
theorem dX10_begin_14 : decode cX10_begin 14 = .ok (.getfield 24, 3) := by decide +kernel
theorem dX10_begin_17 : decode cX10_begin 17 = .ok (.putfield 30, 3) := by decide +kernel
theorem dX10_begin_20 : decode cX10_begin 20 = .ok (.aload_n 0, 1) := by decide +kernel
theorem dX10_begin_21 : decode cX10_begin 21 = .ok (.aload_n 2, 1) := by decide +kernel
theorem dX10_begin_22 : decode cX10_begin 22 = .ok (.getfield 31, 3) := by decide +kernel
theorem dX10_begin_25 : decode cX10_begin 25 = .ok (.putfield 34, 3) := by decide +kernel
theorem dX10_begin_28 : decode cX10_begin 28 = .ok (.aload_n 0, 1) := by decide +kernel
theorem dX10_begin_29 : decode cX10_begin 29 = .ok (.aload_n 2, 1) := by decide +kernel
theorem dX10_begin_30 : decode cX10_begin 30 = .ok (.getfield 35, 3) := by decide +kernel
theorem dX10_begin_33 : decode cX10_begin 33 = .ok (.putfield 38, 3) := by decide +kernel
theorem dX10_begin_36 : decode cX10_begin 36 = .ok (.aload_n 0, 1) := by decide +kernel
theorem dX10_begin_37 : decode cX10_begin 37 = .ok (.aload_n 2, 1) := by decide +kernel
theorem dX10_begin_38 : decode cX10_begin 38 = .ok (.getfield 39, 3) := by decide +kernel
theorem dX10_begin_41 : decode cX10_begin 41 = .ok (.putfield 42, 3) := by decide +kernel
theorem dX10_begin_44 : decode cX10_begin 44 = .ok (.aload_n 0, 1) := by decide +kernel
theorem dX10_begin_45 : decode cX10_begin 45 = .ok (.iconst 0, 1) := by decide +kernel
theorem dX10_begin_46 : decode cX10_begin 46 = .ok (.putfield 43, 3) := by decide +kernel
theorem dX10_begin_49 : decode cX10_begin 49 = .ok (.return_, 1) := by decide +kernel
theorem dX14_wrong_0 : decode cX14_wrong 0 = .ok (.aload_n 0, 1) := by decide +kernel
theorem dX14_wrong_1 : decode cX14_wrong 1 = .ok (.getfield 25, 3) := by decide +kernel
theorem dX14_wrong_4 : decode cX14_wrong 4 = .ok (.ifCond .ne 13, 3) := by decide +kernel
theorem dX14_wrong_7 : decode cX14_wrong 7 = .ok (.aload_n 0, 1) := by decide +kernel
theorem dX14_wrong_8 : decode cX14_wrong 8 = .ok (.iload_n 1, 1) := by decide +kernel
theorem dX14_wrong_9 : decode cX14_wrong 9 = .ok (.putfield 25, 3) := by decide +kernel
theorem dX14_wrong_12 : decode cX14_wrong 12 = .ok (.aload_n 0, 1) := by decide +kernel
theorem dX14_wrong_13 : decode cX14_wrong 13 = .ok (.iload_n 2, 1) := by decide +kernel
theorem dX14_wrong_14 : decode cX14_wrong 14 = .ok (.putfield 18, 3) := by decide +kernel
theorem dX14_wrong_17 : decode cX14_wrong 17 = .ok (.return_, 1) := by decide +kernel
theorem dX14_add_0 : decode cX14_add 0 = .ok (.aload_n 0, 1) := by decide +kernel
theorem dX14_add_1 : decode cX14_add 1 = .ok (.aload_n 0, 1) := by decide +kernel
theorem dX14_add_2 : decode cX14_add 2 = .ok (.getfield 28, 3) := by decide +kernel
theorem dX14_add_5 : decode cX14_add 5 = .ok (.iload_n 1, 1) := by decide +kernel
theorem dX14_add_6 : decode cX14_add 6 = .ok (.iadd, 1) := by decide +kernel
theorem dX14_add_7 : decode cX14_add 7 = .ok (.sipush 251, 3) := by decide +kernel
theorem dX14_add_10 : decode cX14_add 10 = .ok (.irem, 1) := by decide +kernel
theorem dX14_add_11 : decode cX14_add 11 = .ok (.putfield 28, 3) := by decide +kernel
theorem dX14_add_14 : decode cX14_add 14 = .ok (.aload_n 0, 1) := by decide +kernel
theorem dX14_add_15 : decode cX14_add 15 = .ok (.aload_n 0, 1) := by decide +kernel
theorem dX14_add_16 : decode cX14_add 16 = .ok (.getfield 31, 3) := by decide +kernel
theorem dX14_add_19 : decode cX14_add 19 = .ok (.aload_n 0, 1) := by decide +kernel
theorem dX14_add_20 : decode cX14_add 20 = .ok (.getfield 28, 3) := by decide +kernel
theorem dX14_add_23 : decode cX14_add 23 = .ok (.iadd, 1) := by decide +kernel
theorem dX14_add_24 : decode cX14_add 24 = .ok (.sipush 251, 3) := by decide +kernel
theorem dX14_add_27 : decode cX14_add 27 = .ok (.irem, 1) := by decide +kernel
theorem dX14_add_28 : decode cX14_add 28 = .ok (.putfield 31, 3) := by decide +kernel
theorem dX14_add_31 : decode cX14_add 31 = .ok (.return_, 1) := by decide +kernel
theorem dX14_next_0 : decode cX14_next 0 = .ok (.aload_n 0, 1) := by decide +kernel
theorem dX14_next_1 : decode cX14_next 1 = .ok (.getfield 25, 3) := by decide +kernel
theorem dX14_next_4 : decode cX14_next 4 = .ok (.ifCond .le 5, 3) := by decide +kernel
theorem dX14_next_7 : decode cX14_next 7 = .ok (.iconst 0, 1) := by decide +kernel
theorem dX14_next_8 : decode cX14_next 8 = .ok (.ireturn, 1) := by decide +kernel
theorem dX14_next_9 : decode cX14_next 9 = .ok (.aload_n 0, 1) := by decide +kernel
theorem dX14_next_10 : decode cX14_next 10 = .ok (.getfield 34, 3) := by decide +kernel
theorem dX14_next_13 : decode cX14_next 13 = .ok (.aload_n 0, 1) := by decide +kernel
theorem dX14_next_14 : decode cX14_next 14 = .ok (.getfield 37, 3) := by decide +kernel
theorem dX14_next_17 : decode cX14_next 17 = .ok (.if_icmp .ne 14, 3) := by decide +kernel
theorem dX14_next_20 : decode cX14_next 20 = .ok (.aload_n 0, 1) := by decide +kernel
theorem dX14_next_21 : decode cX14_next 21 = .ok (.iconst 1, 1) := by decide +kernel
theorem dX14_next_22 : decode cX14_next 22 = .ok (.aload_n 0, 1) := by decide +kernel
theorem dX14_next_23 : decode cX14_next 23 = .ok (.getfield 37, 3) := by decide +kernel
theorem dX14_next_26 : decode cX14_next 26 = .ok (.invokevirtual 40, 3) := by decide +kernel
theorem dX14_next_29 : decode cX14_next 29 = .ok (.iconst 0, 1) := by decide +kernel
theorem dX14_next_30 : decode cX14_next 30 = .ok (.ireturn, 1) := by decide +kernel
theorem dX14_next_31 : decode cX14_next 31 = .ok (.aload_n 0, 1) := by decide +kernel
theorem dX14_next_32 : decode cX14_next 32 = .ok (.getfield 9, 3) := by decide +kernel
theorem dX14_next_35 : decode cX14_next 35 = .ok (.aload_n 0, 1) := by decide +kernel
theorem dX14_next_36 : decode cX14_next 36 = .ok (.getfield 34, 3) := by decide +kernel
theorem dX14_next_39 : decode cX14_next 39 = .ok (.baload, 1) := by decide +kernel
theorem dX14_next_40 : decode cX14_next 40 = .ok (.sipush 255, 3) := by decide +kernel
theorem dX14_next_43 : decode cX14_next 43 = .ok (.iand, 1) := by decide +kernel
theorem dX14_next_44 : decode cX14_next 44 = .ok (.istore_n 3, 1) := by decide +kernel
theorem dX14_next_45 : decode cX14_next 45 = .ok (.iload_n 3, 1) := by decide +kernel
theorem dX14_next_46 : decode cX14_next 46 = .ok (.iload_n 1, 1) := by decide +kernel
theorem dX14_next_47 : decode cX14_next 47 = .ok (.if_icmp .lt 8, 3) := by decide +kernel
theorem dX14_next_50 : decode cX14_next 50 = .ok (.iload_n 3, 1) := by decide +kernel
theorem dX14_next_51 : decode cX14_next 51 = .ok (.iload_n 2, 1) := by decide +kernel
theorem dX14_next_52 : decode cX14_next 52 = .ok (.if_icmp .le 12, 3) := by decide +kernel
theorem dX14_next_55 : decode cX14_next 55 = .ok (.aload_n 0, 1) := by decide +kernel
theorem dX14_next_56 : decode cX14_next 56 = .ok (.iconst 3, 1) := by decide +kernel
theorem dX14_next_57 : decode cX14_next 57 = .ok (.aload_n 0, 1) := by decide +kernel
theorem dX14_next_58 : decode cX14_next 58 = .ok (.getfield 34, 3) := by decide +kernel
theorem dX14_next_61 : decode cX14_next 61 = .ok (.invokevirtual 40, 3) := by decide +kernel
theorem dX14_next_64 : decode cX14_next 64 = .ok (.aload_n 0, 1) := by decide +kernel
theorem dX14_next_65 : decode cX14_next 65 = .ok (.iload_n 3, 1) := by decide +kernel
theorem dX14_next_66 : decode cX14_next 66 = .ok (.invokevirtual 44, 3) := by decide +kernel
theorem dX14_next_69 : decode cX14_next 69 = .ok (.aload_n 0, 1) := by decide +kernel
theorem dX14_next_70 : decode cX14_next 70 = .ok (.dup, 1) := by decide +kernel
theorem dX14_next_71 : decode cX14_next 71 = .ok (.getfield 34, 3) := by decide +kernel
theorem dX14_next_74 : decode cX14_next 74 = .ok (.iconst 1, 1) := by decide +kernel
theorem dX14_next_75 : decode cX14_next 75 = .ok (.iadd, 1) := by decide +kernel
theorem dX14_next_76 : decode cX14_next 76 = .ok (.putfield 34, 3) := by decide +kernel
theorem dX14_next_79 : decode cX14_next 79 = .ok (.iload_n 3, 1) := by decide +kernel
theorem dX14_next_80 : decode cX14_next 80 = .ok (.ireturn, 1) := by decide +kernel
theorem dX14_nextTwo_0 : decode cX14_nextTwo 0 = .ok (.aload_n 0, 1) := by decide +kernel
theorem dX14_nextTwo_1 : decode cX14_nextTwo 1 = .ok (.getfield 34, 3) := by decide +kernel
theorem dX14_nextTwo_4 : decode cX14_nextTwo 4 = .ok (.istore_n 3, 1) := by decide +kernel
theorem dX14_nextTwo_5 : decode cX14_nextTwo 5 = .ok (.aload_n 0, 1) := by decide +kernel
theorem dX14_nextTwo_6 : decode cX14_nextTwo 6 = .ok (.iconst 0, 1) := by decide +kernel
theorem dX14_nextTwo_7 : decode cX14_nextTwo 7 = .ok (.sipush 255, 3) := by decide +kernel
theorem dX14_nextTwo_10 : decode cX14_nextTwo 10 = .ok (.invokevirtual 48, 3) := by decide +kernel
theorem dX14_nextTwo_13 : decode cX14_nextTwo 13 = .ok (.sipush 256, 3) := by decide +kernel
theorem dX14_nextTwo_16 : decode cX14_nextTwo 16 = .ok (.imul, 1) := by decide +kernel
theorem dX14_nextTwo_17 : decode cX14_nextTwo 17 = .ok (.istore 4, 2) := by decide +kernel
theorem dX14_nextTwo_19 : decode cX14_nextTwo 19 = .ok (.iload 4, 2) := by decide +kernel
theorem dX14_nextTwo_21 : decode cX14_nextTwo 21 = .ok (.aload_n 0, 1) := by decide +kernel
theorem dX14_nextTwo_22 : decode cX14_nextTwo 22 = .ok (.iconst 0, 1) := by decide +kernel
theorem dX14_nextTwo_23 : decode cX14_nextTwo 23 = .ok (.sipush 255, 3) := by decide +kernel
theorem dX14_nextTwo_26 : decode cX14_nextTwo 26 = .ok (.invokevirtual 48, 3) := by decide +kernel
theorem dX14_nextTwo_29 : decode cX14_nextTwo 29 = .ok (.iadd, 1) := by decide +kernel
theorem dX14_nextTwo_30 : decode cX14_nextTwo 30 = .ok (.istore 4, 2) := by decide +kernel
theorem dX14_nextTwo_32 : decode cX14_nextTwo 32 = .ok (.iload 4, 2) := by decide +kernel
theorem dX14_nextTwo_34 : decode cX14_nextTwo 34 = .ok (.sipush 32767, 3) := by decide +kernel
theorem dX14_nextTwo_37 : decode cX14_nextTwo 37 = .ok (.if_icmp .le 11, 3) := by decide +kernel
theorem dX14_nextTwo_40 : decode cX14_nextTwo 40 = .ok (.iload 4, 2) := by decide +kernel
theorem dX14_nextTwo_42 : decode cX14_nextTwo 42 = .ok (.ldc 52, 2) := by decide +kernel
theorem dX14_nextTwo_44 : decode cX14_nextTwo 44 = .ok (.isub, 1) := by decide +kernel
theorem dX14_nextTwo_45 : decode cX14_nextTwo 45 = .ok (.goto 5, 3) := by decide +kernel
theorem dX14_nextTwo_48 : decode cX14_nextTwo 48 = .ok (.iload 4, 2) := by decide +kernel
theorem dX14_nextTwo_50 : decode cX14_nextTwo 50 = .ok (.istore 4, 2) := by decide +kernel
theorem dX14_nextTwo_52 : decode cX14_nextTwo 52 = .ok (.aload_n 0, 1) := by decide +kernel
theorem dX14_nextTwo_53 : decode cX14_nextTwo 53 = .ok (.getfield 25, 3) := by decide +kernel
theorem dX14_nextTwo_56 : decode cX14_nextTwo 56 = .ok (.ifCond .ne 21, 3) := by decide +kernel
theorem dX14_nextTwo_59 : decode cX14_nextTwo 59 = .ok (.iload 4, 2) := by decide +kernel
theorem dX14_nextTwo_61 : decode cX14_nextTwo 61 = .ok (.iload_n 1, 1) := by decide +kernel
theorem dX14_nextTwo_62 : decode cX14_nextTwo 62 = .ok (.if_icmp .lt 9, 3) := by decide +kernel
theorem dX14_nextTwo_65 : decode cX14_nextTwo 65 = .ok (.iload 4, 2) := by decide +kernel
theorem dX14_nextTwo_67 : decode cX14_nextTwo 67 = .ok (.iload_n 2, 1) := by decide +kernel
theorem dX14_nextTwo_68 : decode cX14_nextTwo 68 = .ok (.if_icmp .le 9, 3) := by decide +kernel
theorem dX14_nextTwo_71 : decode cX14_nextTwo 71 = .ok (.aload_n 0, 1) := by decide +kernel
theorem dX14_nextTwo_72 : decode cX14_nextTwo 72 = .ok (.iconst 3, 1) := by decide +kernel
theorem dX14_nextTwo_73 : decode cX14_nextTwo 73 = .ok (.iload_n 3, 1) := by decide +kernel
theorem dX14_nextTwo_74 : decode cX14_nextTwo 74 = .ok (.invokevirtual 40, 3) := by decide +kernel
theorem dX14_nextTwo_77 : decode cX14_nextTwo 77 = .ok (.iload 4, 2) := by decide +kernel
theorem dX14_nextTwo_79 : decode cX14_nextTwo 79 = .ok (.ireturn, 1) := by decide +kernel
theorem dX14_pair_0 : decode cX14_pair 0 = .ok (.aload_n 0, 1) := by decide +kernel
theorem dX14_pair_1 : decode cX14_pair 1 = .ok (.iload_n 1, 1) := by decide +kernel
theorem dX14_pair_2 : decode cX14_pair 2 = .ok (.baload, 1) := by decide +kernel
theorem dX14_pair_3 : decode cX14_pair 3 = .ok (.sipush 255, 3) := by decide +kernel
theorem dX14_pair_6 : decode cX14_pair 6 = .ok (.iand, 1) := by decide +kernel
theorem dX14_pair_7 : decode cX14_pair 7 = .ok (.sipush 256, 3) := by decide +kernel
theorem dX14_pair_10 : decode cX14_pair 10 = .ok (.imul, 1) := by decide +kernel
theorem dX14_pair_11 : decode cX14_pair 11 = .ok (.aload_n 0, 1) := by decide +kernel
theorem dX14_pair_12 : decode cX14_pair 12 = .ok (.iload_n 1, 1) := by decide +kernel
theorem dX14_pair_13 : decode cX14_pair 13 = .ok (.iconst 1, 1) := by decide +kernel
theorem dX14_pair_14 : decode cX14_pair 14 = .ok (.iadd, 1) := by decide +kernel
theorem dX14_pair_15 : decode cX14_pair 15 = .ok (.baload, 1) := by decide +kernel
theorem dX14_pair_16 : decode cX14_pair 16 = .ok (.sipush 255, 3) := by decide +kernel
theorem dX14_pair_19 : decode cX14_pair 19 = .ok (.iand, 1) := by decide +kernel
theorem dX14_pair_20 : decode cX14_pair 20 = .ok (.iadd, 1) := by decide +kernel
theorem dX14_pair_21 : decode cX14_pair 21 = .ok (.istore_n 2, 1) := by decide +kernel
theorem dX14_pair_22 : decode cX14_pair 22 = .ok (.iload_n 2, 1) := by decide +kernel
theorem dX14_pair_23 : decode cX14_pair 23 = .ok (.sipush 32767, 3) := by decide +kernel
theorem dX14_pair_26 : decode cX14_pair 26 = .ok (.if_icmp .le 10, 3) := by decide +kernel
theorem dX14_pair_29 : decode cX14_pair 29 = .ok (.iload_n 2, 1) := by decide +kernel
theorem dX14_pair_30 : decode cX14_pair 30 = .ok (.ldc 52, 2) := by decide +kernel
theorem dX14_pair_32 : decode cX14_pair 32 = .ok (.isub, 1) := by decide +kernel
theorem dX14_pair_33 : decode cX14_pair 33 = .ok (.goto 4, 3) := by decide +kernel
theorem dX14_pair_36 : decode cX14_pair 36 = .ok (.iload_n 2, 1) := by decide +kernel
theorem dX14_pair_37 : decode cX14_pair 37 = .ok (.ireturn, 1) := by decide +kernel
theorem dX14_readVertex_0 : decode cX14_readVertex 0 = .ok (.aload_n 0, 1) := by decide +kernel
theorem dX14_readVertex_1 : decode cX14_readVertex 1 = .ok (.sipush (-32768), 3) := by decide +kernel
theorem dX14_readVertex_4 : decode cX14_readVertex 4 = .ok (.sipush 32767, 3) := by decide +kernel
theorem dX14_readVertex_7 : decode cX14_readVertex 7 = .ok (.invokevirtual 53, 3) := by decide +kernel
theorem dX14_readVertex_10 : decode cX14_readVertex 10 = .ok (.istore_n 2, 1) := by decide +kernel
theorem dX14_readVertex_11 : decode cX14_readVertex 11 = .ok (.aload_n 0, 1) := by decide +kernel
theorem dX14_readVertex_12 : decode cX14_readVertex 12 = .ok (.getfield 34, 3) := by decide +kernel
theorem dX14_readVertex_15 : decode cX14_readVertex 15 = .ok (.istore_n 3, 1) := by decide +kernel
theorem dX14_readVertex_16 : decode cX14_readVertex 16 = .ok (.aload_n 0, 1) := by decide +kernel
theorem dX14_readVertex_17 : decode cX14_readVertex 17 = .ok (.sipush (-32768), 3) := by decide +kernel
theorem dX14_readVertex_20 : decode cX14_readVertex 20 = .ok (.sipush 32767, 3) := by decide +kernel
theorem dX14_readVertex_23 : decode cX14_readVertex 23 = .ok (.invokevirtual 53, 3) := by decide +kernel
theorem dX14_readVertex_26 : decode cX14_readVertex 26 = .ok (.istore 4, 2) := by decide +kernel
theorem dX14_readVertex_28 : decode cX14_readVertex 28 = .ok (.iconst 0, 1) := by decide +kernel
theorem dX14_readVertex_29 : decode cX14_readVertex 29 = .ok (.istore 5, 2) := by decide +kernel
theorem dX14_readVertex_31 : decode cX14_readVertex 31 = .ok (.iload 5, 2) := by decide +kernel
theorem dX14_readVertex_33 : decode cX14_readVertex 33 = .ok (.iload_n 1, 1) := by decide +kernel
theorem dX14_readVertex_34 : decode cX14_readVertex 34 = .ok (.if_icmp .ge 59, 3) := by decide +kernel
theorem dX14_readVertex_37 : decode cX14_readVertex 37 = .ok (.aload_n 0, 1) := by decide +kernel
theorem dX14_readVertex_38 : decode cX14_readVertex 38 = .ok (.getfield 25, 3) := by decide +kernel
theorem dX14_readVertex_41 : decode cX14_readVertex 41 = .ok (.ifCond .ne 52, 3) := by decide +kernel
theorem dX14_readVertex_44 : decode cX14_readVertex 44 = .ok (.aload_n 0, 1) := by decide +kernel
theorem dX14_readVertex_45 : decode cX14_readVertex 45 = .ok (.getfield 9, 3) := by decide +kernel
theorem dX14_readVertex_48 : decode cX14_readVertex 48 = .ok (.bipush 7, 2) := by decide +kernel
theorem dX14_readVertex_50 : decode cX14_readVertex 50 = .ok (.iconst 4, 1) := by decide +kernel
theorem dX14_readVertex_51 : decode cX14_readVertex 51 = .ok (.iload 5, 2) := by decide +kernel
theorem dX14_readVertex_53 : decode cX14_readVertex 53 = .ok (.imul, 1) := by decide +kernel
theorem dX14_readVertex_54 : decode cX14_readVertex 54 = .ok (.iadd, 1) := by decide +kernel
theorem dX14_readVertex_55 : decode cX14_readVertex 55 = .ok (.invokestatic 56, 3) := by decide +kernel
theorem dX14_readVertex_58 : decode cX14_readVertex 58 = .ok (.iload_n 2, 1) := by decide +kernel
theorem dX14_readVertex_59 : decode cX14_readVertex 59 = .ok (.if_icmp .ne 28, 3) := by decide +kernel
theorem dX14_readVertex_62 : decode cX14_readVertex 62 = .ok (.aload_n 0, 1) := by decide +kernel
theorem dX14_readVertex_63 : decode cX14_readVertex 63 = .ok (.getfield 9, 3) := by decide +kernel
theorem dX14_readVertex_66 : decode cX14_readVertex 66 = .ok (.bipush 9, 2) := by decide +kernel
theorem dX14_readVertex_68 : decode cX14_readVertex 68 = .ok (.iconst 4, 1) := by decide +kernel
theorem dX14_readVertex_69 : decode cX14_readVertex 69 = .ok (.iload 5, 2) := by decide +kernel
theorem dX14_readVertex_71 : decode cX14_readVertex 71 = .ok (.imul, 1) := by decide +kernel
theorem dX14_readVertex_72 : decode cX14_readVertex 72 = .ok (.iadd, 1) := by decide +kernel
theorem dX14_readVertex_73 : decode cX14_readVertex 73 = .ok (.invokestatic 56, 3) := by decide +kernel
theorem dX14_readVertex_76 : decode cX14_readVertex 76 = .ok (.iload 4, 2) := by decide +kernel
theorem dX14_readVertex_78 : decode cX14_readVertex 78 = .ok (.if_icmp .ne 9, 3) := by decide +kernel
theorem dX14_readVertex_81 : decode cX14_readVertex 81 = .ok (.aload_n 0, 1) := by decide +kernel
theorem dX14_readVertex_82 : decode cX14_readVertex 82 = .ok (.iconst 3, 1) := by decide +kernel
theorem dX14_readVertex_83 : decode cX14_readVertex 83 = .ok (.iload_n 3, 1) := by decide +kernel
theorem dX14_readVertex_84 : decode cX14_readVertex 84 = .ok (.invokevirtual 40, 3) := by decide +kernel
theorem dX14_readVertex_87 : decode cX14_readVertex 87 = .ok (.iinc 5 1, 3) := by decide +kernel
theorem dX14_readVertex_90 : decode cX14_readVertex 90 = .ok (.goto (-59), 3) := by decide +kernel
theorem dX14_readVertex_93 : decode cX14_readVertex 93 = .ok (.return_, 1) := by decide +kernel
theorem dX14_readTexture_0 : decode cX14_readTexture 0 = .ok (.aload_n 0, 1) := by decide +kernel
theorem dX14_readTexture_1 : decode cX14_readTexture 1 = .ok (.iconst 0, 1) := by decide +kernel
theorem dX14_readTexture_2 : decode cX14_readTexture 2 = .ok (.iconst 4, 1) := by decide +kernel
theorem dX14_readTexture_3 : decode cX14_readTexture 3 = .ok (.invokevirtual 48, 3) := by decide +kernel
theorem dX14_readTexture_6 : decode cX14_readTexture 6 = .ok (.istore_n 1, 1) := by decide +kernel
theorem dX14_readTexture_7 : decode cX14_readTexture 7 = .ok (.aload_n 0, 1) := by decide +kernel
theorem dX14_readTexture_8 : decode cX14_readTexture 8 = .ok (.iconst 0, 1) := by decide +kernel
theorem dX14_readTexture_9 : decode cX14_readTexture 9 = .ok (.iconst 4, 1) := by decide +kernel
theorem dX14_readTexture_10 : decode cX14_readTexture 10 = .ok (.invokevirtual 48, 3) := by decide +kernel
theorem dX14_readTexture_13 : decode cX14_readTexture 13 = .ok (.istore_n 2, 1) := by decide +kernel
theorem dX14_readTexture_14 : decode cX14_readTexture 14 = .ok (.iconst 0, 1) := by decide +kernel
theorem dX14_readTexture_15 : decode cX14_readTexture 15 = .ok (.istore_n 3, 1) := by decide +kernel
theorem dX14_readTexture_16 : decode cX14_readTexture 16 = .ok (.iload_n 3, 1) := by decide +kernel
theorem dX14_readTexture_17 : decode cX14_readTexture 17 = .ok (.iconst 1, 1) := by decide +kernel
theorem dX14_readTexture_18 : decode cX14_readTexture 18 = .ok (.iload_n 1, 1) := by decide +kernel
theorem dX14_readTexture_19 : decode cX14_readTexture 19 = .ok (.iload_n 2, 1) := by decide +kernel
theorem dX14_readTexture_20 : decode cX14_readTexture 20 = .ok (.iadd, 1) := by decide +kernel
theorem dX14_readTexture_21 : decode cX14_readTexture 21 = .ok (.ishl, 1) := by decide +kernel
theorem dX14_readTexture_22 : decode cX14_readTexture 22 = .ok (.if_icmp .ge 25, 3) := by decide +kernel
theorem dX14_readTexture_25 : decode cX14_readTexture 25 = .ok (.aload_n 0, 1) := by decide +kernel
theorem dX14_readTexture_26 : decode cX14_readTexture 26 = .ok (.getfield 25, 3) := by decide +kernel
theorem dX14_readTexture_29 : decode cX14_readTexture 29 = .ok (.ifCond .ne 18, 3) := by decide +kernel
theorem dX14_readTexture_32 : decode cX14_readTexture 32 = .ok (.aload_n 0, 1) := by decide +kernel
theorem dX14_readTexture_33 : decode cX14_readTexture 33 = .ok (.iconst 0, 1) := by decide +kernel
theorem dX14_readTexture_34 : decode cX14_readTexture 34 = .ok (.bipush 15, 2) := by decide +kernel
theorem dX14_readTexture_36 : decode cX14_readTexture 36 = .ok (.invokevirtual 48, 3) := by decide +kernel
theorem dX14_readTexture_39 : decode cX14_readTexture 39 = .ok (.istore 4, 2) := by decide +kernel
theorem dX14_readTexture_41 : decode cX14_readTexture 41 = .ok (.iinc 3 1, 3) := by decide +kernel
theorem dX14_readTexture_44 : decode cX14_readTexture 44 = .ok (.goto (-28), 3) := by decide +kernel
theorem dX14_readTexture_47 : decode cX14_readTexture 47 = .ok (.return_, 1) := by decide +kernel
theorem dX14_nextOr_0 : decode cX14_nextOr 0 = .ok (.aload_n 0, 1) := by decide +kernel
theorem dX14_nextOr_1 : decode cX14_nextOr 1 = .ok (.iconst 0, 1) := by decide +kernel
theorem dX14_nextOr_2 : decode cX14_nextOr 2 = .ok (.sipush 255, 3) := by decide +kernel
theorem dX14_nextOr_5 : decode cX14_nextOr 5 = .ok (.invokevirtual 48, 3) := by decide +kernel
theorem dX14_nextOr_8 : decode cX14_nextOr 8 = .ok (.istore_n 2, 1) := by decide +kernel
theorem dX14_nextOr_9 : decode cX14_nextOr 9 = .ok (.aload_n 0, 1) := by decide +kernel
theorem dX14_nextOr_10 : decode cX14_nextOr 10 = .ok (.getfield 25, 3) := by decide +kernel
theorem dX14_nextOr_13 : decode cX14_nextOr 13 = .ok (.ifCond .ne 26, 3) := by decide +kernel
theorem dX14_nextOr_16 : decode cX14_nextOr 16 = .ok (.iload_n 2, 1) := by decide +kernel
theorem dX14_nextOr_17 : decode cX14_nextOr 17 = .ok (.iload_n 1, 1) := by decide +kernel
theorem dX14_nextOr_18 : decode cX14_nextOr 18 = .ok (.if_icmp .lt 21, 3) := by decide +kernel
theorem dX14_nextOr_21 : decode cX14_nextOr 21 = .ok (.iload_n 2, 1) := by decide +kernel
theorem dX14_nextOr_22 : decode cX14_nextOr 22 = .ok (.sipush 255, 3) := by decide +kernel
theorem dX14_nextOr_25 : decode cX14_nextOr 25 = .ok (.if_icmp .eq 14, 3) := by decide +kernel
theorem dX14_nextOr_28 : decode cX14_nextOr 28 = .ok (.aload_n 0, 1) := by decide +kernel
theorem dX14_nextOr_29 : decode cX14_nextOr 29 = .ok (.iconst 3, 1) := by decide +kernel
theorem dX14_nextOr_30 : decode cX14_nextOr 30 = .ok (.aload_n 0, 1) := by decide +kernel
theorem dX14_nextOr_31 : decode cX14_nextOr 31 = .ok (.getfield 34, 3) := by decide +kernel
theorem dX14_nextOr_34 : decode cX14_nextOr 34 = .ok (.iconst 1, 1) := by decide +kernel
theorem dX14_nextOr_35 : decode cX14_nextOr 35 = .ok (.isub, 1) := by decide +kernel
theorem dX14_nextOr_36 : decode cX14_nextOr 36 = .ok (.invokevirtual 40, 3) := by decide +kernel
theorem dX14_nextOr_39 : decode cX14_nextOr 39 = .ok (.iload_n 2, 1) := by decide +kernel
theorem dX14_nextOr_40 : decode cX14_nextOr 40 = .ok (.ireturn, 1) := by decide +kernel
theorem dX14_readSector_0 : decode cX14_readSector 0 = .ok (.aload_n 0, 1) := by decide +kernel
theorem dX14_readSector_1 : decode cX14_readSector 1 = .ok (.sipush (-1024), 3) := by decide +kernel
theorem dX14_readSector_4 : decode cX14_readSector 4 = .ok (.sipush 1024, 3) := by decide +kernel
theorem dX14_readSector_7 : decode cX14_readSector 7 = .ok (.invokevirtual 53, 3) := by decide +kernel
theorem dX14_readSector_10 : decode cX14_readSector 10 = .ok (.istore_n 2, 1) := by decide +kernel
theorem dX14_readSector_11 : decode cX14_readSector 11 = .ok (.aload_n 0, 1) := by decide +kernel
theorem dX14_readSector_12 : decode cX14_readSector 12 = .ok (.getfield 34, 3) := by decide +kernel
theorem dX14_readSector_15 : decode cX14_readSector 15 = .ok (.istore_n 3, 1) := by decide +kernel
theorem dX14_readSector_16 : decode cX14_readSector 16 = .ok (.aload_n 0, 1) := by decide +kernel
theorem dX14_readSector_17 : decode cX14_readSector 17 = .ok (.sipush (-1024), 3) := by decide +kernel
theorem dX14_readSector_20 : decode cX14_readSector 20 = .ok (.sipush 1024, 3) := by decide +kernel
theorem dX14_readSector_23 : decode cX14_readSector 23 = .ok (.invokevirtual 53, 3) := by decide +kernel
theorem dX14_readSector_26 : decode cX14_readSector 26 = .ok (.istore 4, 2) := by decide +kernel
theorem dX14_readSector_28 : decode cX14_readSector 28 = .ok (.aload_n 0, 1) := by decide +kernel
theorem dX14_readSector_29 : decode cX14_readSector 29 = .ok (.getfield 25, 3) := by decide +kernel
theorem dX14_readSector_32 : decode cX14_readSector 32 = .ok (.ifCond .ne 15, 3) := by decide +kernel
theorem dX14_readSector_35 : decode cX14_readSector 35 = .ok (.iload 4, 2) := by decide +kernel
theorem dX14_readSector_37 : decode cX14_readSector 37 = .ok (.iload_n 2, 1) := by decide +kernel
theorem dX14_readSector_38 : decode cX14_readSector 38 = .ok (.if_icmp .gt 9, 3) := by decide +kernel
theorem dX14_readSector_41 : decode cX14_readSector 41 = .ok (.aload_n 0, 1) := by decide +kernel
theorem dX14_readSector_42 : decode cX14_readSector 42 = .ok (.iconst 3, 1) := by decide +kernel
theorem dX14_readSector_43 : decode cX14_readSector 43 = .ok (.iload_n 3, 1) := by decide +kernel
theorem dX14_readSector_44 : decode cX14_readSector 44 = .ok (.invokevirtual 40, 3) := by decide +kernel
theorem dX14_readSector_47 : decode cX14_readSector 47 = .ok (.aload_n 0, 1) := by decide +kernel
theorem dX14_readSector_48 : decode cX14_readSector 48 = .ok (.iconst 0, 1) := by decide +kernel
theorem dX14_readSector_49 : decode cX14_readSector 49 = .ok (.iload_n 1, 1) := by decide +kernel
theorem dX14_readSector_50 : decode cX14_readSector 50 = .ok (.iconst 1, 1) := by decide +kernel
theorem dX14_readSector_51 : decode cX14_readSector 51 = .ok (.isub, 1) := by decide +kernel
theorem dX14_readSector_52 : decode cX14_readSector 52 = .ok (.invokevirtual 48, 3) := by decide +kernel
theorem dX14_readSector_55 : decode cX14_readSector 55 = .ok (.istore 5, 2) := by decide +kernel
theorem dX14_readSector_57 : decode cX14_readSector 57 = .ok (.aload_n 0, 1) := by decide +kernel
theorem dX14_readSector_58 : decode cX14_readSector 58 = .ok (.iload_n 1, 1) := by decide +kernel
theorem dX14_readSector_59 : decode cX14_readSector 59 = .ok (.invokevirtual 60, 3) := by decide +kernel
theorem dX14_readSector_62 : decode cX14_readSector 62 = .ok (.istore 6, 2) := by decide +kernel
theorem dX14_readSector_64 : decode cX14_readSector 64 = .ok (.aload_n 0, 1) := by decide +kernel
theorem dX14_readSector_65 : decode cX14_readSector 65 = .ok (.iconst 0, 1) := by decide +kernel
theorem dX14_readSector_66 : decode cX14_readSector 66 = .ok (.bipush 15, 2) := by decide +kernel
theorem dX14_readSector_68 : decode cX14_readSector 68 = .ok (.invokevirtual 48, 3) := by decide +kernel
theorem dX14_readSector_71 : decode cX14_readSector 71 = .ok (.istore 7, 2) := by decide +kernel
theorem dX14_readSector_73 : decode cX14_readSector 73 = .ok (.aload_n 0, 1) := by decide +kernel
theorem dX14_readSector_74 : decode cX14_readSector 74 = .ok (.iconst 0, 1) := by decide +kernel
theorem dX14_readSector_75 : decode cX14_readSector 75 = .ok (.iconst 3, 1) := by decide +kernel
theorem dX14_readSector_76 : decode cX14_readSector 76 = .ok (.invokevirtual 48, 3) := by decide +kernel
theorem dX14_readSector_79 : decode cX14_readSector 79 = .ok (.istore 8, 2) := by decide +kernel
theorem dX14_readSector_81 : decode cX14_readSector 81 = .ok (.aload_n 0, 1) := by decide +kernel
theorem dX14_readSector_82 : decode cX14_readSector 82 = .ok (.iconst 0, 1) := by decide +kernel
theorem dX14_readSector_83 : decode cX14_readSector 83 = .ok (.sipush 255, 3) := by decide +kernel
theorem dX14_readSector_86 : decode cX14_readSector 86 = .ok (.invokevirtual 48, 3) := by decide +kernel
theorem dX14_readSector_89 : decode cX14_readSector 89 = .ok (.istore 9, 2) := by decide +kernel
theorem dX14_readSector_91 : decode cX14_readSector 91 = .ok (.return_, 1) := by decide +kernel
theorem dX14_readWall_0 : decode cX14_readWall 0 = .ok (.aload_n 0, 1) := by decide +kernel
theorem dX14_readWall_1 : decode cX14_readWall 1 = .ok (.iconst 0, 1) := by decide +kernel
theorem dX14_readWall_2 : decode cX14_readWall 2 = .ok (.iload_n 1, 1) := by decide +kernel
theorem dX14_readWall_3 : decode cX14_readWall 3 = .ok (.iconst 1, 1) := by decide +kernel
theorem dX14_readWall_4 : decode cX14_readWall 4 = .ok (.isub, 1) := by decide +kernel
theorem dX14_readWall_5 : decode cX14_readWall 5 = .ok (.invokevirtual 48, 3) := by decide +kernel
theorem dX14_readWall_8 : decode cX14_readWall 8 = .ok (.istore 4, 2) := by decide +kernel
theorem dX14_readWall_10 : decode cX14_readWall 10 = .ok (.aload_n 0, 1) := by decide +kernel
theorem dX14_readWall_11 : decode cX14_readWall 11 = .ok (.iconst 0, 1) := by decide +kernel
theorem dX14_readWall_12 : decode cX14_readWall 12 = .ok (.iload_n 1, 1) := by decide +kernel
theorem dX14_readWall_13 : decode cX14_readWall 13 = .ok (.iconst 1, 1) := by decide +kernel
theorem dX14_readWall_14 : decode cX14_readWall 14 = .ok (.isub, 1) := by decide +kernel
theorem dX14_readWall_15 : decode cX14_readWall 15 = .ok (.invokevirtual 48, 3) := by decide +kernel
theorem dX14_readWall_18 : decode cX14_readWall 18 = .ok (.istore 5, 2) := by decide +kernel
theorem dX14_readWall_20 : decode cX14_readWall 20 = .ok (.aload_n 0, 1) := by decide +kernel
theorem dX14_readWall_21 : decode cX14_readWall 21 = .ok (.getfield 25, 3) := by decide +kernel
theorem dX14_readWall_24 : decode cX14_readWall 24 = .ok (.ifCond .ne 21, 3) := by decide +kernel
theorem dX14_readWall_27 : decode cX14_readWall 27 = .ok (.iload 4, 2) := by decide +kernel
theorem dX14_readWall_29 : decode cX14_readWall 29 = .ok (.iload 5, 2) := by decide +kernel
theorem dX14_readWall_31 : decode cX14_readWall 31 = .ok (.if_icmp .ne 14, 3) := by decide +kernel
theorem dX14_readWall_34 : decode cX14_readWall 34 = .ok (.aload_n 0, 1) := by decide +kernel
theorem dX14_readWall_35 : decode cX14_readWall 35 = .ok (.iconst 3, 1) := by decide +kernel
theorem dX14_readWall_36 : decode cX14_readWall 36 = .ok (.aload_n 0, 1) := by decide +kernel
theorem dX14_readWall_37 : decode cX14_readWall 37 = .ok (.getfield 34, 3) := by decide +kernel
theorem dX14_readWall_40 : decode cX14_readWall 40 = .ok (.iconst 1, 1) := by decide +kernel
theorem dX14_readWall_41 : decode cX14_readWall 41 = .ok (.isub, 1) := by decide +kernel
theorem dX14_readWall_42 : decode cX14_readWall 42 = .ok (.invokevirtual 40, 3) := by decide +kernel
theorem dX14_readWall_45 : decode cX14_readWall 45 = .ok (.aload_n 0, 1) := by decide +kernel
theorem dX14_readWall_46 : decode cX14_readWall 46 = .ok (.iconst 0, 1) := by decide +kernel
theorem dX14_readWall_47 : decode cX14_readWall 47 = .ok (.iload_n 3, 1) := by decide +kernel
theorem dX14_readWall_48 : decode cX14_readWall 48 = .ok (.iconst 1, 1) := by decide +kernel
theorem dX14_readWall_49 : decode cX14_readWall 49 = .ok (.isub, 1) := by decide +kernel
theorem dX14_readWall_50 : decode cX14_readWall 50 = .ok (.invokevirtual 48, 3) := by decide +kernel
theorem dX14_readWall_53 : decode cX14_readWall 53 = .ok (.istore 6, 2) := by decide +kernel
theorem dX14_readWall_55 : decode cX14_readWall 55 = .ok (.aload_n 0, 1) := by decide +kernel
theorem dX14_readWall_56 : decode cX14_readWall 56 = .ok (.iload_n 3, 1) := by decide +kernel
theorem dX14_readWall_57 : decode cX14_readWall 57 = .ok (.invokevirtual 60, 3) := by decide +kernel
theorem dX14_readWall_60 : decode cX14_readWall 60 = .ok (.istore 7, 2) := by decide +kernel
theorem dX14_readWall_62 : decode cX14_readWall 62 = .ok (.iconst 0, 1) := by decide +kernel
theorem dX14_readWall_63 : decode cX14_readWall 63 = .ok (.istore 8, 2) := by decide +kernel
theorem dX14_readWall_65 : decode cX14_readWall 65 = .ok (.iload 8, 2) := by decide +kernel
theorem dX14_readWall_67 : decode cX14_readWall 67 = .ok (.bipush 6, 2) := by decide +kernel
theorem dX14_readWall_69 : decode cX14_readWall 69 = .ok (.if_icmp .ge 56, 3) := by decide +kernel
theorem dX14_readWall_72 : decode cX14_readWall 72 = .ok (.aload_n 0, 1) := by decide +kernel
theorem dX14_readWall_73 : decode cX14_readWall 73 = .ok (.iload_n 2, 1) := by decide +kernel
theorem dX14_readWall_74 : decode cX14_readWall 74 = .ok (.invokevirtual 60, 3) := by decide +kernel
theorem dX14_readWall_77 : decode cX14_readWall 77 = .ok (.istore 9, 2) := by decide +kernel
theorem dX14_readWall_79 : decode cX14_readWall 79 = .ok (.aload_n 0, 1) := by decide +kernel
theorem dX14_readWall_80 : decode cX14_readWall 80 = .ok (.getfield 25, 3) := by decide +kernel
theorem dX14_readWall_83 : decode cX14_readWall 83 = .ok (.ifCond .ne 36, 3) := by decide +kernel
theorem dX14_readWall_86 : decode cX14_readWall 86 = .ok (.iload 8, 2) := by decide +kernel
theorem dX14_readWall_88 : decode cX14_readWall 88 = .ok (.iconst 2, 1) := by decide +kernel
theorem dX14_readWall_89 : decode cX14_readWall 89 = .ok (.if_icmp .le 30, 3) := by decide +kernel
theorem dX14_readWall_92 : decode cX14_readWall 92 = .ok (.iload 7, 2) := by decide +kernel
theorem dX14_readWall_94 : decode cX14_readWall 94 = .ok (.sipush 255, 3) := by decide +kernel
theorem dX14_readWall_97 : decode cX14_readWall 97 = .ok (.if_icmp .ne 22, 3) := by decide +kernel
theorem dX14_readWall_100 : decode cX14_readWall 100 = .ok (.iload 9, 2) := by decide +kernel
theorem dX14_readWall_102 : decode cX14_readWall 102 = .ok (.sipush 255, 3) := by decide +kernel
theorem dX14_readWall_105 : decode cX14_readWall 105 = .ok (.if_icmp .eq 14, 3) := by decide +kernel
theorem dX14_readWall_108 : decode cX14_readWall 108 = .ok (.aload_n 0, 1) := by decide +kernel
theorem dX14_readWall_109 : decode cX14_readWall 109 = .ok (.iconst 3, 1) := by decide +kernel
theorem dX14_readWall_110 : decode cX14_readWall 110 = .ok (.aload_n 0, 1) := by decide +kernel
theorem dX14_readWall_111 : decode cX14_readWall 111 = .ok (.getfield 34, 3) := by decide +kernel
theorem dX14_readWall_114 : decode cX14_readWall 114 = .ok (.iconst 1, 1) := by decide +kernel
theorem dX14_readWall_115 : decode cX14_readWall 115 = .ok (.isub, 1) := by decide +kernel
theorem dX14_readWall_116 : decode cX14_readWall 116 = .ok (.invokevirtual 40, 3) := by decide +kernel
theorem dX14_readWall_119 : decode cX14_readWall 119 = .ok (.iinc 8 1, 3) := by decide +kernel
theorem dX14_readWall_122 : decode cX14_readWall 122 = .ok (.goto (-57), 3) := by decide +kernel
theorem dX14_readWall_125 : decode cX14_readWall 125 = .ok (.aload_n 0, 1) := by decide +kernel
theorem dX14_readWall_126 : decode cX14_readWall 126 = .ok (.iconst 0, 1) := by decide +kernel
theorem dX14_readWall_127 : decode cX14_readWall 127 = .ok (.sipush 255, 3) := by decide +kernel
theorem dX14_readWall_130 : decode cX14_readWall 130 = .ok (.invokevirtual 48, 3) := by decide +kernel
theorem dX14_readWall_133 : decode cX14_readWall 133 = .ok (.istore 8, 2) := by decide +kernel
theorem dX14_readWall_135 : decode cX14_readWall 135 = .ok (.aload_n 0, 1) := by decide +kernel
theorem dX14_readWall_136 : decode cX14_readWall 136 = .ok (.iconst 0, 1) := by decide +kernel
theorem dX14_readWall_137 : decode cX14_readWall 137 = .ok (.iconst 3, 1) := by decide +kernel
theorem dX14_readWall_138 : decode cX14_readWall 138 = .ok (.invokevirtual 48, 3) := by decide +kernel
theorem dX14_readWall_141 : decode cX14_readWall 141 = .ok (.istore 9, 2) := by decide +kernel
theorem dX14_readWall_143 : decode cX14_readWall 143 = .ok (.aload_n 0, 1) := by decide +kernel
theorem dX14_readWall_144 : decode cX14_readWall 144 = .ok (.iconst 0, 1) := by decide +kernel
theorem dX14_readWall_145 : decode cX14_readWall 145 = .ok (.iconst 5, 1) := by decide +kernel
theorem dX14_readWall_146 : decode cX14_readWall 146 = .ok (.invokevirtual 48, 3) := by decide +kernel
theorem dX14_readWall_149 : decode cX14_readWall 149 = .ok (.istore 10, 2) := by decide +kernel
theorem dX14_readWall_151 : decode cX14_readWall 151 = .ok (.aload_n 0, 1) := by decide +kernel
theorem dX14_readWall_152 : decode cX14_readWall 152 = .ok (.iconst 0, 1) := by decide +kernel
theorem dX14_readWall_153 : decode cX14_readWall 153 = .ok (.sipush 255, 3) := by decide +kernel
theorem dX14_readWall_156 : decode cX14_readWall 156 = .ok (.invokevirtual 48, 3) := by decide +kernel
theorem dX14_readWall_159 : decode cX14_readWall 159 = .ok (.istore 11, 2) := by decide +kernel
theorem dX14_readWall_161 : decode cX14_readWall 161 = .ok (.return_, 1) := by decide +kernel
def rm_X2_findOverlap : Room := { frames := 4, cells := 0, slots := 0, locals := 89 }
theorem fl_X2_findOverlap_49 {s : State} {meth : Method} {args : Array Value} {G : sv_G} {B : Nat} (hts : ∀ w ∈ sv_tb, w.before args s = true) (hC : sv_Cx G B s s.heap) (hni : meth.name = "findOverlap") : sv_FL s meth args vwCl RX2 49 2 8 (.array (.object "SectorView$Wall")) false :=
  ⟨_, RX2, TX2, 13, sv_tb, tyX2, rfl, by decide, hts, uw_X2, Or.inl (hts _ wd_494), fun _ h => h, tyX2_ok 8 (by decide), tyX2_ok, nmX2, fun h => by cases h⟩
theorem fl_X2_findOverlap_75 {s : State} {meth : Method} {args : Array Value} {G : sv_G} {B : Nat} (hts : ∀ w ∈ sv_tb, w.before args s = true) (hC : sv_Cx G B s s.heap) (hni : meth.name = "findOverlap") : sv_FL s meth args vwCl RX2 75 2 12 .int true :=
  ⟨_, RX2, TX2, 13, sv_tb, tyX2, rfl, by decide, hts, uw_X2, Or.inl (hts _ wd_507), fun _ h => h, tyX2_ok 12 (by decide), tyX2_ok, nmX2, fun _ => Or.inl rfl⟩
set_option maxHeartbeats 4000000 in
set_option maxRecDepth 100000 in
theorem lk_X2_findOverlap_76 {p : Program} {l : Launch} {e : Env} {s : State} {m : MethodId} {args : Array Value} {below : List Frame} {meth : Method} {c : Code} {G : sv_G} {B : Nat} (K : sv_W p s m args meth c cX2_findOverlap RX2 5 none G B "findOverlap") {r : Unit} {hE : sv_H} {h : sv_H} (hw : fn_X2_findOverlap_76 h = some (r, hE)) {H : Heap} {locs : List Loc} {ls : Array Slot} (hR : sv_R G vwCl sv_ft B h H) (hS : va_S (fun q => B ≤ q) s.heap H locs) (hl : lv_has ls 5 []) : W p l e rm_X2_findOverlap s m args below meth c H locs 0 0 (sv_Z below s args G B none hE) (F0 m 76 ls []) := by
  obtain ⟨hx, hb, hml, hown, hts, hC, hlk, hr, hBs, hni⟩ := id K
  unfold fn_X2_findOverlap_76 at hw
  obtain ⟨rfl, rfl⟩ := sv_ret hw
  exact W.vret hx hb hr (fun t ht hW => ⟨⟨rfl, by rw [ht]; exact hR⟩, hS.F ht⟩) hS.2.2 dX2_findOverlap_76
set_option maxHeartbeats 4000000 in
set_option maxRecDepth 100000 in
theorem lk_X2_findOverlap_70 {p : Program} {l : Launch} {e : Env} {s : State} {m : MethodId} {args : Array Value} {below : List Frame} {meth : Method} {c : Code} {G : sv_G} {B : Nat} (K : sv_W p s m args meth c cX2_findOverlap RX2 5 none G B "findOverlap") {r : Unit} {hE : sv_H} {k2 : Nat → Nat → Int32 → Int32 → sv_H → Option (Unit × sv_H)} (hk2 : ∀ {x0 : Nat} {x1 : Nat} {x2 : Int32} {x3 : Int32} {h : sv_H}, k2 x0 x1 x2 x3 h = some (r, hE) → ∀ {H : Heap} {locs : List Loc} {ls : Array Slot}, sv_R G vwCl sv_ft B h H → va_S (fun q => B ≤ q) s.heap H locs → lv_has ls 5 [(0, .ref x0), (1, .ref x1), (2, .int x2), (3, .int x3)] → W p l e rm_X2_findOverlap s m args below meth c H locs 0 0 (sv_Z below s args G B none hE) (F0 m 2 ls [])) {x0 : Nat} {x1 : Nat} {x2 : Int32} {x3 : Int32} {h : sv_H} (hw : fn_X2_findOverlap_70 k2 x0 x1 x2 x3 h = some (r, hE)) {H : Heap} {locs : List Loc} {ls : Array Slot} (hR : sv_R G vwCl sv_ft B h H) (hS : va_S (fun q => B ≤ q) s.heap H locs) (hl : lv_has ls 5 [(0, .ref x0), (1, .ref x1), (2, .int x2), (3, .int x3)]) : W p l e rm_X2_findOverlap s m args below meth c H locs 0 0 (sv_Z below s args G B none hE) (F0 m 70 ls []) := by
  obtain ⟨hx, hb, hml, hown, hts, hC, hlk, hr, hBs, hni⟩ := id K
  unfold fn_X2_findOverlap_70 at hw
  refine lv_iinc (v := x3 + 1) (lv' := [(3, .int (x3 + 1)), (0, .ref x0), (1, .ref x1), (2, .int x2)]) hx hb dX2_findOverlap_70 hl (k := 3) rfl rfl (by decide) rfl (fun ls hl => ?_)
  refine lv_goto (tgt := 2) hx hb dX2_findOverlap_73 (by decide) ?_
  exact hk2 hw hR hS (lv_sub hl [1, 2, 3, 0] rfl)
set_option maxHeartbeats 4000000 in
set_option maxRecDepth 100000 in
theorem lk_X2_findOverlap_64 {p : Program} {l : Launch} {e : Env} {s : State} {m : MethodId} {args : Array Value} {below : List Frame} {meth : Method} {c : Code} {G : sv_G} {B : Nat} (K : sv_W p s m args meth c cX2_findOverlap RX2 5 none G B "findOverlap") {r : Unit} {hE : sv_H} {k2 : Nat → Nat → Int32 → Int32 → sv_H → Option (Unit × sv_H)} (hk2 : ∀ {x0 : Nat} {x1 : Nat} {x2 : Int32} {x3 : Int32} {h : sv_H}, k2 x0 x1 x2 x3 h = some (r, hE) → ∀ {H : Heap} {locs : List Loc} {ls : Array Slot}, sv_R G vwCl sv_ft B h H → va_S (fun q => B ≤ q) s.heap H locs → lv_has ls 5 [(0, .ref x0), (1, .ref x1), (2, .int x2), (3, .int x3)] → W p l e rm_X2_findOverlap s m args below meth c H locs 0 0 (sv_Z below s args G B none hE) (F0 m 2 ls [])) {k20 : Nat → Nat → Int32 → Int32 → Int32 → sv_H → Option (Unit × sv_H)} (hk20 : ∀ {x0 : Nat} {x1 : Nat} {x2 : Int32} {x3 : Int32} {x4 : Int32} {h : sv_H}, k20 x0 x1 x2 x3 x4 h = some (r, hE) → ∀ {H : Heap} {locs : List Loc} {ls : Array Slot}, sv_R G vwCl sv_ft B h H → va_S (fun q => B ≤ q) s.heap H locs → lv_has ls 5 [(0, .ref x0), (1, .ref x1), (2, .int x2), (3, .int x3), (4, .int x4)] → W p l e rm_X2_findOverlap s m args below meth c H locs 0 0 (sv_Z below s args G B none hE) (F0 m 20 ls [])) {x0 : Nat} {x1 : Nat} {x2 : Int32} {x3 : Int32} {x4 : Int32} {h : sv_H} (hw : fn_X2_findOverlap_64 k2 k20 x0 x1 x2 x3 x4 h = some (r, hE)) {H : Heap} {locs : List Loc} {ls : Array Slot} (hR : sv_R G vwCl sv_ft B h H) (hS : va_S (fun q => B ≤ q) s.heap H locs) (hl : lv_has ls 5 [(0, .ref x0), (1, .ref x1), (2, .int x2), (3, .int x3), (4, .int x4)]) : W p l e rm_X2_findOverlap s m args below meth c H locs 0 0 (sv_Z below s args G B none hE) (F0 m 64 ls []) := by
  obtain ⟨hx, hb, hml, hown, hts, hC, hlk, hr, hBs, hni⟩ := id K
  unfold fn_X2_findOverlap_64 at hw
  refine lv_iinc (v := x4 + 1) (lv' := [(4, .int (x4 + 1)), (0, .ref x0), (1, .ref x1), (2, .int x2), (3, .int x3)]) hx hb dX2_findOverlap_64 hl (k := 4) rfl rfl (by decide) rfl (fun ls hl => ?_)
  refine lv_goto (tgt := 20) hx hb dX2_findOverlap_67 (by decide) ?_
  exact hk20 hw hR hS (lv_sub hl [1, 2, 3, 4, 0] rfl)
set_option maxHeartbeats 4000000 in
set_option maxRecDepth 100000 in
theorem lk_X2_findOverlap_20b {p : Program} {l : Launch} {e : Env} {s : State} {m : MethodId} {args : Array Value} {below : List Frame} {meth : Method} {c : Code} {G : sv_G} {B : Nat} (K : sv_W p s m args meth c cX2_findOverlap RX2 5 none G B "findOverlap") {r : Unit} {hE : sv_H} {k2 : Nat → Nat → Int32 → Int32 → sv_H → Option (Unit × sv_H)} (hk2 : ∀ {x0 : Nat} {x1 : Nat} {x2 : Int32} {x3 : Int32} {h : sv_H}, k2 x0 x1 x2 x3 h = some (r, hE) → ∀ {H : Heap} {locs : List Loc} {ls : Array Slot}, sv_R G vwCl sv_ft B h H → va_S (fun q => B ≤ q) s.heap H locs → lv_has ls 5 [(0, .ref x0), (1, .ref x1), (2, .int x2), (3, .int x3)] → W p l e rm_X2_findOverlap s m args below meth c H locs 0 0 (sv_Z below s args G B none hE) (F0 m 2 ls [])) {k20 : Nat → Nat → Int32 → Int32 → Int32 → sv_H → Option (Unit × sv_H)} (hk20 : ∀ {x0 : Nat} {x1 : Nat} {x2 : Int32} {x3 : Int32} {x4 : Int32} {h : sv_H}, k20 x0 x1 x2 x3 x4 h = some (r, hE) → ∀ {H : Heap} {locs : List Loc} {ls : Array Slot}, sv_R G vwCl sv_ft B h H → va_S (fun q => B ≤ q) s.heap H locs → lv_has ls 5 [(0, .ref x0), (1, .ref x1), (2, .int x2), (3, .int x3), (4, .int x4)] → W p l e rm_X2_findOverlap s m args below meth c H locs 0 0 (sv_Z below s args G B none hE) (F0 m 20 ls [])) {x0 : Nat} {x1 : Nat} {x2 : Int32} {x3 : Int32} {x4 : Int32} {h : sv_H} (hw : fn_X2_findOverlap_20b k2 k20 x0 x1 x2 x3 x4 h = some (r, hE)) {H : Heap} {locs : List Loc} {ls : Array Slot} (hR : sv_R G vwCl sv_ft B h H) (hS : va_S (fun q => B ≤ q) s.heap H locs) (hl : lv_has ls 5 [(0, .ref x0), (1, .ref x1), (2, .int x2), (3, .int x3), (4, .int x4)]) : W p l e rm_X2_findOverlap s m args below meth c H locs 0 0 (sv_Z below s args G B none hE) (F0 m 20 ls []) := by
  obtain ⟨hx, hb, hml, hown, hts, hC, hlk, hr, hBs, hni⟩ := id K
  unfold fn_X2_findOverlap_20b at hw
  refine lv_iload hx hb dX2_findOverlap_20 (lv_at hl 4 rfl) ?_
  refine lv_iload_n hx hb dX2_findOverlap_22 rfl (lv_at hl 3 rfl) ?_
  refine lv_icmp_ge (tgt := 70) hx hb dX2_findOverlap_23 (by decide) (fun cc => ?_) (fun cc => ?_)
  · have hw := sv_ift cc hw
    exact lk_X2_findOverlap_70 K hk2 hw hR hS (lv_sub hl [0, 1, 2, 3] rfl)
  · have hw := sv_iff cc hw
    refine lv_aload_n hx hb dX2_findOverlap_26 rfl (lv_at hl 1 rfl) ?_
    obtain ⟨r1, h2, hv1, hw⟩ := sv_b_some hw
    refine sv_call (va_runV (As := []) (rest := []) ⟨hx, hb, hml, hown, hts⟩ (mt_X4_well l G B hv1) (cwV 0 hts (sv_gV wd_787 wd_788 wd_789 wd_133 wd_790) rfl rfl rfl (by decide +kernel) ⟨Nat.le_of_ble_eq_true rfl, Nat.le_of_ble_eq_true rfl⟩) ⟨sv_blind, sv_recv hC.1 hR (ci := 4) (sv_go hv1).1 (by decide) rfl, fun U hU hW => sv_pre hC hR hS hBs hU hW⟩ rfl rfl hl.1 rfl (lv_room (Nat.le_of_ble_eq_true rfl)) dX2_findOverlap_27 ⟨Nat.zero_le _, Nat.zero_le _⟩) hS (fun H locs hR hS => ?_)
    refine lv_if_eq (tgt := 70) hx hb dX2_findOverlap_30 (by decide) (fun cc => ?_) (fun cc => ?_)
    · have hw := sv_ift cc hw
      exact lk_X2_findOverlap_70 K hk2 hw hR hS (lv_sub hl [0, 1, 2, 3] rfl)
    · have hw := sv_iff cc hw
      refine lv_aload_n hx hb dX2_findOverlap_33 rfl (lv_at hl 0 rfl) ?_
      obtain ⟨v3, hv, hw⟩ := sv_bd hw
      refine sv_rgP hx hb hown hC.1 hR (fl_X2_findOverlap_49 hts hC hni) rfl (by decide) rfl rfl hv dX2_findOverlap_34 ?_
      refine lv_iload_n hx hb dX2_findOverlap_37 rfl (lv_at hl 3 rfl) ?_
      obtain ⟨v4, hv, hw⟩ := sv_bd hw
      refine sv_rlP hx hb hC.1 (c1 := 922) (C := "SectorView$Wall") rfl (by decide) hR hv dX2_findOverlap_38 ?_
      refine lv_aload_n hx hb dX2_findOverlap_39 rfl (lv_at hl 0 rfl) ?_
      obtain ⟨v5, hv, hw⟩ := sv_bd hw
      refine sv_rgP hx hb hown hC.1 hR (fl_X2_findOverlap_49 hts hC hni) rfl (by decide) rfl rfl hv dX2_findOverlap_40 ?_
      refine lv_iload hx hb dX2_findOverlap_43 (lv_at hl 4 rfl) ?_
      obtain ⟨v6, hv, hw⟩ := sv_bd hw
      refine sv_rlP hx hb hC.1 (c1 := 922) (C := "SectorView$Wall") rfl (by decide) hR hv dX2_findOverlap_45 ?_
      obtain ⟨r7, h8, hv2, hw⟩ := sv_b_some hw
      refine sv_call (va_runV (As := [.ref v6]) (rest := []) ⟨hx, hb, hml, hown, hts⟩ (mt_X11_overlaps l G B hv2) (cwV 1 hts (sv_gV wd_839 wd_840 wd_841 wd_139 wd_842) rfl rfl rfl (by decide +kernel) ⟨Nat.le_of_ble_eq_true rfl, Nat.le_of_ble_eq_true rfl⟩) ⟨sv_blind, sv_recv hC.1 hR (ci := 11) (sv_go hv2).1 (by decide) rfl, fun U hU hW => sv_pre hC hR hS hBs hU hW⟩ rfl rfl hl.1 rfl (lv_room (Nat.le_of_ble_eq_true rfl)) dX2_findOverlap_46 ⟨Nat.zero_le _, Nat.zero_le _⟩) hS (fun H locs hR hS => ?_)
      refine lv_if_eq (tgt := 64) hx hb dX2_findOverlap_49 (by decide) (fun cc => ?_) (fun cc => ?_)
      · have hw := sv_ift cc hw
        exact lk_X2_findOverlap_64 K hk2 hk20 hw hR hS (lv_sub hl [0, 1, 2, 3, 4] rfl)
      · have hw := sv_iff cc hw
        refine lv_aload_n hx hb dX2_findOverlap_52 rfl (lv_at hl 1 rfl) ?_
        refine lv_bipush (v := 6) hx hb dX2_findOverlap_53 (by decide) ?_
        refine lv_iload_n hx hb dX2_findOverlap_55 rfl (lv_at hl 2 rfl) ?_
        refine lv_bipush (v := 14) hx hb dX2_findOverlap_56 (by decide) ?_
        refine lv_iload_n hx hb dX2_findOverlap_58 rfl (lv_at hl 3 rfl) ?_
        refine lv_imul hx hb dX2_findOverlap_59 ?_
        refine lv_iadd hx hb dX2_findOverlap_60 ?_
        obtain ⟨_, h9, hv3, hw⟩ := sv_b_some hw
        refine sv_call (va_runV (As := [.int 6, .int (x2 + (14 * x3))]) (rest := []) ⟨hx, hb, hml, hown, hts⟩ (mt_X4_blame l G B hv3) (cwV 2 hts (sv_gV wd_799 wd_776 wd_777 wd_133 wd_778) rfl rfl rfl (by decide +kernel) ⟨Nat.le_of_ble_eq_true rfl, Nat.le_of_ble_eq_true rfl⟩) ⟨sv_blind, sv_recv hC.1 hR (ci := 4) (sv_go hv3).1 (by decide) rfl, fun U hU hW => sv_pre hC hR hS hBs hU hW⟩ rfl rfl hl.1 rfl (lv_room (Nat.le_of_ble_eq_true rfl)) dX2_findOverlap_61 ⟨Nat.zero_le _, Nat.zero_le _⟩) hS (fun H locs hR hS => ?_)
        exact lk_X2_findOverlap_64 K hk2 hk20 hw hR hS (lv_sub hl [0, 1, 2, 3, 4] rfl)
theorem lk_X2_findOverlap_20 {p : Program} {l : Launch} {e : Env} {s : State} {m : MethodId} {args : Array Value} {below : List Frame} {meth : Method} {c : Code} {G : sv_G} {B : Nat} (K : sv_W p s m args meth c cX2_findOverlap RX2 5 none G B "findOverlap") {r : Unit} {hE : sv_H} {k2 : Nat → Nat → Int32 → Int32 → sv_H → Option (Unit × sv_H)} (hk2 : ∀ {x0 : Nat} {x1 : Nat} {x2 : Int32} {x3 : Int32} {h : sv_H}, k2 x0 x1 x2 x3 h = some (r, hE) → ∀ {H : Heap} {locs : List Loc} {ls : Array Slot}, sv_R G vwCl sv_ft B h H → va_S (fun q => B ≤ q) s.heap H locs → lv_has ls 5 [(0, .ref x0), (1, .ref x1), (2, .int x2), (3, .int x3)] → W p l e rm_X2_findOverlap s m args below meth c H locs 0 0 (sv_Z below s args G B none hE) (F0 m 2 ls [])) : ∀ (n : Nat) {x0 : Nat} {x1 : Nat} {x2 : Int32} {x3 : Int32} {x4 : Int32} {h : sv_H}, fn_X2_findOverlap_20 k2 n x0 x1 x2 x3 x4 h = some (r, hE) → ∀ {H : Heap} {locs : List Loc} {ls : Array Slot}, sv_R G vwCl sv_ft B h H → va_S (fun q => B ≤ q) s.heap H locs → lv_has ls 5 [(0, .ref x0), (1, .ref x1), (2, .int x2), (3, .int x3), (4, .int x4)] → W p l e rm_X2_findOverlap s m args below meth c H locs 0 0 (sv_Z below s args G B none hE) (F0 m 20 ls []) := by
  intro n
  induction n with
  | zero => intro x0 x1 x2 x3 x4 h hw; cases (show (none : Option (Unit × sv_H)) = some (r, hE) from hw)
  | succ n ih => intro x0 x1 x2 x3 x4 h hw H locs ls hR hS hl; exact lk_X2_findOverlap_20b K hk2 (fun hw => ih hw) hw hR hS hl
set_option maxHeartbeats 4000000 in
set_option maxRecDepth 100000 in
theorem lk_X2_findOverlap_2b {p : Program} {l : Launch} {e : Env} {s : State} {m : MethodId} {args : Array Value} {below : List Frame} {meth : Method} {c : Code} {G : sv_G} {B : Nat} (K : sv_W p s m args meth c cX2_findOverlap RX2 5 none G B "findOverlap") {r : Unit} {hE : sv_H} {k2 : Nat → Nat → Int32 → Int32 → sv_H → Option (Unit × sv_H)} (hk2 : ∀ {x0 : Nat} {x1 : Nat} {x2 : Int32} {x3 : Int32} {h : sv_H}, k2 x0 x1 x2 x3 h = some (r, hE) → ∀ {H : Heap} {locs : List Loc} {ls : Array Slot}, sv_R G vwCl sv_ft B h H → va_S (fun q => B ≤ q) s.heap H locs → lv_has ls 5 [(0, .ref x0), (1, .ref x1), (2, .int x2), (3, .int x3)] → W p l e rm_X2_findOverlap s m args below meth c H locs 0 0 (sv_Z below s args G B none hE) (F0 m 2 ls [])) {x0 : Nat} {x1 : Nat} {x2 : Int32} {x3 : Int32} {h : sv_H} (hw : fn_X2_findOverlap_2b k2 x0 x1 x2 x3 h = some (r, hE)) {H : Heap} {locs : List Loc} {ls : Array Slot} (hR : sv_R G vwCl sv_ft B h H) (hS : va_S (fun q => B ≤ q) s.heap H locs) (hl : lv_has ls 5 [(0, .ref x0), (1, .ref x1), (2, .int x2), (3, .int x3)]) : W p l e rm_X2_findOverlap s m args below meth c H locs 0 0 (sv_Z below s args G B none hE) (F0 m 2 ls []) := by
  obtain ⟨hx, hb, hml, hown, hts, hC, hlk, hr, hBs, hni⟩ := id K
  unfold fn_X2_findOverlap_2b at hw
  refine lv_iload_n hx hb dX2_findOverlap_2 rfl (lv_at hl 3 rfl) ?_
  refine lv_aload_n hx hb dX2_findOverlap_3 rfl (lv_at hl 0 rfl) ?_
  obtain ⟨v1, hv, hw⟩ := sv_bd hw
  refine sv_rgI hx hb hown hC.1 hR (fl_X2_findOverlap_75 hts hC hni) rfl (by decide) rfl rfl hv dX2_findOverlap_4 ?_
  refine lv_icmp_ge (tgt := 76) hx hb dX2_findOverlap_7 (by decide) (fun cc => ?_) (fun cc => ?_)
  · have hw := sv_ift cc hw
    exact lk_X2_findOverlap_76 K hw hR hS (lv_sub hl [] rfl)
  · have hw := sv_iff cc hw
    refine lv_aload_n hx hb dX2_findOverlap_10 rfl (lv_at hl 1 rfl) ?_
    obtain ⟨r2, h3, hv1, hw⟩ := sv_b_some hw
    refine sv_call (va_runV (As := []) (rest := []) ⟨hx, hb, hml, hown, hts⟩ (mt_X4_well l G B hv1) (cwV 0 hts (sv_gV wd_787 wd_788 wd_789 wd_133 wd_790) rfl rfl rfl (by decide +kernel) ⟨Nat.le_of_ble_eq_true rfl, Nat.le_of_ble_eq_true rfl⟩) ⟨sv_blind, sv_recv hC.1 hR (ci := 4) (sv_go hv1).1 (by decide) rfl, fun U hU hW => sv_pre hC hR hS hBs hU hW⟩ rfl rfl hl.1 rfl (lv_room (Nat.le_of_ble_eq_true rfl)) dX2_findOverlap_11 ⟨Nat.zero_le _, Nat.zero_le _⟩) hS (fun H locs hR hS => ?_)
    refine lv_if_eq (tgt := 76) hx hb dX2_findOverlap_14 (by decide) (fun cc => ?_) (fun cc => ?_)
    · have hw := sv_ift cc hw
      exact lk_X2_findOverlap_76 K hw hR hS (lv_sub hl [] rfl)
    · have hw := sv_iff cc hw
      refine lv_iconst (v := 0) hx hb dX2_findOverlap_17 (by decide) ?_
      refine lv_istore (lv' := [(4, .int 0), (0, .ref x0), (1, .ref x1), (2, .int x2), (3, .int x3)]) hx hb dX2_findOverlap_18 hl (by decide) rfl (fun ls hl => ?_)
      exact lk_X2_findOverlap_20 K hk2 sv_fuel hw hR hS (lv_sub hl [1, 2, 3, 4, 0] rfl)
theorem lk_X2_findOverlap_2 {p : Program} {l : Launch} {e : Env} {s : State} {m : MethodId} {args : Array Value} {below : List Frame} {meth : Method} {c : Code} {G : sv_G} {B : Nat} (K : sv_W p s m args meth c cX2_findOverlap RX2 5 none G B "findOverlap") {r : Unit} {hE : sv_H} : ∀ (n : Nat) {x0 : Nat} {x1 : Nat} {x2 : Int32} {x3 : Int32} {h : sv_H}, fn_X2_findOverlap_2 n x0 x1 x2 x3 h = some (r, hE) → ∀ {H : Heap} {locs : List Loc} {ls : Array Slot}, sv_R G vwCl sv_ft B h H → va_S (fun q => B ≤ q) s.heap H locs → lv_has ls 5 [(0, .ref x0), (1, .ref x1), (2, .int x2), (3, .int x3)] → W p l e rm_X2_findOverlap s m args below meth c H locs 0 0 (sv_Z below s args G B none hE) (F0 m 2 ls []) := by
  intro n
  induction n with
  | zero => intro x0 x1 x2 x3 h hw; cases (show (none : Option (Unit × sv_H)) = some (r, hE) from hw)
  | succ n ih => intro x0 x1 x2 x3 h hw H locs ls hR hS hl; exact lk_X2_findOverlap_2b K (fun hw => ih hw) hw hR hS hl
set_option maxHeartbeats 4000000 in
set_option maxRecDepth 100000 in
theorem lk_X2_findOverlap_0 {p : Program} {l : Launch} {e : Env} {s : State} {m : MethodId} {args : Array Value} {below : List Frame} {meth : Method} {c : Code} {G : sv_G} {B : Nat} (K : sv_W p s m args meth c cX2_findOverlap RX2 5 none G B "findOverlap") {r : Unit} {hE : sv_H} {x0 : Nat} {x1 : Nat} {x2 : Int32} {h : sv_H} (hw : fn_X2_findOverlap x0 x1 x2 h = some (r, hE)) {H : Heap} {locs : List Loc} {ls : Array Slot} (hR : sv_R G vwCl sv_ft B h H) (hS : va_S (fun q => B ≤ q) s.heap H locs) (hl : lv_has ls 5 [(0, .ref x0), (1, .ref x1), (2, .int x2)]) : W p l e rm_X2_findOverlap s m args below meth c H locs 0 0 (sv_Z below s args G B none hE) (F0 m 0 ls []) := by
  obtain ⟨hx, hb, hml, hown, hts, hC, hlk, hr, hBs, hni⟩ := id K
  unfold fn_X2_findOverlap at hw
  have hw := (sv_go hw).2
  refine lv_iconst (v := 1) hx hb dX2_findOverlap_0 (by decide) ?_
  refine lv_istore_n (lv' := [(3, .int 1), (0, .ref x0), (1, .ref x1), (2, .int x2)]) hx hb dX2_findOverlap_1 rfl hl (by decide) rfl (fun ls hl => ?_)
  exact lk_X2_findOverlap_2 K sv_fuel hw hR hS (lv_sub hl [1, 2, 3, 0] rfl)
set_option maxHeartbeats 4000000 in
set_option maxRecDepth 100000 in
theorem mt_X2_findOverlap (l : Launch) (G : sv_G) (B : Nat) {x0 : Nat} {x1 : Nat} {x2 : Int32} {h : sv_H} {r : Unit} {hE : sv_H} (hw : fn_X2_findOverlap x0 x1 x2 h = some (r, hE)) : Met l yX2_findOverlap (.code yX2_findOverlap cX2_findOverlap 5 none :: sv_tb) rm_X2_findOverlap (sv_Pc G B [.ref x0, .ref x1, .int x2] h) (sv_Q G B none hE) 0 0 (fun q => B ≤ q) := by
  refine Met.ofW (cc := cX2_findOverlap) (maxL := 5) (ret := none) (by decide +kernel) rfl ?_
  intro p e s m args below meth c s₁ Bd hml hv
  obtain ⟨rfl, hR, hC, hB⟩ := hv
  have hl := lv_entry ([.ref x0, .ref x1, .int x2]) (n := 5) (Nat.le_of_ble_eq_true rfl)
  rw [lg_entry_eq]
  generalize (lg_sl ([.ref x0, .ref x1, .int x2]) ++ List.replicate (5 - (lg_sl ([.ref x0, .ref x1, .int x2])).length) Slot.unset).toArray = ls at hl ⊢
  have hl : lv_has ls 5 [(0, .ref x0), (1, .ref x1), (2, .int x2)] := hl
  exact lk_X2_findOverlap_0 ⟨Bd.exec, Bd.bytes, hml, findClass_of_methodNamed Bd.named, fun w h => atoms_spec (ws := .code yX2_findOverlap cX2_findOverlap 5 none :: sv_tb) Bd.pre w (List.mem_cons_of_mem _ h), hC, Bd.notSynchronized, Bd.returns, hB, (name_of_methodNamed Bd.named Bd.method).1⟩ hw hR va_S.rf hl

def rm_X2_read : Room := { frames := 5, cells := 0, slots := 0, locals := 113 }
theorem fl_X2_read_21 {s : State} {meth : Method} {args : Array Value} {G : sv_G} {B : Nat} (hts : ∀ w ∈ sv_tb, w.before args s = true) (hC : sv_Cx G B s s.heap) (hni : meth.name = "read") : sv_FL s meth args vwCl RX2 21 2 1 (.object "SectorView$Start") false :=
  ⟨_, RX2, TX2, 13, sv_tb, tyX2, rfl, by decide, hts, uw_X2, Or.inl (hts _ wd_483), fun _ h => h, tyX2_ok 1 (by decide), tyX2_ok, nmX2, fun h => by cases h⟩
theorem fl_X2_read_72 {s : State} {meth : Method} {args : Array Value} {G : sv_G} {B : Nat} (hts : ∀ w ∈ sv_tb, w.before args s = true) (hC : sv_Cx G B s s.heap) (hni : meth.name = "read") : sv_FL s meth args vwCl RX2 72 2 11 .int true :=
  ⟨_, RX2, TX2, 13, sv_tb, tyX2, rfl, by decide, hts, uw_X2, Or.inl (hts _ wd_504), fun _ h => h, tyX2_ok 11 (by decide), tyX2_ok, nmX2, fun _ => Or.inl rfl⟩
theorem fl_X2_read_75 {s : State} {meth : Method} {args : Array Value} {G : sv_G} {B : Nat} (hts : ∀ w ∈ sv_tb, w.before args s = true) (hC : sv_Cx G B s s.heap) (hni : meth.name = "read") : sv_FL s meth args vwCl RX2 75 2 12 .int true :=
  ⟨_, RX2, TX2, 13, sv_tb, tyX2, rfl, by decide, hts, uw_X2, Or.inl (hts _ wd_507), fun _ h => h, tyX2_ok 12 (by decide), tyX2_ok, nmX2, fun _ => Or.inl rfl⟩
theorem fl_X2_read_49 {s : State} {meth : Method} {args : Array Value} {G : sv_G} {B : Nat} (hts : ∀ w ∈ sv_tb, w.before args s = true) (hC : sv_Cx G B s s.heap) (hni : meth.name = "read") : sv_FL s meth args vwCl RX2 49 2 8 (.array (.object "SectorView$Wall")) false :=
  ⟨_, RX2, TX2, 13, sv_tb, tyX2, rfl, by decide, hts, uw_X2, Or.inl (hts _ wd_494), fun _ h => h, tyX2_ok 8 (by decide), tyX2_ok, nmX2, fun h => by cases h⟩
theorem fl_X2_read_93 {s : State} {meth : Method} {args : Array Value} {G : sv_G} {B : Nat} (hts : ∀ w ∈ sv_tb, w.before args s = true) (hC : sv_Cx G B s s.heap) (hni : meth.name = "read") : sv_FL s meth args vwCl RX2 93 4 1 .int true :=
  ⟨_, RX4, TX4, 4, sv_tb, tyX4, rfl, by decide, hts, uw_X4, Or.inl (hts _ wd_193), fun _ h => h, tyX4_ok 1 (by decide), tyX4_ok, nmX4, fun _ => Or.inl rfl⟩
theorem fl_X2_read_43 {s : State} {meth : Method} {args : Array Value} {G : sv_G} {B : Nat} (hts : ∀ w ∈ sv_tb, w.before args s = true) (hC : sv_Cx G B s s.heap) (hni : meth.name = "read") : sv_FL s meth args vwCl RX2 43 2 7 (.array (.object "SectorView$Sector")) false :=
  ⟨_, RX2, TX2, 13, sv_tb, tyX2, rfl, by decide, hts, uw_X2, Or.inl (hts _ wd_490), fun _ h => h, tyX2_ok 7 (by decide), tyX2_ok, nmX2, fun h => by cases h⟩
theorem fl_X2_read_69 {s : State} {meth : Method} {args : Array Value} {G : sv_G} {B : Nat} (hts : ∀ w ∈ sv_tb, w.before args s = true) (hC : sv_Cx G B s s.heap) (hni : meth.name = "read") : sv_FL s meth args vwCl RX2 69 2 10 .int true :=
  ⟨_, RX2, TX2, 13, sv_tb, tyX2, rfl, by decide, hts, uw_X2, Or.inl (hts _ wd_502), fun _ h => h, tyX2_ok 10 (by decide), tyX2_ok, nmX2, fun _ => Or.inl rfl⟩
theorem fl_X2_read_65 {s : State} {meth : Method} {args : Array Value} {G : sv_G} {B : Nat} (hts : ∀ w ∈ sv_tb, w.before args s = true) (hC : sv_Cx G B s s.heap) (hni : meth.name = "read") : sv_FL s meth args vwCl RX2 65 2 9 .int true :=
  ⟨_, RX2, TX2, 13, sv_tb, tyX2, rfl, by decide, hts, uw_X2, Or.inl (hts _ wd_500), fun _ h => h, tyX2_ok 9 (by decide), tyX2_ok, nmX2, fun _ => Or.inl rfl⟩
set_option maxHeartbeats 4000000 in
set_option maxRecDepth 100000 in
theorem lk_X2_read_197 {p : Program} {l : Launch} {e : Env} {s : State} {m : MethodId} {args : Array Value} {below : List Frame} {meth : Method} {c : Code} {G : sv_G} {B : Nat} (K : sv_W p s m args meth c cX2_read RX2 4 none G B "read") {r : Unit} {hE : sv_H} {x0 : Nat} {x1 : Nat} {x2 : Int32} {h : sv_H} (hw : fn_X2_read_197 x0 x1 x2 h = some (r, hE)) {H : Heap} {locs : List Loc} {ls : Array Slot} (hR : sv_R G vwCl sv_ft B h H) (hS : va_S (fun q => B ≤ q) s.heap H locs) (hl : lv_has ls 4 [(0, .ref x0), (1, .ref x1), (2, .int x2)]) : W p l e rm_X2_read s m args below meth c H locs 0 0 (sv_Z below s args G B none hE) (F0 m 197 ls []) := by
  obtain ⟨hx, hb, hml, hown, hts, hC, hlk, hr, hBs, hni⟩ := id K
  unfold fn_X2_read_197 at hw
  refine lv_aload_n hx hb dX2_read_197 rfl (lv_at hl 1 rfl) ?_
  refine lv_aload_n hx hb dX2_read_198 rfl (lv_at hl 0 rfl) ?_
  obtain ⟨v1, hv, hw⟩ := sv_bd hw
  refine sv_rgP hx hb hown hC.1 hR (fl_X2_read_21 hts hC hni) rfl (by decide) rfl rfl hv dX2_read_199 ?_
  refine lv_aload_n hx hb dX2_read_202 rfl (lv_at hl 0 rfl) ?_
  obtain ⟨v2, hv, hw⟩ := sv_bd hw
  refine sv_rgI hx hb hown hC.1 hR (fl_X2_read_72 hts hC hni) rfl (by decide) rfl rfl hv dX2_read_203 ?_
  obtain ⟨_, h3, hv1, hw⟩ := sv_b_some hw
  refine sv_call (va_runV (As := [.ref v1, .int v2]) (rest := []) ⟨hx, hb, hml, hown, hts⟩ (mt_X4_readStart l G B hv1) (cwV 2 hts (sv_gV wd_822 wd_823 wd_824 wd_133 wd_825) rfl rfl rfl (by decide +kernel) ⟨Nat.le_of_ble_eq_true rfl, Nat.le_of_ble_eq_true rfl⟩) ⟨sv_blind, sv_recv hC.1 hR (ci := 4) (sv_go hv1).1 (by decide) rfl, fun U hU hW => sv_pre hC hR hS hBs hU hW⟩ rfl rfl hl.1 rfl (lv_room (Nat.le_of_ble_eq_true rfl)) dX2_read_206 ⟨Nat.zero_le _, Nat.zero_le _⟩) hS (fun H locs hR hS => ?_)
  refine lv_aload_n hx hb dX2_read_209 rfl (lv_at hl 0 rfl) ?_
  refine lv_aload_n hx hb dX2_read_210 rfl (lv_at hl 1 rfl) ?_
  obtain ⟨_, h4, hv2, hw⟩ := sv_b_some hw
  refine sv_call (va_runV (As := [.ref x1]) (rest := []) ⟨hx, hb, hml, hown, hts⟩ (mt_X2_readCheck l G B hv2) (cwV 1 hts (sv_gV wd_827 wd_829 wd_6 wd_136 wd_830) rfl rfl rfl (by decide +kernel) ⟨Nat.le_of_ble_eq_true rfl, Nat.le_of_ble_eq_true rfl⟩) ⟨sv_blind, sv_recv hC.1 hR (ci := 2) (sv_go hv2).1 (by decide) rfl, fun U hU hW => sv_pre hC hR hS hBs hU hW⟩ rfl rfl hl.1 rfl (lv_room (Nat.le_of_ble_eq_true rfl)) dX2_read_211 ⟨Nat.zero_le _, Nat.zero_le _⟩) hS (fun H locs hR hS => ?_)
  refine lv_aload_n hx hb dX2_read_214 rfl (lv_at hl 1 rfl) ?_
  refine lv_iconst (v := 5) hx hb dX2_read_215 (by decide) ?_
  obtain ⟨_, h5, hv3, hw⟩ := sv_b_some hw
  refine sv_call (va_runV (As := [.int 5]) (rest := []) ⟨hx, hb, hml, hown, hts⟩ (mt_X4_expectEnd l G B hv3) (cwV 1 hts (sv_gV wd_831 wd_832 wd_833 wd_133 wd_834) rfl rfl rfl (by decide +kernel) ⟨Nat.le_of_ble_eq_true rfl, Nat.le_of_ble_eq_true rfl⟩) ⟨sv_blind, sv_recv hC.1 hR (ci := 4) (sv_go hv3).1 (by decide) rfl, fun U hU hW => sv_pre hC hR hS hBs hU hW⟩ rfl rfl hl.1 rfl (lv_room (Nat.le_of_ble_eq_true rfl)) dX2_read_216 ⟨Nat.zero_le _, Nat.zero_le _⟩) hS (fun H locs hR hS => ?_)
  refine lv_aload_n hx hb dX2_read_219 rfl (lv_at hl 0 rfl) ?_
  refine lv_aload_n hx hb dX2_read_220 rfl (lv_at hl 1 rfl) ?_
  refine lv_iload_n hx hb dX2_read_221 rfl (lv_at hl 2 rfl) ?_
  obtain ⟨_, h6, hv4, hw⟩ := sv_b_some hw
  refine sv_call (va_runV (As := [.ref x1, .int x2]) (rest := []) ⟨hx, hb, hml, hown, hts⟩ (mt_X2_findOverlap l G B hv4) (cwV 2 hts (sv_gV wd_835 wd_837 wd_7 wd_136 wd_838) rfl rfl rfl (by decide +kernel) ⟨Nat.le_of_ble_eq_true rfl, Nat.le_of_ble_eq_true rfl⟩) ⟨sv_blind, sv_recv hC.1 hR (ci := 2) (sv_go hv4).1 (by decide) rfl, fun U hU hW => sv_pre hC hR hS hBs hU hW⟩ rfl rfl hl.1 rfl (lv_room (Nat.le_of_ble_eq_true rfl)) dX2_read_222 ⟨Nat.zero_le _, Nat.zero_le _⟩) hS (fun H locs hR hS => ?_)
  obtain ⟨rfl, rfl⟩ := sv_ret hw
  exact W.vret hx hb hr (fun t ht hW => ⟨⟨rfl, by rw [ht]; exact hR⟩, hS.F ht⟩) hS.2.2 dX2_read_225
set_option maxHeartbeats 4000000 in
set_option maxRecDepth 100000 in
theorem lk_X2_read_165b {p : Program} {l : Launch} {e : Env} {s : State} {m : MethodId} {args : Array Value} {below : List Frame} {meth : Method} {c : Code} {G : sv_G} {B : Nat} (K : sv_W p s m args meth c cX2_read RX2 4 none G B "read") {r : Unit} {hE : sv_H} {k165 : Nat → Nat → Int32 → Int32 → sv_H → Option (Unit × sv_H)} (hk165 : ∀ {x0 : Nat} {x1 : Nat} {x2 : Int32} {x3 : Int32} {h : sv_H}, k165 x0 x1 x2 x3 h = some (r, hE) → ∀ {H : Heap} {locs : List Loc} {ls : Array Slot}, sv_R G vwCl sv_ft B h H → va_S (fun q => B ≤ q) s.heap H locs → lv_has ls 4 [(0, .ref x0), (1, .ref x1), (2, .int x2), (3, .int x3)] → W p l e rm_X2_read s m args below meth c H locs 0 0 (sv_Z below s args G B none hE) (F0 m 165 ls [])) {x0 : Nat} {x1 : Nat} {x2 : Int32} {x3 : Int32} {h : sv_H} (hw : fn_X2_read_165b k165 x0 x1 x2 x3 h = some (r, hE)) {H : Heap} {locs : List Loc} {ls : Array Slot} (hR : sv_R G vwCl sv_ft B h H) (hS : va_S (fun q => B ≤ q) s.heap H locs) (hl : lv_has ls 4 [(0, .ref x0), (1, .ref x1), (2, .int x2), (3, .int x3)]) : W p l e rm_X2_read s m args below meth c H locs 0 0 (sv_Z below s args G B none hE) (F0 m 165 ls []) := by
  obtain ⟨hx, hb, hml, hown, hts, hC, hlk, hr, hBs, hni⟩ := id K
  unfold fn_X2_read_165b at hw
  refine lv_iload_n hx hb dX2_read_165 rfl (lv_at hl 3 rfl) ?_
  refine lv_aload_n hx hb dX2_read_166 rfl (lv_at hl 0 rfl) ?_
  obtain ⟨v1, hv, hw⟩ := sv_bd hw
  refine sv_rgI hx hb hown hC.1 hR (fl_X2_read_75 hts hC hni) rfl (by decide) rfl rfl hv dX2_read_167 ?_
  refine lv_icmp_ge (tgt := 197) hx hb dX2_read_170 (by decide) (fun cc => ?_) (fun cc => ?_)
  · have hw := sv_ift cc hw
    exact lk_X2_read_197 K hw hR hS (lv_sub hl [0, 1, 2] rfl)
  · have hw := sv_iff cc hw
    refine lv_aload_n hx hb dX2_read_173 rfl (lv_at hl 1 rfl) ?_
    obtain ⟨r2, h3, hv1, hw⟩ := sv_b_some hw
    refine sv_call (va_runV (As := []) (rest := []) ⟨hx, hb, hml, hown, hts⟩ (mt_X4_well l G B hv1) (cwV 0 hts (sv_gV wd_787 wd_788 wd_789 wd_133 wd_790) rfl rfl rfl (by decide +kernel) ⟨Nat.le_of_ble_eq_true rfl, Nat.le_of_ble_eq_true rfl⟩) ⟨sv_blind, sv_recv hC.1 hR (ci := 4) (sv_go hv1).1 (by decide) rfl, fun U hU hW => sv_pre hC hR hS hBs hU hW⟩ rfl rfl hl.1 rfl (lv_room (Nat.le_of_ble_eq_true rfl)) dX2_read_174 ⟨Nat.zero_le _, Nat.zero_le _⟩) hS (fun H locs hR hS => ?_)
    refine lv_if_eq (tgt := 197) hx hb dX2_read_177 (by decide) (fun cc => ?_) (fun cc => ?_)
    · have hw := sv_ift cc hw
      exact lk_X2_read_197 K hw hR hS (lv_sub hl [0, 1, 2] rfl)
    · have hw := sv_iff cc hw
      refine lv_aload_n hx hb dX2_read_180 rfl (lv_at hl 0 rfl) ?_
      refine lv_aload_n hx hb dX2_read_181 rfl (lv_at hl 1 rfl) ?_
      refine lv_aload_n hx hb dX2_read_182 rfl (lv_at hl 0 rfl) ?_
      obtain ⟨v4, hv, hw⟩ := sv_bd hw
      refine sv_rgP hx hb hown hC.1 hR (fl_X2_read_49 hts hC hni) rfl (by decide) rfl rfl hv dX2_read_183 ?_
      refine lv_iload_n hx hb dX2_read_186 rfl (lv_at hl 3 rfl) ?_
      obtain ⟨v5, hv, hw⟩ := sv_bd hw
      refine sv_rlP hx hb hC.1 (c1 := 922) (C := "SectorView$Wall") rfl (by decide) hR hv dX2_read_187 ?_
      obtain ⟨_, h6, hv2, hw⟩ := sv_b_some hw
      refine sv_call (va_runV (As := [.ref x1, .ref v5]) (rest := []) ⟨hx, hb, hml, hown, hts⟩ (mt_X2_readWall l G B hv2) (cwV 2 hts (sv_gV wd_818 wd_820 wd_5 wd_136 wd_821) rfl rfl rfl (by decide +kernel) ⟨Nat.le_of_ble_eq_true rfl, Nat.le_of_ble_eq_true rfl⟩) ⟨sv_blind, sv_recv hC.1 hR (ci := 2) (sv_go hv2).1 (by decide) rfl, fun U hU hW => sv_pre hC hR hS hBs hU hW⟩ rfl rfl hl.1 rfl (lv_room (Nat.le_of_ble_eq_true rfl)) dX2_read_188 ⟨Nat.zero_le _, Nat.zero_le _⟩) hS (fun H locs hR hS => ?_)
      refine lv_iinc (v := x3 + 1) (lv' := [(3, .int (x3 + 1)), (0, .ref x0), (1, .ref x1), (2, .int x2)]) hx hb dX2_read_191 hl (k := 3) rfl rfl (by decide) rfl (fun ls hl => ?_)
      refine lv_goto (tgt := 165) hx hb dX2_read_194 (by decide) ?_
      exact hk165 hw hR hS (lv_sub hl [1, 2, 3, 0] rfl)
theorem lk_X2_read_165 {p : Program} {l : Launch} {e : Env} {s : State} {m : MethodId} {args : Array Value} {below : List Frame} {meth : Method} {c : Code} {G : sv_G} {B : Nat} (K : sv_W p s m args meth c cX2_read RX2 4 none G B "read") {r : Unit} {hE : sv_H} : ∀ (n : Nat) {x0 : Nat} {x1 : Nat} {x2 : Int32} {x3 : Int32} {h : sv_H}, fn_X2_read_165 n x0 x1 x2 x3 h = some (r, hE) → ∀ {H : Heap} {locs : List Loc} {ls : Array Slot}, sv_R G vwCl sv_ft B h H → va_S (fun q => B ≤ q) s.heap H locs → lv_has ls 4 [(0, .ref x0), (1, .ref x1), (2, .int x2), (3, .int x3)] → W p l e rm_X2_read s m args below meth c H locs 0 0 (sv_Z below s args G B none hE) (F0 m 165 ls []) := by
  intro n
  induction n with
  | zero => intro x0 x1 x2 x3 h hw; cases (show (none : Option (Unit × sv_H)) = some (r, hE) from hw)
  | succ n ih => intro x0 x1 x2 x3 h hw H locs ls hR hS hl; exact lk_X2_read_165b K (fun hw => ih hw) hw hR hS hl
set_option maxHeartbeats 4000000 in
set_option maxRecDepth 100000 in
theorem lk_X2_read_158 {p : Program} {l : Launch} {e : Env} {s : State} {m : MethodId} {args : Array Value} {below : List Frame} {meth : Method} {c : Code} {G : sv_G} {B : Nat} (K : sv_W p s m args meth c cX2_read RX2 4 none G B "read") {r : Unit} {hE : sv_H} {x0 : Nat} {x1 : Nat} {h : sv_H} (hw : fn_X2_read_158 x0 x1 h = some (r, hE)) {H : Heap} {locs : List Loc} {ls : Array Slot} (hR : sv_R G vwCl sv_ft B h H) (hS : va_S (fun q => B ≤ q) s.heap H locs) (hl : lv_has ls 4 [(0, .ref x0), (1, .ref x1)]) : W p l e rm_X2_read s m args below meth c H locs 0 0 (sv_Z below s args G B none hE) (F0 m 158 ls []) := by
  obtain ⟨hx, hb, hml, hown, hts, hC, hlk, hr, hBs, hni⟩ := id K
  unfold fn_X2_read_158 at hw
  refine lv_aload_n hx hb dX2_read_158 rfl (lv_at hl 1 rfl) ?_
  obtain ⟨v1, hv, hw⟩ := sv_bd hw
  refine sv_rgI hx hb hown hC.1 hR (fl_X2_read_93 hts hC hni) rfl (by decide) rfl rfl hv dX2_read_159 ?_
  refine lv_istore_n (lv' := [(2, .int v1), (0, .ref x0), (1, .ref x1)]) hx hb dX2_read_162 rfl hl (by decide) rfl (fun ls hl => ?_)
  refine lv_iconst (v := 0) hx hb dX2_read_163 (by decide) ?_
  refine lv_istore_n (lv' := [(3, .int 0), (2, .int v1), (0, .ref x0), (1, .ref x1)]) hx hb dX2_read_164 rfl hl (by decide) rfl (fun ls hl => ?_)
  exact lk_X2_read_165 K sv_fuel hw hR hS (lv_sub hl [2, 3, 1, 0] rfl)
set_option maxHeartbeats 4000000 in
set_option maxRecDepth 100000 in
theorem lk_X2_read_126b {p : Program} {l : Launch} {e : Env} {s : State} {m : MethodId} {args : Array Value} {below : List Frame} {meth : Method} {c : Code} {G : sv_G} {B : Nat} (K : sv_W p s m args meth c cX2_read RX2 4 none G B "read") {r : Unit} {hE : sv_H} {k126 : Nat → Nat → Int32 → sv_H → Option (Unit × sv_H)} (hk126 : ∀ {x0 : Nat} {x1 : Nat} {x2 : Int32} {h : sv_H}, k126 x0 x1 x2 h = some (r, hE) → ∀ {H : Heap} {locs : List Loc} {ls : Array Slot}, sv_R G vwCl sv_ft B h H → va_S (fun q => B ≤ q) s.heap H locs → lv_has ls 4 [(0, .ref x0), (1, .ref x1), (2, .int x2)] → W p l e rm_X2_read s m args below meth c H locs 0 0 (sv_Z below s args G B none hE) (F0 m 126 ls [])) {x0 : Nat} {x1 : Nat} {x2 : Int32} {h : sv_H} (hw : fn_X2_read_126b k126 x0 x1 x2 h = some (r, hE)) {H : Heap} {locs : List Loc} {ls : Array Slot} (hR : sv_R G vwCl sv_ft B h H) (hS : va_S (fun q => B ≤ q) s.heap H locs) (hl : lv_has ls 4 [(0, .ref x0), (1, .ref x1), (2, .int x2)]) : W p l e rm_X2_read s m args below meth c H locs 0 0 (sv_Z below s args G B none hE) (F0 m 126 ls []) := by
  obtain ⟨hx, hb, hml, hown, hts, hC, hlk, hr, hBs, hni⟩ := id K
  unfold fn_X2_read_126b at hw
  refine lv_iload_n hx hb dX2_read_126 rfl (lv_at hl 2 rfl) ?_
  refine lv_aload_n hx hb dX2_read_127 rfl (lv_at hl 0 rfl) ?_
  obtain ⟨v1, hv, hw⟩ := sv_bd hw
  refine sv_rgI hx hb hown hC.1 hR (fl_X2_read_72 hts hC hni) rfl (by decide) rfl rfl hv dX2_read_128 ?_
  refine lv_icmp_ge (tgt := 158) hx hb dX2_read_131 (by decide) (fun cc => ?_) (fun cc => ?_)
  · have hw := sv_ift cc hw
    exact lk_X2_read_158 K hw hR hS (lv_sub hl [0, 1] rfl)
  · have hw := sv_iff cc hw
    refine lv_aload_n hx hb dX2_read_134 rfl (lv_at hl 1 rfl) ?_
    obtain ⟨r2, h3, hv1, hw⟩ := sv_b_some hw
    refine sv_call (va_runV (As := []) (rest := []) ⟨hx, hb, hml, hown, hts⟩ (mt_X4_well l G B hv1) (cwV 0 hts (sv_gV wd_787 wd_788 wd_789 wd_133 wd_790) rfl rfl rfl (by decide +kernel) ⟨Nat.le_of_ble_eq_true rfl, Nat.le_of_ble_eq_true rfl⟩) ⟨sv_blind, sv_recv hC.1 hR (ci := 4) (sv_go hv1).1 (by decide) rfl, fun U hU hW => sv_pre hC hR hS hBs hU hW⟩ rfl rfl hl.1 rfl (lv_room (Nat.le_of_ble_eq_true rfl)) dX2_read_135 ⟨Nat.zero_le _, Nat.zero_le _⟩) hS (fun H locs hR hS => ?_)
    refine lv_if_eq (tgt := 158) hx hb dX2_read_138 (by decide) (fun cc => ?_) (fun cc => ?_)
    · have hw := sv_ift cc hw
      exact lk_X2_read_158 K hw hR hS (lv_sub hl [0, 1] rfl)
    · have hw := sv_iff cc hw
      refine lv_aload_n hx hb dX2_read_141 rfl (lv_at hl 0 rfl) ?_
      refine lv_aload_n hx hb dX2_read_142 rfl (lv_at hl 1 rfl) ?_
      refine lv_aload_n hx hb dX2_read_143 rfl (lv_at hl 0 rfl) ?_
      obtain ⟨v4, hv, hw⟩ := sv_bd hw
      refine sv_rgP hx hb hown hC.1 hR (fl_X2_read_43 hts hC hni) rfl (by decide) rfl rfl hv dX2_read_144 ?_
      refine lv_iload_n hx hb dX2_read_147 rfl (lv_at hl 2 rfl) ?_
      obtain ⟨v5, hv, hw⟩ := sv_bd hw
      refine sv_rlP hx hb hC.1 (c1 := 917) (C := "SectorView$Sector") rfl (by decide) hR hv dX2_read_148 ?_
      obtain ⟨_, h6, hv2, hw⟩ := sv_b_some hw
      refine sv_call (va_runV (As := [.ref x1, .ref v5]) (rest := []) ⟨hx, hb, hml, hown, hts⟩ (mt_X2_readSector l G B hv2) (cwV 2 hts (sv_gV wd_804 wd_806 wd_4 wd_136 wd_807) rfl rfl rfl (by decide +kernel) ⟨Nat.le_of_ble_eq_true rfl, Nat.le_of_ble_eq_true rfl⟩) ⟨sv_blind, sv_recv hC.1 hR (ci := 2) (sv_go hv2).1 (by decide) rfl, fun U hU hW => sv_pre hC hR hS hBs hU hW⟩ rfl rfl hl.1 rfl (lv_room (Nat.le_of_ble_eq_true rfl)) dX2_read_149 ⟨Nat.zero_le _, Nat.zero_le _⟩) hS (fun H locs hR hS => ?_)
      refine lv_iinc (v := x2 + 1) (lv' := [(2, .int (x2 + 1)), (0, .ref x0), (1, .ref x1)]) hx hb dX2_read_152 hl (k := 2) rfl rfl (by decide) rfl (fun ls hl => ?_)
      refine lv_goto (tgt := 126) hx hb dX2_read_155 (by decide) ?_
      exact hk126 hw hR hS (lv_sub hl [1, 2, 0] rfl)
theorem lk_X2_read_126 {p : Program} {l : Launch} {e : Env} {s : State} {m : MethodId} {args : Array Value} {below : List Frame} {meth : Method} {c : Code} {G : sv_G} {B : Nat} (K : sv_W p s m args meth c cX2_read RX2 4 none G B "read") {r : Unit} {hE : sv_H} : ∀ (n : Nat) {x0 : Nat} {x1 : Nat} {x2 : Int32} {h : sv_H}, fn_X2_read_126 n x0 x1 x2 h = some (r, hE) → ∀ {H : Heap} {locs : List Loc} {ls : Array Slot}, sv_R G vwCl sv_ft B h H → va_S (fun q => B ≤ q) s.heap H locs → lv_has ls 4 [(0, .ref x0), (1, .ref x1), (2, .int x2)] → W p l e rm_X2_read s m args below meth c H locs 0 0 (sv_Z below s args G B none hE) (F0 m 126 ls []) := by
  intro n
  induction n with
  | zero => intro x0 x1 x2 h hw; cases (show (none : Option (Unit × sv_H)) = some (r, hE) from hw)
  | succ n ih => intro x0 x1 x2 h hw H locs ls hR hS hl; exact lk_X2_read_126b K (fun hw => ih hw) hw hR hS hl
set_option maxHeartbeats 4000000 in
set_option maxRecDepth 100000 in
theorem lk_X2_read_124 {p : Program} {l : Launch} {e : Env} {s : State} {m : MethodId} {args : Array Value} {below : List Frame} {meth : Method} {c : Code} {G : sv_G} {B : Nat} (K : sv_W p s m args meth c cX2_read RX2 4 none G B "read") {r : Unit} {hE : sv_H} {x0 : Nat} {x1 : Nat} {h : sv_H} (hw : fn_X2_read_124 x0 x1 h = some (r, hE)) {H : Heap} {locs : List Loc} {ls : Array Slot} (hR : sv_R G vwCl sv_ft B h H) (hS : va_S (fun q => B ≤ q) s.heap H locs) (hl : lv_has ls 4 [(0, .ref x0), (1, .ref x1)]) : W p l e rm_X2_read s m args below meth c H locs 0 0 (sv_Z below s args G B none hE) (F0 m 124 ls []) := by
  obtain ⟨hx, hb, hml, hown, hts, hC, hlk, hr, hBs, hni⟩ := id K
  unfold fn_X2_read_124 at hw
  refine lv_iconst (v := 0) hx hb dX2_read_124 (by decide) ?_
  refine lv_istore_n (lv' := [(2, .int 0), (0, .ref x0), (1, .ref x1)]) hx hb dX2_read_125 rfl hl (by decide) rfl (fun ls hl => ?_)
  exact lk_X2_read_126 K sv_fuel hw hR hS (lv_sub hl [1, 2, 0] rfl)
set_option maxHeartbeats 4000000 in
set_option maxRecDepth 100000 in
theorem lk_X2_read_97b {p : Program} {l : Launch} {e : Env} {s : State} {m : MethodId} {args : Array Value} {below : List Frame} {meth : Method} {c : Code} {G : sv_G} {B : Nat} (K : sv_W p s m args meth c cX2_read RX2 4 none G B "read") {r : Unit} {hE : sv_H} {k97 : Nat → Nat → Int32 → sv_H → Option (Unit × sv_H)} (hk97 : ∀ {x0 : Nat} {x1 : Nat} {x2 : Int32} {h : sv_H}, k97 x0 x1 x2 h = some (r, hE) → ∀ {H : Heap} {locs : List Loc} {ls : Array Slot}, sv_R G vwCl sv_ft B h H → va_S (fun q => B ≤ q) s.heap H locs → lv_has ls 4 [(0, .ref x0), (1, .ref x1), (2, .int x2)] → W p l e rm_X2_read s m args below meth c H locs 0 0 (sv_Z below s args G B none hE) (F0 m 97 ls [])) {x0 : Nat} {x1 : Nat} {x2 : Int32} {h : sv_H} (hw : fn_X2_read_97b k97 x0 x1 x2 h = some (r, hE)) {H : Heap} {locs : List Loc} {ls : Array Slot} (hR : sv_R G vwCl sv_ft B h H) (hS : va_S (fun q => B ≤ q) s.heap H locs) (hl : lv_has ls 4 [(0, .ref x0), (1, .ref x1), (2, .int x2)]) : W p l e rm_X2_read s m args below meth c H locs 0 0 (sv_Z below s args G B none hE) (F0 m 97 ls []) := by
  obtain ⟨hx, hb, hml, hown, hts, hC, hlk, hr, hBs, hni⟩ := id K
  unfold fn_X2_read_97b at hw
  refine lv_iload_n hx hb dX2_read_97 rfl (lv_at hl 2 rfl) ?_
  refine lv_aload_n hx hb dX2_read_98 rfl (lv_at hl 0 rfl) ?_
  obtain ⟨v1, hv, hw⟩ := sv_bd hw
  refine sv_rgI hx hb hown hC.1 hR (fl_X2_read_69 hts hC hni) rfl (by decide) rfl rfl hv dX2_read_99 ?_
  refine lv_icmp_ge (tgt := 124) hx hb dX2_read_102 (by decide) (fun cc => ?_) (fun cc => ?_)
  · have hw := sv_ift cc hw
    exact lk_X2_read_124 K hw hR hS (lv_sub hl [0, 1] rfl)
  · have hw := sv_iff cc hw
    refine lv_aload_n hx hb dX2_read_105 rfl (lv_at hl 1 rfl) ?_
    obtain ⟨r2, h3, hv1, hw⟩ := sv_b_some hw
    refine sv_call (va_runV (As := []) (rest := []) ⟨hx, hb, hml, hown, hts⟩ (mt_X4_well l G B hv1) (cwV 0 hts (sv_gV wd_787 wd_788 wd_789 wd_133 wd_790) rfl rfl rfl (by decide +kernel) ⟨Nat.le_of_ble_eq_true rfl, Nat.le_of_ble_eq_true rfl⟩) ⟨sv_blind, sv_recv hC.1 hR (ci := 4) (sv_go hv1).1 (by decide) rfl, fun U hU hW => sv_pre hC hR hS hBs hU hW⟩ rfl rfl hl.1 rfl (lv_room (Nat.le_of_ble_eq_true rfl)) dX2_read_106 ⟨Nat.zero_le _, Nat.zero_le _⟩) hS (fun H locs hR hS => ?_)
    refine lv_if_eq (tgt := 124) hx hb dX2_read_109 (by decide) (fun cc => ?_) (fun cc => ?_)
    · have hw := sv_ift cc hw
      exact lk_X2_read_124 K hw hR hS (lv_sub hl [0, 1] rfl)
    · have hw := sv_iff cc hw
      refine lv_aload_n hx hb dX2_read_112 rfl (lv_at hl 0 rfl) ?_
      refine lv_aload_n hx hb dX2_read_113 rfl (lv_at hl 1 rfl) ?_
      refine lv_iload_n hx hb dX2_read_114 rfl (lv_at hl 2 rfl) ?_
      obtain ⟨_, h4, hv2, hw⟩ := sv_b_some hw
      refine sv_call (va_runV (As := [.ref x1, .int x2]) (rest := []) ⟨hx, hb, hml, hown, hts⟩ (mt_X2_readTexture l G B hv2) (cwV 2 hts (sv_gV wd_800 wd_802 wd_3 wd_136 wd_803) rfl rfl rfl (by decide +kernel) ⟨Nat.le_of_ble_eq_true rfl, Nat.le_of_ble_eq_true rfl⟩) ⟨sv_blind, sv_recv hC.1 hR (ci := 2) (sv_go hv2).1 (by decide) rfl, fun U hU hW => sv_pre hC hR hS hBs hU hW⟩ rfl rfl hl.1 rfl (lv_room (Nat.le_of_ble_eq_true rfl)) dX2_read_115 ⟨Nat.zero_le _, Nat.zero_le _⟩) hS (fun H locs hR hS => ?_)
      refine lv_iinc (v := x2 + 1) (lv' := [(2, .int (x2 + 1)), (0, .ref x0), (1, .ref x1)]) hx hb dX2_read_118 hl (k := 2) rfl rfl (by decide) rfl (fun ls hl => ?_)
      refine lv_goto (tgt := 97) hx hb dX2_read_121 (by decide) ?_
      exact hk97 hw hR hS (lv_sub hl [1, 2, 0] rfl)
theorem lk_X2_read_97 {p : Program} {l : Launch} {e : Env} {s : State} {m : MethodId} {args : Array Value} {below : List Frame} {meth : Method} {c : Code} {G : sv_G} {B : Nat} (K : sv_W p s m args meth c cX2_read RX2 4 none G B "read") {r : Unit} {hE : sv_H} : ∀ (n : Nat) {x0 : Nat} {x1 : Nat} {x2 : Int32} {h : sv_H}, fn_X2_read_97 n x0 x1 x2 h = some (r, hE) → ∀ {H : Heap} {locs : List Loc} {ls : Array Slot}, sv_R G vwCl sv_ft B h H → va_S (fun q => B ≤ q) s.heap H locs → lv_has ls 4 [(0, .ref x0), (1, .ref x1), (2, .int x2)] → W p l e rm_X2_read s m args below meth c H locs 0 0 (sv_Z below s args G B none hE) (F0 m 97 ls []) := by
  intro n
  induction n with
  | zero => intro x0 x1 x2 h hw; cases (show (none : Option (Unit × sv_H)) = some (r, hE) from hw)
  | succ n ih => intro x0 x1 x2 h hw H locs ls hR hS hl; exact lk_X2_read_97b K (fun hw => ih hw) hw hR hS hl
set_option maxHeartbeats 4000000 in
set_option maxRecDepth 100000 in
theorem lk_X2_read_95 {p : Program} {l : Launch} {e : Env} {s : State} {m : MethodId} {args : Array Value} {below : List Frame} {meth : Method} {c : Code} {G : sv_G} {B : Nat} (K : sv_W p s m args meth c cX2_read RX2 4 none G B "read") {r : Unit} {hE : sv_H} {x0 : Nat} {x1 : Nat} {h : sv_H} (hw : fn_X2_read_95 x0 x1 h = some (r, hE)) {H : Heap} {locs : List Loc} {ls : Array Slot} (hR : sv_R G vwCl sv_ft B h H) (hS : va_S (fun q => B ≤ q) s.heap H locs) (hl : lv_has ls 4 [(0, .ref x0), (1, .ref x1)]) : W p l e rm_X2_read s m args below meth c H locs 0 0 (sv_Z below s args G B none hE) (F0 m 95 ls []) := by
  obtain ⟨hx, hb, hml, hown, hts, hC, hlk, hr, hBs, hni⟩ := id K
  unfold fn_X2_read_95 at hw
  refine lv_iconst (v := 0) hx hb dX2_read_95 (by decide) ?_
  refine lv_istore_n (lv' := [(2, .int 0), (0, .ref x0), (1, .ref x1)]) hx hb dX2_read_96 rfl hl (by decide) rfl (fun ls hl => ?_)
  exact lk_X2_read_97 K sv_fuel hw hR hS (lv_sub hl [1, 2, 0] rfl)
set_option maxHeartbeats 4000000 in
set_option maxRecDepth 100000 in
theorem lk_X2_read_68b {p : Program} {l : Launch} {e : Env} {s : State} {m : MethodId} {args : Array Value} {below : List Frame} {meth : Method} {c : Code} {G : sv_G} {B : Nat} (K : sv_W p s m args meth c cX2_read RX2 4 none G B "read") {r : Unit} {hE : sv_H} {k68 : Nat → Nat → Int32 → sv_H → Option (Unit × sv_H)} (hk68 : ∀ {x0 : Nat} {x1 : Nat} {x2 : Int32} {h : sv_H}, k68 x0 x1 x2 h = some (r, hE) → ∀ {H : Heap} {locs : List Loc} {ls : Array Slot}, sv_R G vwCl sv_ft B h H → va_S (fun q => B ≤ q) s.heap H locs → lv_has ls 4 [(0, .ref x0), (1, .ref x1), (2, .int x2)] → W p l e rm_X2_read s m args below meth c H locs 0 0 (sv_Z below s args G B none hE) (F0 m 68 ls [])) {x0 : Nat} {x1 : Nat} {x2 : Int32} {h : sv_H} (hw : fn_X2_read_68b k68 x0 x1 x2 h = some (r, hE)) {H : Heap} {locs : List Loc} {ls : Array Slot} (hR : sv_R G vwCl sv_ft B h H) (hS : va_S (fun q => B ≤ q) s.heap H locs) (hl : lv_has ls 4 [(0, .ref x0), (1, .ref x1), (2, .int x2)]) : W p l e rm_X2_read s m args below meth c H locs 0 0 (sv_Z below s args G B none hE) (F0 m 68 ls []) := by
  obtain ⟨hx, hb, hml, hown, hts, hC, hlk, hr, hBs, hni⟩ := id K
  unfold fn_X2_read_68b at hw
  refine lv_iload_n hx hb dX2_read_68 rfl (lv_at hl 2 rfl) ?_
  refine lv_aload_n hx hb dX2_read_69 rfl (lv_at hl 0 rfl) ?_
  obtain ⟨v1, hv, hw⟩ := sv_bd hw
  refine sv_rgI hx hb hown hC.1 hR (fl_X2_read_65 hts hC hni) rfl (by decide) rfl rfl hv dX2_read_70 ?_
  refine lv_icmp_ge (tgt := 95) hx hb dX2_read_73 (by decide) (fun cc => ?_) (fun cc => ?_)
  · have hw := sv_ift cc hw
    exact lk_X2_read_95 K hw hR hS (lv_sub hl [0, 1] rfl)
  · have hw := sv_iff cc hw
    refine lv_aload_n hx hb dX2_read_76 rfl (lv_at hl 1 rfl) ?_
    obtain ⟨r2, h3, hv1, hw⟩ := sv_b_some hw
    refine sv_call (va_runV (As := []) (rest := []) ⟨hx, hb, hml, hown, hts⟩ (mt_X4_well l G B hv1) (cwV 0 hts (sv_gV wd_787 wd_788 wd_789 wd_133 wd_790) rfl rfl rfl (by decide +kernel) ⟨Nat.le_of_ble_eq_true rfl, Nat.le_of_ble_eq_true rfl⟩) ⟨sv_blind, sv_recv hC.1 hR (ci := 4) (sv_go hv1).1 (by decide) rfl, fun U hU hW => sv_pre hC hR hS hBs hU hW⟩ rfl rfl hl.1 rfl (lv_room (Nat.le_of_ble_eq_true rfl)) dX2_read_77 ⟨Nat.zero_le _, Nat.zero_le _⟩) hS (fun H locs hR hS => ?_)
    refine lv_if_eq (tgt := 95) hx hb dX2_read_80 (by decide) (fun cc => ?_) (fun cc => ?_)
    · have hw := sv_ift cc hw
      exact lk_X2_read_95 K hw hR hS (lv_sub hl [0, 1] rfl)
    · have hw := sv_iff cc hw
      refine lv_aload_n hx hb dX2_read_83 rfl (lv_at hl 0 rfl) ?_
      refine lv_aload_n hx hb dX2_read_84 rfl (lv_at hl 1 rfl) ?_
      refine lv_iload_n hx hb dX2_read_85 rfl (lv_at hl 2 rfl) ?_
      obtain ⟨_, h4, hv2, hw⟩ := sv_b_some hw
      refine sv_call (va_runV (As := [.ref x1, .int x2]) (rest := []) ⟨hx, hb, hml, hown, hts⟩ (mt_X2_readVertex l G B hv2) (cwV 2 hts (sv_gV wd_791 wd_793 wd_2 wd_136 wd_794) rfl rfl rfl (by decide +kernel) ⟨Nat.le_of_ble_eq_true rfl, Nat.le_of_ble_eq_true rfl⟩) ⟨sv_blind, sv_recv hC.1 hR (ci := 2) (sv_go hv2).1 (by decide) rfl, fun U hU hW => sv_pre hC hR hS hBs hU hW⟩ rfl rfl hl.1 rfl (lv_room (Nat.le_of_ble_eq_true rfl)) dX2_read_86 ⟨Nat.zero_le _, Nat.zero_le _⟩) hS (fun H locs hR hS => ?_)
      refine lv_iinc (v := x2 + 1) (lv' := [(2, .int (x2 + 1)), (0, .ref x0), (1, .ref x1)]) hx hb dX2_read_89 hl (k := 2) rfl rfl (by decide) rfl (fun ls hl => ?_)
      refine lv_goto (tgt := 68) hx hb dX2_read_92 (by decide) ?_
      exact hk68 hw hR hS (lv_sub hl [1, 2, 0] rfl)
theorem lk_X2_read_68 {p : Program} {l : Launch} {e : Env} {s : State} {m : MethodId} {args : Array Value} {below : List Frame} {meth : Method} {c : Code} {G : sv_G} {B : Nat} (K : sv_W p s m args meth c cX2_read RX2 4 none G B "read") {r : Unit} {hE : sv_H} : ∀ (n : Nat) {x0 : Nat} {x1 : Nat} {x2 : Int32} {h : sv_H}, fn_X2_read_68 n x0 x1 x2 h = some (r, hE) → ∀ {H : Heap} {locs : List Loc} {ls : Array Slot}, sv_R G vwCl sv_ft B h H → va_S (fun q => B ≤ q) s.heap H locs → lv_has ls 4 [(0, .ref x0), (1, .ref x1), (2, .int x2)] → W p l e rm_X2_read s m args below meth c H locs 0 0 (sv_Z below s args G B none hE) (F0 m 68 ls []) := by
  intro n
  induction n with
  | zero => intro x0 x1 x2 h hw; cases (show (none : Option (Unit × sv_H)) = some (r, hE) from hw)
  | succ n ih => intro x0 x1 x2 h hw H locs ls hR hS hl; exact lk_X2_read_68b K (fun hw => ih hw) hw hR hS hl
set_option maxHeartbeats 4000000 in
set_option maxRecDepth 100000 in
theorem lk_X2_read_0 {p : Program} {l : Launch} {e : Env} {s : State} {m : MethodId} {args : Array Value} {below : List Frame} {meth : Method} {c : Code} {G : sv_G} {B : Nat} (K : sv_W p s m args meth c cX2_read RX2 4 none G B "read") {r : Unit} {hE : sv_H} {x0 : Nat} {x1 : Nat} {h : sv_H} (hw : fn_X2_read x0 x1 h = some (r, hE)) {H : Heap} {locs : List Loc} {ls : Array Slot} (hR : sv_R G vwCl sv_ft B h H) (hS : va_S (fun q => B ≤ q) s.heap H locs) (hl : lv_has ls 4 [(0, .ref x0), (1, .ref x1)]) : W p l e rm_X2_read s m args below meth c H locs 0 0 (sv_Z below s args G B none hE) (F0 m 0 ls []) := by
  obtain ⟨hx, hb, hml, hown, hts, hC, hlk, hr, hBs, hni⟩ := id K
  unfold fn_X2_read at hw
  have hw := (sv_go hw).2
  refine lv_aload_n hx hb dX2_read_0 rfl (lv_at hl 1 rfl) ?_
  refine lv_bipush (v := 77) hx hb dX2_read_1 (by decide) ?_
  refine lv_iconst (v := 2) hx hb dX2_read_3 (by decide) ?_
  obtain ⟨_, h1, hv1, hw⟩ := sv_b_some hw
  refine sv_call (va_runV (As := [.int 77, .int 2]) (rest := []) ⟨hx, hb, hml, hown, hts⟩ (mt_X4_expect l G B hv1) (cwV 2 hts (sv_gV wd_767 wd_768 wd_769 wd_133 wd_770) rfl rfl rfl (by decide +kernel) ⟨Nat.le_of_ble_eq_true rfl, Nat.le_of_ble_eq_true rfl⟩) ⟨sv_blind, sv_recv hC.1 hR (ci := 4) (sv_go hv1).1 (by decide) rfl, fun U hU hW => sv_pre hC hR hS hBs hU hW⟩ rfl rfl hl.1 rfl (lv_room (Nat.le_of_ble_eq_true rfl)) dX2_read_4 ⟨Nat.zero_le _, Nat.zero_le _⟩) hS (fun H locs hR hS => ?_)
  refine lv_aload_n hx hb dX2_read_7 rfl (lv_at hl 1 rfl) ?_
  refine lv_bipush (v := 72) hx hb dX2_read_8 (by decide) ?_
  refine lv_iconst (v := 2) hx hb dX2_read_10 (by decide) ?_
  obtain ⟨_, h2, hv2, hw⟩ := sv_b_some hw
  refine sv_call (va_runV (As := [.int 72, .int 2]) (rest := []) ⟨hx, hb, hml, hown, hts⟩ (mt_X4_expect l G B hv2) (cwV 2 hts (sv_gV wd_767 wd_768 wd_769 wd_133 wd_770) rfl rfl rfl (by decide +kernel) ⟨Nat.le_of_ble_eq_true rfl, Nat.le_of_ble_eq_true rfl⟩) ⟨sv_blind, sv_recv hC.1 hR (ci := 4) (sv_go hv2).1 (by decide) rfl, fun U hU hW => sv_pre hC hR hS hBs hU hW⟩ rfl rfl hl.1 rfl (lv_room (Nat.le_of_ble_eq_true rfl)) dX2_read_11 ⟨Nat.zero_le _, Nat.zero_le _⟩) hS (fun H locs hR hS => ?_)
  refine lv_aload_n hx hb dX2_read_14 rfl (lv_at hl 1 rfl) ?_
  refine lv_iconst (v := 1) hx hb dX2_read_15 (by decide) ?_
  refine lv_iconst (v := 2) hx hb dX2_read_16 (by decide) ?_
  obtain ⟨_, h3, hv3, hw⟩ := sv_b_some hw
  refine sv_call (va_runV (As := [.int 1, .int 2]) (rest := []) ⟨hx, hb, hml, hown, hts⟩ (mt_X4_expect l G B hv3) (cwV 2 hts (sv_gV wd_767 wd_768 wd_769 wd_133 wd_770) rfl rfl rfl (by decide +kernel) ⟨Nat.le_of_ble_eq_true rfl, Nat.le_of_ble_eq_true rfl⟩) ⟨sv_blind, sv_recv hC.1 hR (ci := 4) (sv_go hv3).1 (by decide) rfl, fun U hU hW => sv_pre hC hR hS hBs hU hW⟩ rfl rfl hl.1 rfl (lv_room (Nat.le_of_ble_eq_true rfl)) dX2_read_17 ⟨Nat.zero_le _, Nat.zero_le _⟩) hS (fun H locs hR hS => ?_)
  refine lv_aload_n hx hb dX2_read_20 rfl (lv_at hl 0 rfl) ?_
  refine lv_aload_n hx hb dX2_read_21 rfl (lv_at hl 1 rfl) ?_
  refine lv_iconst (v := 0) hx hb dX2_read_22 (by decide) ?_
  refine lv_sipush (v := 128) hx hb dX2_read_23 (by decide) ?_
  obtain ⟨r4, h5, hv4, hw⟩ := sv_b_some hw
  refine sv_call (va_runV (As := [.int 0, .int 128]) (rest := [.ref x0]) ⟨hx, hb, hml, hown, hts⟩ (mt_X4_within l G B hv4) (cwV 2 hts (sv_gV wd_779 wd_780 wd_781 wd_133 wd_782) rfl rfl rfl (by decide +kernel) ⟨Nat.le_of_ble_eq_true rfl, Nat.le_of_ble_eq_true rfl⟩) ⟨sv_blind, sv_recv hC.1 hR (ci := 4) (sv_go hv4).1 (by decide) rfl, fun U hU hW => sv_pre hC hR hS hBs hU hW⟩ rfl rfl hl.1 rfl (lv_room (Nat.le_of_ble_eq_true rfl)) dX2_read_26 ⟨Nat.zero_le _, Nat.zero_le _⟩) hS (fun H locs hR hS => ?_)
  obtain ⟨h6, hv, hw⟩ := sv_bd hw
  refine sv_rpI hx hb hown hC.1 hR hS (fl_X2_read_65 hts hC hni) rfl (by decide) rfl rfl hv dX2_read_29 (fun H locs hR hS => ?_)
  refine lv_aload_n hx hb dX2_read_32 rfl (lv_at hl 0 rfl) ?_
  refine lv_aload_n hx hb dX2_read_33 rfl (lv_at hl 1 rfl) ?_
  refine lv_iconst (v := 0) hx hb dX2_read_34 (by decide) ?_
  refine lv_bipush (v := 16) hx hb dX2_read_35 (by decide) ?_
  obtain ⟨r7, h8, hv5, hw⟩ := sv_b_some hw
  refine sv_call (va_runV (As := [.int 0, .int 16]) (rest := [.ref x0]) ⟨hx, hb, hml, hown, hts⟩ (mt_X4_within l G B hv5) (cwV 2 hts (sv_gV wd_779 wd_780 wd_781 wd_133 wd_782) rfl rfl rfl (by decide +kernel) ⟨Nat.le_of_ble_eq_true rfl, Nat.le_of_ble_eq_true rfl⟩) ⟨sv_blind, sv_recv hC.1 hR (ci := 4) (sv_go hv5).1 (by decide) rfl, fun U hU hW => sv_pre hC hR hS hBs hU hW⟩ rfl rfl hl.1 rfl (lv_room (Nat.le_of_ble_eq_true rfl)) dX2_read_37 ⟨Nat.zero_le _, Nat.zero_le _⟩) hS (fun H locs hR hS => ?_)
  obtain ⟨h9, hv, hw⟩ := sv_bd hw
  refine sv_rpI hx hb hown hC.1 hR hS (fl_X2_read_69 hts hC hni) rfl (by decide) rfl rfl hv dX2_read_40 (fun H locs hR hS => ?_)
  refine lv_aload_n hx hb dX2_read_43 rfl (lv_at hl 0 rfl) ?_
  refine lv_aload_n hx hb dX2_read_44 rfl (lv_at hl 1 rfl) ?_
  refine lv_iconst (v := 1) hx hb dX2_read_45 (by decide) ?_
  refine lv_bipush (v := 32) hx hb dX2_read_46 (by decide) ?_
  obtain ⟨r10, h11, hv6, hw⟩ := sv_b_some hw
  refine sv_call (va_runV (As := [.int 1, .int 32]) (rest := [.ref x0]) ⟨hx, hb, hml, hown, hts⟩ (mt_X4_within l G B hv6) (cwV 2 hts (sv_gV wd_779 wd_780 wd_781 wd_133 wd_782) rfl rfl rfl (by decide +kernel) ⟨Nat.le_of_ble_eq_true rfl, Nat.le_of_ble_eq_true rfl⟩) ⟨sv_blind, sv_recv hC.1 hR (ci := 4) (sv_go hv6).1 (by decide) rfl, fun U hU hW => sv_pre hC hR hS hBs hU hW⟩ rfl rfl hl.1 rfl (lv_room (Nat.le_of_ble_eq_true rfl)) dX2_read_48 ⟨Nat.zero_le _, Nat.zero_le _⟩) hS (fun H locs hR hS => ?_)
  obtain ⟨h12, hv, hw⟩ := sv_bd hw
  refine sv_rpI hx hb hown hC.1 hR hS (fl_X2_read_72 hts hC hni) rfl (by decide) rfl rfl hv dX2_read_51 (fun H locs hR hS => ?_)
  refine lv_aload_n hx hb dX2_read_54 rfl (lv_at hl 0 rfl) ?_
  refine lv_aload_n hx hb dX2_read_55 rfl (lv_at hl 1 rfl) ?_
  refine lv_iconst (v := 0) hx hb dX2_read_56 (by decide) ?_
  refine lv_sipush (v := 128) hx hb dX2_read_57 (by decide) ?_
  obtain ⟨r13, h14, hv7, hw⟩ := sv_b_some hw
  refine sv_call (va_runV (As := [.int 0, .int 128]) (rest := [.ref x0]) ⟨hx, hb, hml, hown, hts⟩ (mt_X4_within l G B hv7) (cwV 2 hts (sv_gV wd_779 wd_780 wd_781 wd_133 wd_782) rfl rfl rfl (by decide +kernel) ⟨Nat.le_of_ble_eq_true rfl, Nat.le_of_ble_eq_true rfl⟩) ⟨sv_blind, sv_recv hC.1 hR (ci := 4) (sv_go hv7).1 (by decide) rfl, fun U hU hW => sv_pre hC hR hS hBs hU hW⟩ rfl rfl hl.1 rfl (lv_room (Nat.le_of_ble_eq_true rfl)) dX2_read_60 ⟨Nat.zero_le _, Nat.zero_le _⟩) hS (fun H locs hR hS => ?_)
  obtain ⟨h15, hv, hw⟩ := sv_bd hw
  refine sv_rpI hx hb hown hC.1 hR hS (fl_X2_read_75 hts hC hni) rfl (by decide) rfl rfl hv dX2_read_63 (fun H locs hR hS => ?_)
  refine lv_iconst (v := 0) hx hb dX2_read_66 (by decide) ?_
  refine lv_istore_n (lv' := [(2, .int 0), (0, .ref x0), (1, .ref x1)]) hx hb dX2_read_67 rfl hl (by decide) rfl (fun ls hl => ?_)
  exact lk_X2_read_68 K sv_fuel hw hR hS (lv_sub hl [1, 2, 0] rfl)
set_option maxHeartbeats 4000000 in
set_option maxRecDepth 100000 in
theorem mt_X2_read (l : Launch) (G : sv_G) (B : Nat) {x0 : Nat} {x1 : Nat} {h : sv_H} {r : Unit} {hE : sv_H} (hw : fn_X2_read x0 x1 h = some (r, hE)) : Met l yX2_read (.code yX2_read cX2_read 4 none :: sv_tb) rm_X2_read (sv_Pc G B [.ref x0, .ref x1] h) (sv_Q G B none hE) 0 0 (fun q => B ≤ q) := by
  refine Met.ofW (cc := cX2_read) (maxL := 4) (ret := none) (by decide +kernel) rfl ?_
  intro p e s m args below meth c s₁ Bd hml hv
  obtain ⟨rfl, hR, hC, hB⟩ := hv
  have hl := lv_entry ([.ref x0, .ref x1]) (n := 4) (Nat.le_of_ble_eq_true rfl)
  rw [lg_entry_eq]
  generalize (lg_sl ([.ref x0, .ref x1]) ++ List.replicate (4 - (lg_sl ([.ref x0, .ref x1])).length) Slot.unset).toArray = ls at hl ⊢
  have hl : lv_has ls 4 [(0, .ref x0), (1, .ref x1)] := hl
  exact lk_X2_read_0 ⟨Bd.exec, Bd.bytes, hml, findClass_of_methodNamed Bd.named, fun w h => atoms_spec (ws := .code yX2_read cX2_read 4 none :: sv_tb) Bd.pre w (List.mem_cons_of_mem _ h), hC, Bd.notSynchronized, Bd.returns, hB, (name_of_methodNamed Bd.named Bd.method).1⟩ hw hR va_S.rf hl

def rm_X12_swapPlans : Room := { frames := 0, cells := 0, slots := 0, locals := 0 }
theorem fl_X12_swapPlans_38 {s : State} {meth : Method} {args : Array Value} {G : sv_G} {B : Nat} (hts : ∀ w ∈ sv_tb, w.before args s = true) (hC : sv_Cx G B s s.heap) (hni : meth.name = "swapPlans") : sv_FL s meth args vwCl RX12 38 12 6 (.object "SectorView$Plan") true :=
  ⟨_, RX12, TX12, 11, sv_tb, tyX12, rfl, by decide, hts, uw_X12, Or.inl (hts _ wd_691), fun _ h => h, tyX12_ok 6 (by decide), tyX12_ok, nmX12, fun _ => Or.inl rfl⟩
theorem fl_X12_swapPlans_42 {s : State} {meth : Method} {args : Array Value} {G : sv_G} {B : Nat} (hts : ∀ w ∈ sv_tb, w.before args s = true) (hC : sv_Cx G B s s.heap) (hni : meth.name = "swapPlans") : sv_FL s meth args vwCl RX12 42 12 7 (.object "SectorView$Plan") true :=
  ⟨_, RX12, TX12, 11, sv_tb, tyX12, rfl, by decide, hts, uw_X12, Or.inl (hts _ wd_692), fun _ h => h, tyX12_ok 7 (by decide), tyX12_ok, nmX12, fun _ => Or.inl rfl⟩
set_option maxHeartbeats 4000000 in
set_option maxRecDepth 100000 in
theorem lk_X12_swapPlans_0 {p : Program} {l : Launch} {e : Env} {s : State} {m : MethodId} {args : Array Value} {below : List Frame} {meth : Method} {c : Code} {G : sv_G} {B : Nat} (K : sv_W p s m args meth c cX12_swapPlans RX12 2 none G B "swapPlans") {r : Unit} {hE : sv_H} {x0 : Nat} {h : sv_H} (hw : fn_X12_swapPlans x0 h = some (r, hE)) {H : Heap} {locs : List Loc} {ls : Array Slot} (hR : sv_R G vwCl sv_ft B h H) (hS : va_S (fun q => B ≤ q) s.heap H locs) (hl : lv_has ls 2 [(0, .ref x0)]) : W p l e rm_X12_swapPlans s m args below meth c H locs 0 0 (sv_Z below s args G B none hE) (F0 m 0 ls []) := by
  obtain ⟨hx, hb, hml, hown, hts, hC, hlk, hr, hBs, hni⟩ := id K
  unfold fn_X12_swapPlans at hw
  have hw := (sv_go hw).2
  refine lv_aload_n hx hb dX12_swapPlans_0 rfl (lv_at hl 0 rfl) ?_
  obtain ⟨v1, hv, hw⟩ := sv_bd hw
  refine sv_rgP hx hb hown hC.1 hR (fl_X12_swapPlans_38 hts hC hni) rfl (by decide) rfl rfl hv dX12_swapPlans_1 ?_
  refine lv_astore_n (lv' := [(1, .ref v1), (0, .ref x0)]) hx hb dX12_swapPlans_4 rfl hl (by decide) rfl (fun ls hl => ?_)
  refine lv_aload_n hx hb dX12_swapPlans_5 rfl (lv_at hl 1 rfl) ?_
  refine lv_aload_n hx hb dX12_swapPlans_6 rfl (lv_at hl 1 rfl) ?_
  obtain ⟨v2, hv, hw⟩ := sv_bd hw
  refine sv_rgP hx hb hown hC.1 hR (fl_X12_swapPlans_42 hts hC hni) rfl (by decide) rfl rfl hv dX12_swapPlans_7 ?_
  obtain ⟨h3, hv, hw⟩ := sv_bd hw
  refine sv_rpP hx hb hown hC.1 hR hS (fl_X12_swapPlans_38 hts hC hni) (fun _ => rfl) (fun _ => rfl) rfl (by decide) rfl rfl hv dX12_swapPlans_10 (fun H locs hR hS => ?_)
  refine lv_aload_n hx hb dX12_swapPlans_13 rfl (lv_at hl 1 rfl) ?_
  refine lv_aload_n hx hb dX12_swapPlans_14 rfl (lv_at hl 0 rfl) ?_
  obtain ⟨h4, hv, hw⟩ := sv_bd hw
  refine sv_rpP hx hb hown hC.1 hR hS (fl_X12_swapPlans_42 hts hC hni) (fun _ => rfl) (fun _ => rfl) rfl (by decide) rfl rfl hv dX12_swapPlans_15 (fun H locs hR hS => ?_)
  obtain ⟨rfl, rfl⟩ := sv_ret hw
  exact W.vret hx hb hr (fun t ht hW => ⟨⟨rfl, by rw [ht]; exact hR⟩, hS.F ht⟩) hS.2.2 dX12_swapPlans_18
set_option maxHeartbeats 4000000 in
set_option maxRecDepth 100000 in
theorem mt_X12_swapPlans (l : Launch) (G : sv_G) (B : Nat) {x0 : Nat} {h : sv_H} {r : Unit} {hE : sv_H} (hw : fn_X12_swapPlans x0 h = some (r, hE)) : Met l yX12_swapPlans (.code yX12_swapPlans cX12_swapPlans 2 none :: sv_tb) rm_X12_swapPlans (sv_Pc G B [.ref x0] h) (sv_Q G B none hE) 0 0 (fun q => B ≤ q) := by
  refine Met.ofW (cc := cX12_swapPlans) (maxL := 2) (ret := none) (by decide +kernel) rfl ?_
  intro p e s m args below meth c s₁ Bd hml hv
  obtain ⟨rfl, hR, hC, hB⟩ := hv
  have hl := lv_entry ([.ref x0]) (n := 2) (Nat.le_of_ble_eq_true rfl)
  rw [lg_entry_eq]
  generalize (lg_sl ([.ref x0]) ++ List.replicate (2 - (lg_sl ([.ref x0])).length) Slot.unset).toArray = ls at hl ⊢
  have hl : lv_has ls 2 [(0, .ref x0)] := hl
  exact lk_X12_swapPlans_0 ⟨Bd.exec, Bd.bytes, hml, findClass_of_methodNamed Bd.named, fun w h => atoms_spec (ws := .code yX12_swapPlans cX12_swapPlans 2 none :: sv_tb) Bd.pre w (List.mem_cons_of_mem _ h), hC, Bd.notSynchronized, Bd.returns, hB, (name_of_methodNamed Bd.named Bd.method).1⟩ hw hR va_S.rf hl

def rm_X8_open : Room := { frames := 0, cells := 0, slots := 0, locals := 0 }
theorem fl_X8_open_57 {s : State} {meth : Method} {args : Array Value} {G : sv_G} {B : Nat} (hts : ∀ w ∈ sv_tb, w.before args s = true) (hC : sv_Cx G B s s.heap) (hni : meth.name = "open") : sv_FL s meth args vwCl RX8 57 8 10 .int true :=
  ⟨_, RX8, TX8, 18, sv_tb, tyX8, rfl, by decide, hts, uw_X8, Or.inl (hts _ wd_261), fun _ h => h, tyX8_ok 10 (by decide), tyX8_ok, nmX8, fun _ => Or.inl rfl⟩
theorem fl_X8_open_37 {s : State} {meth : Method} {args : Array Value} {G : sv_G} {B : Nat} (hts : ∀ w ∈ sv_tb, w.before args s = true) (hC : sv_Cx G B s s.heap) (hni : meth.name = "open") : sv_FL s meth args vwCl RX8 37 8 7 (.array .int) false :=
  ⟨_, RX8, TX8, 18, sv_tb, tyX8, rfl, by decide, hts, uw_X8, Or.inl (hts _ wd_258), fun _ h => h, tyX8_ok 7 (by decide), tyX8_ok, nmX8, fun h => by cases h⟩
theorem fl_X8_open_40 {s : State} {meth : Method} {args : Array Value} {G : sv_G} {B : Nat} (hts : ∀ w ∈ sv_tb, w.before args s = true) (hC : sv_Cx G B s s.heap) (hni : meth.name = "open") : sv_FL s meth args vwCl RX8 40 8 8 (.array .int) false :=
  ⟨_, RX8, TX8, 18, sv_tb, tyX8, rfl, by decide, hts, uw_X8, Or.inl (hts _ wd_259), fun _ h => h, tyX8_ok 8 (by decide), tyX8_ok, nmX8, fun h => by cases h⟩
theorem fl_X8_open_43 {s : State} {meth : Method} {args : Array Value} {G : sv_G} {B : Nat} (hts : ∀ w ∈ sv_tb, w.before args s = true) (hC : sv_Cx G B s s.heap) (hni : meth.name = "open") : sv_FL s meth args vwCl RX8 43 8 9 (.array .boolean) false :=
  ⟨_, RX8, TX8, 18, sv_tb, tyX8, rfl, by decide, hts, uw_X8, Or.inl (hts _ wd_260), fun _ h => h, tyX8_ok 9 (by decide), tyX8_ok, nmX8, fun h => by cases h⟩
set_option maxHeartbeats 4000000 in
set_option maxRecDepth 100000 in
theorem lk_X8_open_50 {p : Program} {l : Launch} {e : Env} {s : State} {m : MethodId} {args : Array Value} {below : List Frame} {meth : Method} {c : Code} {G : sv_G} {B : Nat} (K : sv_W p s m args meth c cX8_open RX8 4 none G B "open") {r : Unit} {hE : sv_H} {h : sv_H} (hw : fn_X8_open_50 h = some (r, hE)) {H : Heap} {locs : List Loc} {ls : Array Slot} (hR : sv_R G vwCl sv_ft B h H) (hS : va_S (fun q => B ≤ q) s.heap H locs) (hl : lv_has ls 4 []) : W p l e rm_X8_open s m args below meth c H locs 0 0 (sv_Z below s args G B none hE) (F0 m 50 ls []) := by
  obtain ⟨hx, hb, hml, hown, hts, hC, hlk, hr, hBs, hni⟩ := id K
  unfold fn_X8_open_50 at hw
  obtain ⟨rfl, rfl⟩ := sv_ret hw
  exact W.vret hx hb hr (fun t ht hW => ⟨⟨rfl, by rw [ht]; exact hR⟩, hS.F ht⟩) hS.2.2 dX8_open_50
set_option maxHeartbeats 4000000 in
set_option maxRecDepth 100000 in
theorem lk_X8_open_0 {p : Program} {l : Launch} {e : Env} {s : State} {m : MethodId} {args : Array Value} {below : List Frame} {meth : Method} {c : Code} {G : sv_G} {B : Nat} (K : sv_W p s m args meth c cX8_open RX8 4 none G B "open") {r : Unit} {hE : sv_H} {x0 : Nat} {x1 : Int32} {x2 : Int32} {x3 : Int32} {h : sv_H} (hw : fn_X8_open x0 x1 x2 x3 h = some (r, hE)) {H : Heap} {locs : List Loc} {ls : Array Slot} (hR : sv_R G vwCl sv_ft B h H) (hS : va_S (fun q => B ≤ q) s.heap H locs) (hl : lv_has ls 4 [(0, .ref x0), (1, .int x1), (2, .int x2), (3, .int x3)]) : W p l e rm_X8_open s m args below meth c H locs 0 0 (sv_Z below s args G B none hE) (F0 m 0 ls []) := by
  obtain ⟨hx, hb, hml, hown, hts, hC, hlk, hr, hBs, hni⟩ := id K
  unfold fn_X8_open at hw
  have hw := (sv_go hw).2
  refine lv_aload_n hx hb dX8_open_0 rfl (lv_at hl 0 rfl) ?_
  obtain ⟨v1, hv, hw⟩ := sv_bd hw
  refine sv_rgI hx hb hown hC.1 hR (fl_X8_open_57 hts hC hni) rfl (by decide) rfl rfl hv dX8_open_1 ?_
  refine lv_sipush (v := 130) hx hb dX8_open_4 (by decide) ?_
  refine lv_icmp_ge (tgt := 50) hx hb dX8_open_7 (by decide) (fun cc => ?_) (fun cc => ?_)
  · have hw := sv_ift cc hw
    exact lk_X8_open_50 K hw hR hS (lv_sub hl [] rfl)
  · have hw := sv_iff cc hw
    refine lv_aload_n hx hb dX8_open_10 rfl (lv_at hl 0 rfl) ?_
    obtain ⟨v2, hv, hw⟩ := sv_bd hw
    refine sv_rgP hx hb hown hC.1 hR (fl_X8_open_37 hts hC hni) rfl (by decide) rfl rfl hv dX8_open_11 ?_
    refine lv_aload_n hx hb dX8_open_14 rfl (lv_at hl 0 rfl) ?_
    obtain ⟨v3, hv, hw⟩ := sv_bd hw
    refine sv_rgI hx hb hown hC.1 hR (fl_X8_open_57 hts hC hni) rfl (by decide) rfl rfl hv dX8_open_15 ?_
    refine lv_iload_n hx hb dX8_open_18 rfl (lv_at hl 1 rfl) ?_
    obtain ⟨h4, hv, hw⟩ := sv_bd hw
    refine sv_rsI hx hb hC.1 rfl hR hS hv dX8_open_19 (fun H locs hR hS => ?_)
    refine lv_aload_n hx hb dX8_open_20 rfl (lv_at hl 0 rfl) ?_
    obtain ⟨v5, hv, hw⟩ := sv_bd hw
    refine sv_rgP hx hb hown hC.1 hR (fl_X8_open_40 hts hC hni) rfl (by decide) rfl rfl hv dX8_open_21 ?_
    refine lv_aload_n hx hb dX8_open_24 rfl (lv_at hl 0 rfl) ?_
    obtain ⟨v6, hv, hw⟩ := sv_bd hw
    refine sv_rgI hx hb hown hC.1 hR (fl_X8_open_57 hts hC hni) rfl (by decide) rfl rfl hv dX8_open_25 ?_
    refine lv_iload_n hx hb dX8_open_28 rfl (lv_at hl 2 rfl) ?_
    obtain ⟨h7, hv, hw⟩ := sv_bd hw
    refine sv_rsI hx hb hC.1 rfl hR hS hv dX8_open_29 (fun H locs hR hS => ?_)
    refine lv_aload_n hx hb dX8_open_30 rfl (lv_at hl 0 rfl) ?_
    obtain ⟨v8, hv, hw⟩ := sv_bd hw
    refine sv_rgP hx hb hown hC.1 hR (fl_X8_open_43 hts hC hni) rfl (by decide) rfl rfl hv dX8_open_31 ?_
    refine lv_aload_n hx hb dX8_open_34 rfl (lv_at hl 0 rfl) ?_
    obtain ⟨v9, hv, hw⟩ := sv_bd hw
    refine sv_rgI hx hb hown hC.1 hR (fl_X8_open_57 hts hC hni) rfl (by decide) rfl rfl hv dX8_open_35 ?_
    refine lv_iload_n hx hb dX8_open_38 rfl (lv_at hl 3 rfl) ?_
    obtain ⟨h10, hv, hw⟩ := sv_bd hw
    refine sv_rsZ hx hb hC.1 rfl hR hS hv dX8_open_39 (fun H locs hR hS => ?_)
    refine lv_aload_n hx hb dX8_open_40 rfl (lv_at hl 0 rfl) ?_
    refine lv_dup hx hb dX8_open_41 rfl ?_
    obtain ⟨v11, hv, hw⟩ := sv_bd hw
    refine sv_rgI hx hb hown hC.1 hR (fl_X8_open_57 hts hC hni) rfl (by decide) rfl rfl hv dX8_open_42 ?_
    refine lv_iconst (v := 1) hx hb dX8_open_45 (by decide) ?_
    refine lv_iadd hx hb dX8_open_46 ?_
    obtain ⟨h12, hv, hw⟩ := sv_bd hw
    refine sv_rpI hx hb hown hC.1 hR hS (fl_X8_open_57 hts hC hni) rfl (by decide) rfl rfl hv dX8_open_47 (fun H locs hR hS => ?_)
    exact lk_X8_open_50 K hw hR hS (lv_sub hl [] rfl)
set_option maxHeartbeats 4000000 in
set_option maxRecDepth 100000 in
theorem mt_X8_open (l : Launch) (G : sv_G) (B : Nat) {x0 : Nat} {x1 : Int32} {x2 : Int32} {x3 : Int32} {h : sv_H} {r : Unit} {hE : sv_H} (hw : fn_X8_open x0 x1 x2 x3 h = some (r, hE)) : Met l yX8_open (.code yX8_open cX8_open 4 none :: sv_tb) rm_X8_open (sv_Pc G B [.ref x0, .int x1, .int x2, .int x3] h) (sv_Q G B none hE) 0 0 (fun q => B ≤ q) := by
  refine Met.ofW (cc := cX8_open) (maxL := 4) (ret := none) (by decide +kernel) rfl ?_
  intro p e s m args below meth c s₁ Bd hml hv
  obtain ⟨rfl, hR, hC, hB⟩ := hv
  have hl := lv_entry ([.ref x0, .int x1, .int x2, .int x3]) (n := 4) (Nat.le_of_ble_eq_true rfl)
  rw [lg_entry_eq]
  generalize (lg_sl ([.ref x0, .int x1, .int x2, .int x3]) ++ List.replicate (4 - (lg_sl ([.ref x0, .int x1, .int x2, .int x3])).length) Slot.unset).toArray = ls at hl ⊢
  have hl : lv_has ls 4 [(0, .ref x0), (1, .int x1), (2, .int x2), (3, .int x3)] := hl
  exact lk_X8_open_0 ⟨Bd.exec, Bd.bytes, hml, findClass_of_methodNamed Bd.named, fun w h => atoms_spec (ws := .code yX8_open cX8_open 4 none :: sv_tb) Bd.pre w (List.mem_cons_of_mem _ h), hC, Bd.notSynchronized, Bd.returns, hB, (name_of_methodNamed Bd.named Bd.method).1⟩ hw hR va_S.rf hl

def rm_X8_hang : Room := { frames := 0, cells := 0, slots := 0, locals := 0 }
theorem fl_X8_hang_25 {s : State} {meth : Method} {args : Array Value} {G : sv_G} {B : Nat} (hts : ∀ w ∈ sv_tb, w.before args s = true) (hC : sv_Cx G B s s.heap) (hni : meth.name = "hang") : sv_FL s meth args vwCl RX8 25 8 3 (.array .int) true :=
  ⟨_, RX8, TX8, 18, sv_tb, tyX8, rfl, by decide, hts, uw_X8, Or.inl (hts _ wd_250), fun _ h => h, tyX8_ok 3 (by decide), tyX8_ok, nmX8, fun _ => Or.inl rfl⟩
theorem fl_X8_hang_22 {s : State} {meth : Method} {args : Array Value} {G : sv_G} {B : Nat} (hts : ∀ w ∈ sv_tb, w.before args s = true) (hC : sv_Cx G B s s.heap) (hni : meth.name = "hang") : sv_FL s meth args vwCl RX8 22 8 2 (.array .int) true :=
  ⟨_, RX8, TX8, 18, sv_tb, tyX8, rfl, by decide, hts, uw_X8, Or.inl (hts _ wd_248), fun _ h => h, tyX8_ok 2 (by decide), tyX8_ok, nmX8, fun _ => Or.inl rfl⟩
set_option maxHeartbeats 4000000 in
set_option maxRecDepth 100000 in
theorem lk_X8_hang_27 {p : Program} {l : Launch} {e : Env} {s : State} {m : MethodId} {args : Array Value} {below : List Frame} {meth : Method} {c : Code} {G : sv_G} {B : Nat} (K : sv_W p s m args meth c cX8_hang RX8 4 none G B "hang") {r : Unit} {hE : sv_H} {h : sv_H} (hw : fn_X8_hang_27 h = some (r, hE)) {H : Heap} {locs : List Loc} {ls : Array Slot} (hR : sv_R G vwCl sv_ft B h H) (hS : va_S (fun q => B ≤ q) s.heap H locs) (hl : lv_has ls 4 []) : W p l e rm_X8_hang s m args below meth c H locs 0 0 (sv_Z below s args G B none hE) (F0 m 27 ls []) := by
  obtain ⟨hx, hb, hml, hown, hts, hC, hlk, hr, hBs, hni⟩ := id K
  unfold fn_X8_hang_27 at hw
  obtain ⟨rfl, rfl⟩ := sv_ret hw
  exact W.vret hx hb hr (fun t ht hW => ⟨⟨rfl, by rw [ht]; exact hR⟩, hS.F ht⟩) hS.2.2 dX8_hang_27
set_option maxHeartbeats 4000000 in
set_option maxRecDepth 100000 in
theorem lk_X8_hang_0 {p : Program} {l : Launch} {e : Env} {s : State} {m : MethodId} {args : Array Value} {below : List Frame} {meth : Method} {c : Code} {G : sv_G} {B : Nat} (K : sv_W p s m args meth c cX8_hang RX8 4 none G B "hang") {r : Unit} {hE : sv_H} {x0 : Nat} {x1 : Int32} {x2 : Int32} {x3 : Int32} {h : sv_H} (hw : fn_X8_hang x0 x1 x2 x3 h = some (r, hE)) {H : Heap} {locs : List Loc} {ls : Array Slot} (hR : sv_R G vwCl sv_ft B h H) (hS : va_S (fun q => B ≤ q) s.heap H locs) (hl : lv_has ls 4 [(0, .ref x0), (1, .int x1), (2, .int x2), (3, .int x3)]) : W p l e rm_X8_hang s m args below meth c H locs 0 0 (sv_Z below s args G B none hE) (F0 m 0 ls []) := by
  obtain ⟨hx, hb, hml, hown, hts, hC, hlk, hr, hBs, hni⟩ := id K
  unfold fn_X8_hang at hw
  have hw := (sv_go hw).2
  refine lv_iload_n hx hb dX8_hang_0 rfl (lv_at hl 2 rfl) ?_
  refine lv_iconst (v := (-1)) hx hb dX8_hang_1 (by decide) ?_
  refine lv_icmp_ne (tgt := 6) hx hb dX8_hang_2 (by decide) (fun cc => ?_) (fun cc => ?_)
  · have hw := sv_iff cc hw
    refine lv_iload_n hx hb dX8_hang_6 rfl (lv_at hl 3 rfl) ?_
    refine lv_if_eq (tgt := 20) hx hb dX8_hang_7 (by decide) (fun cc => ?_) (fun cc => ?_)
    · have hw := sv_ift cc hw
      refine lv_aload_n hx hb dX8_hang_20 rfl (lv_at hl 0 rfl) ?_
      obtain ⟨v1, hv, hw⟩ := sv_bd hw
      refine sv_rgP hx hb hown hC.1 hR (fl_X8_hang_25 hts hC hni) rfl (by decide) rfl rfl hv dX8_hang_21 ?_
      refine lv_iload_n hx hb dX8_hang_24 rfl (lv_at hl 2 rfl) ?_
      refine lv_iload_n hx hb dX8_hang_25 rfl (lv_at hl 1 rfl) ?_
      obtain ⟨h2, hv, hw⟩ := sv_bd hw
      refine sv_rsI hx hb hC.1 rfl hR hS hv dX8_hang_26 (fun H locs hR hS => ?_)
      exact lk_X8_hang_27 K hw hR hS (lv_sub hl [] rfl)
    · have hw := sv_iff cc hw
      refine lv_aload_n hx hb dX8_hang_10 rfl (lv_at hl 0 rfl) ?_
      obtain ⟨v3, hv, hw⟩ := sv_bd hw
      refine sv_rgP hx hb hown hC.1 hR (fl_X8_hang_22 hts hC hni) rfl (by decide) rfl rfl hv dX8_hang_11 ?_
      refine lv_iload_n hx hb dX8_hang_14 rfl (lv_at hl 2 rfl) ?_
      refine lv_iload_n hx hb dX8_hang_15 rfl (lv_at hl 1 rfl) ?_
      obtain ⟨h4, hv, hw⟩ := sv_bd hw
      refine sv_rsI hx hb hC.1 rfl hR hS hv dX8_hang_16 (fun H locs hR hS => ?_)
      refine lv_goto (tgt := 27) hx hb dX8_hang_17 (by decide) ?_
      exact lk_X8_hang_27 K hw hR hS (lv_sub hl [] rfl)
  · have hw := sv_ift cc hw
    obtain ⟨rfl, rfl⟩ := sv_ret hw
    exact W.vret hx hb hr (fun t ht hW => ⟨⟨rfl, by rw [ht]; exact hR⟩, hS.F ht⟩) hS.2.2 dX8_hang_5
set_option maxHeartbeats 4000000 in
set_option maxRecDepth 100000 in
theorem mt_X8_hang (l : Launch) (G : sv_G) (B : Nat) {x0 : Nat} {x1 : Int32} {x2 : Int32} {x3 : Int32} {h : sv_H} {r : Unit} {hE : sv_H} (hw : fn_X8_hang x0 x1 x2 x3 h = some (r, hE)) : Met l yX8_hang (.code yX8_hang cX8_hang 4 none :: sv_tb) rm_X8_hang (sv_Pc G B [.ref x0, .int x1, .int x2, .int x3] h) (sv_Q G B none hE) 0 0 (fun q => B ≤ q) := by
  refine Met.ofW (cc := cX8_hang) (maxL := 4) (ret := none) (by decide +kernel) rfl ?_
  intro p e s m args below meth c s₁ Bd hml hv
  obtain ⟨rfl, hR, hC, hB⟩ := hv
  have hl := lv_entry ([.ref x0, .int x1, .int x2, .int x3]) (n := 4) (Nat.le_of_ble_eq_true rfl)
  rw [lg_entry_eq]
  generalize (lg_sl ([.ref x0, .int x1, .int x2, .int x3]) ++ List.replicate (4 - (lg_sl ([.ref x0, .int x1, .int x2, .int x3])).length) Slot.unset).toArray = ls at hl ⊢
  have hl : lv_has ls 4 [(0, .ref x0), (1, .int x1), (2, .int x2), (3, .int x3)] := hl
  exact lk_X8_hang_0 ⟨Bd.exec, Bd.bytes, hml, findClass_of_methodNamed Bd.named, fun w h => atoms_spec (ws := .code yX8_hang cX8_hang 4 none :: sv_tb) Bd.pre w (List.mem_cons_of_mem _ h), hC, Bd.notSynchronized, Bd.returns, hB, (name_of_methodNamed Bd.named Bd.method).1⟩ hw hR va_S.rf hl

def rm_X12_compareQuotients : Room := { frames := 0, cells := 0, slots := 0, locals := 0 }
set_option maxHeartbeats 4000000 in
set_option maxRecDepth 100000 in
theorem lk_X12_compareQuotients_160 {p : Program} {l : Launch} {e : Env} {s : State} {m : MethodId} {args : Array Value} {below : List Frame} {meth : Method} {c : Code} {G : sv_G} {B : Nat} (K : sv_W p s m args meth c cX12_compareQuotients RX12 25 (some .int) G B "compareQuotients") {r : Int32} {hE : sv_H} {h : sv_H} (hw : fn_X12_compareQuotients_160 h = some (r, hE)) {H : Heap} {locs : List Loc} {ls : Array Slot} (hR : sv_R G vwCl sv_ft B h H) (hS : va_S (fun q => B ≤ q) s.heap H locs) (hl : lv_has ls 25 []) : W p l e rm_X12_compareQuotients s m args below meth c H locs 0 0 (sv_Z below s args G B (some (.int r)) hE) (F0 m 160 ls []) := by
  obtain ⟨hx, hb, hml, hown, hts, hC, hlk, hr, hBs, hni⟩ := id K
  unfold fn_X12_compareQuotients_160 at hw
  refine lv_iconst (v := 0) hx hb dX12_compareQuotients_160 (by decide) ?_
  obtain ⟨rfl, rfl⟩ := sv_ret hw
  exact W.iret hx hb hr (fun t ht hW => ⟨⟨rfl, by rw [ht]; exact hR⟩, hS.F ht⟩) hS.2.2 dX12_compareQuotients_161
set_option maxHeartbeats 4000000 in
set_option maxRecDepth 100000 in
theorem lk_X12_compareQuotients_137 {p : Program} {l : Launch} {e : Env} {s : State} {m : MethodId} {args : Array Value} {below : List Frame} {meth : Method} {c : Code} {G : sv_G} {B : Nat} (K : sv_W p s m args meth c cX12_compareQuotients RX12 25 (some .int) G B "compareQuotients") {r : Int32} {hE : sv_H} {s0 : Int32} {h : sv_H} (hw : fn_X12_compareQuotients_137 s0 h = some (r, hE)) {H : Heap} {locs : List Loc} {ls : Array Slot} (hR : sv_R G vwCl sv_ft B h H) (hS : va_S (fun q => B ≤ q) s.heap H locs) (hl : lv_has ls 25 []) : W p l e rm_X12_compareQuotients s m args below meth c H locs 0 0 (sv_Z below s args G B (some (.int r)) hE) (F0 m 137 ls [.int s0]) := by
  obtain ⟨hx, hb, hml, hown, hts, hC, hlk, hr, hBs, hni⟩ := id K
  unfold fn_X12_compareQuotients_137 at hw
  obtain ⟨rfl, rfl⟩ := sv_ret hw
  exact W.iret hx hb hr (fun t ht hW => ⟨⟨rfl, by rw [ht]; exact hR⟩, hS.F ht⟩) hS.2.2 dX12_compareQuotients_137
set_option maxHeartbeats 4000000 in
set_option maxRecDepth 100000 in
theorem lk_X12_compareQuotients_125 {p : Program} {l : Launch} {e : Env} {s : State} {m : MethodId} {args : Array Value} {below : List Frame} {meth : Method} {c : Code} {G : sv_G} {B : Nat} (K : sv_W p s m args meth c cX12_compareQuotients RX12 25 (some .int) G B "compareQuotients") {r : Int32} {hE : sv_H} {x21 : Int64} {h : sv_H} (hw : fn_X12_compareQuotients_125 x21 h = some (r, hE)) {H : Heap} {locs : List Loc} {ls : Array Slot} (hR : sv_R G vwCl sv_ft B h H) (hS : va_S (fun q => B ≤ q) s.heap H locs) (hl : lv_has ls 25 [(21, .long x21)]) : W p l e rm_X12_compareQuotients s m args below meth c H locs 0 0 (sv_Z below s args G B (some (.int r)) hE) (F0 m 125 ls []) := by
  obtain ⟨hx, hb, hml, hown, hts, hC, hlk, hr, hBs, hni⟩ := id K
  unfold fn_X12_compareQuotients_125 at hw
  refine lv_lload hx hb dX12_compareQuotients_125 (lv_at hl 0 rfl) ?_
  refine lv_lconst (v := 0) hx hb dX12_compareQuotients_127 (by decide) ?_
  refine W.lcmp hx hb dX12_compareQuotients_128 ?_
  refine lv_if_ne (tgt := 136) hx hb dX12_compareQuotients_129 (by decide) (fun cc => ?_) (fun cc => ?_)
  · have hw := sv_iff cc hw
    refine lv_iconst (v := 1) hx hb dX12_compareQuotients_136 (by decide) ?_
    exact lk_X12_compareQuotients_137 K hw hR hS (lv_sub hl [] rfl)
  · have hw := sv_ift cc hw
    refine lv_iconst (v := (-1)) hx hb dX12_compareQuotients_132 (by decide) ?_
    refine lv_goto (tgt := 137) hx hb dX12_compareQuotients_133 (by decide) ?_
    exact lk_X12_compareQuotients_137 K hw hR hS (lv_sub hl [] rfl)
set_option maxHeartbeats 4000000 in
set_option maxRecDepth 100000 in
theorem lk_X12_compareQuotients_111 {p : Program} {l : Launch} {e : Env} {s : State} {m : MethodId} {args : Array Value} {below : List Frame} {meth : Method} {c : Code} {G : sv_G} {B : Nat} (K : sv_W p s m args meth c cX12_compareQuotients RX12 25 (some .int) G B "compareQuotients") {r : Int32} {hE : sv_H} {k17 : Int64 → Int64 → Int64 → Int64 → Int32 → sv_H → Option (Int32 × sv_H)} (hk17 : ∀ {x8 : Int64} {x10 : Int64} {x12 : Int64} {x14 : Int64} {x16 : Int32} {h : sv_H}, k17 x8 x10 x12 x14 x16 h = some (r, hE) → ∀ {H : Heap} {locs : List Loc} {ls : Array Slot}, sv_R G vwCl sv_ft B h H → va_S (fun q => B ≤ q) s.heap H locs → lv_has ls 25 [(8, .long x8), (10, .long x10), (12, .long x12), (14, .long x14), (16, .int x16)] → W p l e rm_X12_compareQuotients s m args below meth c H locs 0 0 (sv_Z below s args G B (some (.int r)) hE) (F0 m 17 ls [])) {x10 : Int64} {x14 : Int64} {x16 : Int32} {x21 : Int64} {x23 : Int64} {h : sv_H} (hw : fn_X12_compareQuotients_111 k17 x10 x14 x16 x21 x23 h = some (r, hE)) {H : Heap} {locs : List Loc} {ls : Array Slot} (hR : sv_R G vwCl sv_ft B h H) (hS : va_S (fun q => B ≤ q) s.heap H locs) (hl : lv_has ls 25 [(10, .long x10), (14, .long x14), (16, .int x16), (21, .long x21), (23, .long x23)]) : W p l e rm_X12_compareQuotients s m args below meth c H locs 0 0 (sv_Z below s args G B (some (.int r)) hE) (F0 m 111 ls []) := by
  obtain ⟨hx, hb, hml, hown, hts, hC, hlk, hr, hBs, hni⟩ := id K
  unfold fn_X12_compareQuotients_111 at hw
  refine lv_lload hx hb dX12_compareQuotients_111 (lv_at hl 3 rfl) ?_
  refine lv_lconst (v := 0) hx hb dX12_compareQuotients_113 (by decide) ?_
  refine W.lcmp hx hb dX12_compareQuotients_114 ?_
  refine lv_if_eq (tgt := 125) hx hb dX12_compareQuotients_115 (by decide) (fun cc => ?_) (fun cc => ?_)
  · have hw := sv_ift cc hw
    exact lk_X12_compareQuotients_125 K hw hR hS (lv_sub hl [3] rfl)
  · have hw := sv_iff cc hw
    refine lv_lload hx hb dX12_compareQuotients_118 (lv_at hl 4 rfl) ?_
    refine lv_lconst (v := 0) hx hb dX12_compareQuotients_120 (by decide) ?_
    refine W.lcmp hx hb dX12_compareQuotients_121 ?_
    refine lv_if_ne (tgt := 138) hx hb dX12_compareQuotients_122 (by decide) (fun cc => ?_) (fun cc => ?_)
    · have hw := sv_iff cc hw
      refine lv_lload hx hb dX12_compareQuotients_138 (lv_at hl 1 rfl) ?_
      refine lv_lstore (lv' := [(8, .long x14), (10, .long x10), (14, .long x14), (16, .int x16), (21, .long x21), (23, .long x23)]) hx hb dX12_compareQuotients_140 hl (by decide) rfl (fun ls hl => ?_)
      refine lv_lload hx hb dX12_compareQuotients_142 (lv_at hl 1 rfl) ?_
      refine lv_lstore (lv' := [(12, .long x10), (8, .long x14), (10, .long x10), (14, .long x14), (16, .int x16), (21, .long x21), (23, .long x23)]) hx hb dX12_compareQuotients_144 hl (by decide) rfl (fun ls hl => ?_)
      refine lv_lload hx hb dX12_compareQuotients_146 (lv_at hl 6 rfl) ?_
      refine lv_lstore (lv' := [(10, .long x23), (12, .long x10), (8, .long x14), (14, .long x14), (16, .int x16), (21, .long x21), (23, .long x23)]) hx hb dX12_compareQuotients_148 hl (by decide) rfl (fun ls hl => ?_)
      refine lv_lload hx hb dX12_compareQuotients_150 (lv_at hl 5 rfl) ?_
      refine lv_lstore (lv' := [(14, .long x21), (10, .long x23), (12, .long x10), (8, .long x14), (16, .int x16), (21, .long x21), (23, .long x23)]) hx hb dX12_compareQuotients_152 hl (by decide) rfl (fun ls hl => ?_)
      refine lv_iinc (v := x16 + 1) (lv' := [(16, .int (x16 + 1)), (14, .long x21), (10, .long x23), (12, .long x10), (8, .long x14), (21, .long x21), (23, .long x23)]) hx hb dX12_compareQuotients_154 hl (k := 4) rfl rfl (by decide) rfl (fun ls hl => ?_)
      refine lv_goto (tgt := 17) hx hb dX12_compareQuotients_157 (by decide) ?_
      exact hk17 hw hR hS (lv_sub hl [4, 2, 3, 1, 0] rfl)
    · have hw := sv_ift cc hw
      exact lk_X12_compareQuotients_125 K hw hR hS (lv_sub hl [3] rfl)
set_option maxHeartbeats 4000000 in
set_option maxRecDepth 100000 in
theorem lk_X12_compareQuotients_74 {p : Program} {l : Launch} {e : Env} {s : State} {m : MethodId} {args : Array Value} {below : List Frame} {meth : Method} {c : Code} {G : sv_G} {B : Nat} (K : sv_W p s m args meth c cX12_compareQuotients RX12 25 (some .int) G B "compareQuotients") {r : Int32} {hE : sv_H} {s0 : Int32} {h : sv_H} (hw : fn_X12_compareQuotients_74 s0 h = some (r, hE)) {H : Heap} {locs : List Loc} {ls : Array Slot} (hR : sv_R G vwCl sv_ft B h H) (hS : va_S (fun q => B ≤ q) s.heap H locs) (hl : lv_has ls 25 []) : W p l e rm_X12_compareQuotients s m args below meth c H locs 0 0 (sv_Z below s args G B (some (.int r)) hE) (F0 m 74 ls [.int s0]) := by
  obtain ⟨hx, hb, hml, hown, hts, hC, hlk, hr, hBs, hni⟩ := id K
  unfold fn_X12_compareQuotients_74 at hw
  obtain ⟨rfl, rfl⟩ := sv_ret hw
  exact W.iret hx hb hr (fun t ht hW => ⟨⟨rfl, by rw [ht]; exact hR⟩, hS.F ht⟩) hS.2.2 dX12_compareQuotients_74
set_option maxHeartbeats 4000000 in
set_option maxRecDepth 100000 in
theorem lk_X12_compareQuotients_17b {p : Program} {l : Launch} {e : Env} {s : State} {m : MethodId} {args : Array Value} {below : List Frame} {meth : Method} {c : Code} {G : sv_G} {B : Nat} (K : sv_W p s m args meth c cX12_compareQuotients RX12 25 (some .int) G B "compareQuotients") {r : Int32} {hE : sv_H} {k17 : Int64 → Int64 → Int64 → Int64 → Int32 → sv_H → Option (Int32 × sv_H)} (hk17 : ∀ {x8 : Int64} {x10 : Int64} {x12 : Int64} {x14 : Int64} {x16 : Int32} {h : sv_H}, k17 x8 x10 x12 x14 x16 h = some (r, hE) → ∀ {H : Heap} {locs : List Loc} {ls : Array Slot}, sv_R G vwCl sv_ft B h H → va_S (fun q => B ≤ q) s.heap H locs → lv_has ls 25 [(8, .long x8), (10, .long x10), (12, .long x12), (14, .long x14), (16, .int x16)] → W p l e rm_X12_compareQuotients s m args below meth c H locs 0 0 (sv_Z below s args G B (some (.int r)) hE) (F0 m 17 ls [])) {x8 : Int64} {x10 : Int64} {x12 : Int64} {x14 : Int64} {x16 : Int32} {h : sv_H} (hw : fn_X12_compareQuotients_17b k17 x8 x10 x12 x14 x16 h = some (r, hE)) {H : Heap} {locs : List Loc} {ls : Array Slot} (hR : sv_R G vwCl sv_ft B h H) (hS : va_S (fun q => B ≤ q) s.heap H locs) (hl : lv_has ls 25 [(8, .long x8), (10, .long x10), (12, .long x12), (14, .long x14), (16, .int x16)]) : W p l e rm_X12_compareQuotients s m args below meth c H locs 0 0 (sv_Z below s args G B (some (.int r)) hE) (F0 m 17 ls []) := by
  obtain ⟨hx, hb, hml, hown, hts, hC, hlk, hr, hBs, hni⟩ := id K
  unfold fn_X12_compareQuotients_17b at hw
  refine lv_iload hx hb dX12_compareQuotients_17 (lv_at hl 4 rfl) ?_
  refine lv_sipush (v := 200) hx hb dX12_compareQuotients_19 (by decide) ?_
  refine lv_icmp_ge (tgt := 160) hx hb dX12_compareQuotients_22 (by decide) (fun cc => ?_) (fun cc => ?_)
  · have hw := sv_ift cc hw
    exact lk_X12_compareQuotients_160 K hw hR hS (lv_sub hl [] rfl)
  · have hw := sv_iff cc hw
    refine lv_lload hx hb dX12_compareQuotients_25 (lv_at hl 1 rfl) ?_
    refine lv_lconst (v := 0) hx hb dX12_compareQuotients_27 (by decide) ?_
    refine W.lcmp hx hb dX12_compareQuotients_28 ?_
    refine lv_if_le (tgt := 160) hx hb dX12_compareQuotients_29 (by decide) (fun cc => ?_) (fun cc => ?_)
    · have hw := sv_ift cc hw
      exact lk_X12_compareQuotients_160 K hw hR hS (lv_sub hl [] rfl)
    · have hw := sv_iff cc hw
      refine lv_lload hx hb dX12_compareQuotients_32 (lv_at hl 3 rfl) ?_
      refine lv_lconst (v := 0) hx hb dX12_compareQuotients_34 (by decide) ?_
      refine W.lcmp hx hb dX12_compareQuotients_35 ?_
      refine lv_if_le (tgt := 160) hx hb dX12_compareQuotients_36 (by decide) (fun cc => ?_) (fun cc => ?_)
      · have hw := sv_ift cc hw
        exact lk_X12_compareQuotients_160 K hw hR hS (lv_sub hl [] rfl)
      · have hw := sv_iff cc hw
        refine lv_lload hx hb dX12_compareQuotients_39 (lv_at hl 0 rfl) ?_
        refine lv_lload hx hb dX12_compareQuotients_41 (lv_at hl 1 rfl) ?_
        obtain ⟨hz, hw⟩ := sv_nz hw
        refine lv_ldiv hx hb dX12_compareQuotients_43 hz ?_
        refine lv_lstore (lv' := [(17, .long (x8 / x10)), (8, .long x8), (10, .long x10), (12, .long x12), (14, .long x14), (16, .int x16)]) hx hb dX12_compareQuotients_44 hl (by decide) rfl (fun ls hl => ?_)
        refine lv_lload hx hb dX12_compareQuotients_46 (lv_at hl 3 rfl) ?_
        refine lv_lload hx hb dX12_compareQuotients_48 (lv_at hl 4 rfl) ?_
        obtain ⟨hz, hw⟩ := sv_nz hw
        refine lv_ldiv hx hb dX12_compareQuotients_50 hz ?_
        refine lv_lstore (lv' := [(19, .long (x12 / x14)), (17, .long (x8 / x10)), (8, .long x8), (10, .long x10), (12, .long x12), (14, .long x14), (16, .int x16)]) hx hb dX12_compareQuotients_51 hl (by decide) rfl (fun ls hl => ?_)
        refine lv_lload hx hb dX12_compareQuotients_53 (lv_at hl 1 rfl) ?_
        refine lv_lload hx hb dX12_compareQuotients_55 (lv_at hl 0 rfl) ?_
        refine W.lcmp hx hb dX12_compareQuotients_57 ?_
        refine lv_if_eq (tgt := 75) hx hb dX12_compareQuotients_58 (by decide) (fun cc => ?_) (fun cc => ?_)
        · have hw := sv_ift cc hw
          refine lv_lload hx hb dX12_compareQuotients_75 (lv_at hl 2 rfl) ?_
          refine lv_lload hx hb dX12_compareQuotients_77 (lv_at hl 1 rfl) ?_
          refine lv_lload hx hb dX12_compareQuotients_79 (lv_at hl 3 rfl) ?_
          refine lv_lmul hx hb dX12_compareQuotients_81 ?_
          refine lv_lsub hx hb dX12_compareQuotients_82 ?_
          refine lv_lstore (lv' := [(21, .long (x8 - ((x8 / x10) * x10))), (19, .long (x12 / x14)), (17, .long (x8 / x10)), (8, .long x8), (10, .long x10), (12, .long x12), (14, .long x14), (16, .int x16)]) hx hb dX12_compareQuotients_83 hl (by decide) rfl (fun ls hl => ?_)
          refine lv_lload hx hb dX12_compareQuotients_85 (lv_at hl 5 rfl) ?_
          refine lv_lload hx hb dX12_compareQuotients_87 (lv_at hl 1 rfl) ?_
          refine lv_lload hx hb dX12_compareQuotients_89 (lv_at hl 6 rfl) ?_
          refine lv_lmul hx hb dX12_compareQuotients_91 ?_
          refine lv_lsub hx hb dX12_compareQuotients_92 ?_
          refine lv_lstore (lv' := [(23, .long (x12 - ((x12 / x14) * x14))), (21, .long (x8 - ((x8 / x10) * x10))), (19, .long (x12 / x14)), (17, .long (x8 / x10)), (8, .long x8), (10, .long x10), (12, .long x12), (14, .long x14), (16, .int x16)]) hx hb dX12_compareQuotients_93 hl (by decide) rfl (fun ls hl => ?_)
          refine lv_lload hx hb dX12_compareQuotients_95 (lv_at hl 1 rfl) ?_
          refine lv_lconst (v := 0) hx hb dX12_compareQuotients_97 (by decide) ?_
          refine W.lcmp hx hb dX12_compareQuotients_98 ?_
          refine lv_if_ne (tgt := 111) hx hb dX12_compareQuotients_99 (by decide) (fun cc => ?_) (fun cc => ?_)
          · have hw := sv_iff cc hw
            exact lk_X12_compareQuotients_111 K hk17 hw hR hS (lv_sub hl [5, 7, 8, 1, 0] rfl)
          · have hw := sv_ift cc hw
            refine lv_lload hx hb dX12_compareQuotients_102 (lv_at hl 0 rfl) ?_
            refine lv_lconst (v := 0) hx hb dX12_compareQuotients_104 (by decide) ?_
            refine W.lcmp hx hb dX12_compareQuotients_105 ?_
            refine lv_if_ne (tgt := 111) hx hb dX12_compareQuotients_106 (by decide) (fun cc => ?_) (fun cc => ?_)
            · have hw := sv_iff cc hw
              exact lk_X12_compareQuotients_111 K hk17 hw hR hS (lv_sub hl [5, 7, 8, 1, 0] rfl)
            · have hw := sv_ift cc hw
              refine lv_iconst (v := 0) hx hb dX12_compareQuotients_109 (by decide) ?_
              obtain ⟨rfl, rfl⟩ := sv_ret hw
              exact W.iret hx hb hr (fun t ht hW => ⟨⟨rfl, by rw [ht]; exact hR⟩, hS.F ht⟩) hS.2.2 dX12_compareQuotients_110
        · have hw := sv_iff cc hw
          refine lv_lload hx hb dX12_compareQuotients_61 (lv_at hl 1 rfl) ?_
          refine lv_lload hx hb dX12_compareQuotients_63 (lv_at hl 0 rfl) ?_
          refine W.lcmp hx hb dX12_compareQuotients_65 ?_
          refine lv_if_ge (tgt := 73) hx hb dX12_compareQuotients_66 (by decide) (fun cc => ?_) (fun cc => ?_)
          · have hw := sv_ift cc hw
            refine lv_iconst (v := 1) hx hb dX12_compareQuotients_73 (by decide) ?_
            exact lk_X12_compareQuotients_74 K hw hR hS (lv_sub hl [] rfl)
          · have hw := sv_iff cc hw
            refine lv_iconst (v := (-1)) hx hb dX12_compareQuotients_69 (by decide) ?_
            refine lv_goto (tgt := 74) hx hb dX12_compareQuotients_70 (by decide) ?_
            exact lk_X12_compareQuotients_74 K hw hR hS (lv_sub hl [] rfl)
theorem lk_X12_compareQuotients_17 {p : Program} {l : Launch} {e : Env} {s : State} {m : MethodId} {args : Array Value} {below : List Frame} {meth : Method} {c : Code} {G : sv_G} {B : Nat} (K : sv_W p s m args meth c cX12_compareQuotients RX12 25 (some .int) G B "compareQuotients") {r : Int32} {hE : sv_H} : ∀ (n : Nat) {x8 : Int64} {x10 : Int64} {x12 : Int64} {x14 : Int64} {x16 : Int32} {h : sv_H}, fn_X12_compareQuotients_17 n x8 x10 x12 x14 x16 h = some (r, hE) → ∀ {H : Heap} {locs : List Loc} {ls : Array Slot}, sv_R G vwCl sv_ft B h H → va_S (fun q => B ≤ q) s.heap H locs → lv_has ls 25 [(8, .long x8), (10, .long x10), (12, .long x12), (14, .long x14), (16, .int x16)] → W p l e rm_X12_compareQuotients s m args below meth c H locs 0 0 (sv_Z below s args G B (some (.int r)) hE) (F0 m 17 ls []) := by
  intro n
  induction n with
  | zero => intro x8 x10 x12 x14 x16 h hw; cases (show (none : Option (Int32 × sv_H)) = some (r, hE) from hw)
  | succ n ih => intro x8 x10 x12 x14 x16 h hw H locs ls hR hS hl; exact lk_X12_compareQuotients_17b K (fun hw => ih hw) hw hR hS hl
set_option maxHeartbeats 4000000 in
set_option maxRecDepth 100000 in
theorem lk_X12_compareQuotients_0 {p : Program} {l : Launch} {e : Env} {s : State} {m : MethodId} {args : Array Value} {below : List Frame} {meth : Method} {c : Code} {G : sv_G} {B : Nat} (K : sv_W p s m args meth c cX12_compareQuotients RX12 25 (some .int) G B "compareQuotients") {r : Int32} {hE : sv_H} {x0 : Int64} {x2 : Int64} {x4 : Int64} {x6 : Int64} {h : sv_H} (hw : fn_X12_compareQuotients x0 x2 x4 x6 h = some (r, hE)) {H : Heap} {locs : List Loc} {ls : Array Slot} (hR : sv_R G vwCl sv_ft B h H) (hS : va_S (fun q => B ≤ q) s.heap H locs) (hl : lv_has ls 25 [(0, .long x0), (2, .long x2), (4, .long x4), (6, .long x6)]) : W p l e rm_X12_compareQuotients s m args below meth c H locs 0 0 (sv_Z below s args G B (some (.int r)) hE) (F0 m 0 ls []) := by
  obtain ⟨hx, hb, hml, hown, hts, hC, hlk, hr, hBs, hni⟩ := id K
  unfold fn_X12_compareQuotients at hw
  refine lv_lload_n hx hb dX12_compareQuotients_0 rfl (lv_at hl 0 rfl) ?_
  refine lv_lstore (lv' := [(8, .long x0), (0, .long x0), (2, .long x2), (4, .long x4), (6, .long x6)]) hx hb dX12_compareQuotients_1 hl (by decide) rfl (fun ls hl => ?_)
  refine lv_lload_n hx hb dX12_compareQuotients_3 rfl (lv_at hl 2 rfl) ?_
  refine lv_lstore (lv' := [(10, .long x2), (8, .long x0), (0, .long x0), (2, .long x2), (4, .long x4), (6, .long x6)]) hx hb dX12_compareQuotients_4 hl (by decide) rfl (fun ls hl => ?_)
  refine lv_lload hx hb dX12_compareQuotients_6 (lv_at hl 4 rfl) ?_
  refine lv_lstore (lv' := [(12, .long x4), (10, .long x2), (8, .long x0), (0, .long x0), (2, .long x2), (4, .long x4), (6, .long x6)]) hx hb dX12_compareQuotients_8 hl (by decide) rfl (fun ls hl => ?_)
  refine lv_lload hx hb dX12_compareQuotients_10 (lv_at hl 6 rfl) ?_
  refine lv_lstore (lv' := [(14, .long x6), (12, .long x4), (10, .long x2), (8, .long x0), (0, .long x0), (2, .long x2), (4, .long x4), (6, .long x6)]) hx hb dX12_compareQuotients_12 hl (by decide) rfl (fun ls hl => ?_)
  refine lv_iconst (v := 0) hx hb dX12_compareQuotients_14 (by decide) ?_
  refine lv_istore (lv' := [(16, .int 0), (14, .long x6), (12, .long x4), (10, .long x2), (8, .long x0), (0, .long x0), (2, .long x2), (4, .long x4), (6, .long x6)]) hx hb dX12_compareQuotients_15 hl (by decide) rfl (fun ls hl => ?_)
  exact lk_X12_compareQuotients_17 K sv_fuel hw hR hS (lv_sub hl [4, 3, 2, 1, 0] rfl)
set_option maxHeartbeats 4000000 in
set_option maxRecDepth 100000 in
theorem mt_X12_compareQuotients (l : Launch) (G : sv_G) (B : Nat) {x0 : Int64} {x2 : Int64} {x4 : Int64} {x6 : Int64} {h : sv_H} {r : Int32} {hE : sv_H} (hw : fn_X12_compareQuotients x0 x2 x4 x6 h = some (r, hE)) : Met l yX12_compareQuotients (.code yX12_compareQuotients cX12_compareQuotients 25 (some .int) :: sv_tb) rm_X12_compareQuotients (sv_Pc G B [.long x0, .long x2, .long x4, .long x6] h) (sv_Q G B (some (.int r)) hE) 0 0 (fun q => B ≤ q) := by
  refine Met.ofW (cc := cX12_compareQuotients) (maxL := 25) (ret := (some .int)) (by decide +kernel) rfl ?_
  intro p e s m args below meth c s₁ Bd hml hv
  obtain ⟨rfl, hR, hC, hB⟩ := hv
  have hl := lv_entry ([.long x0, .long x2, .long x4, .long x6]) (n := 25) (Nat.le_of_ble_eq_true rfl)
  rw [lg_entry_eq]
  generalize (lg_sl ([.long x0, .long x2, .long x4, .long x6]) ++ List.replicate (25 - (lg_sl ([.long x0, .long x2, .long x4, .long x6])).length) Slot.unset).toArray = ls at hl ⊢
  have hl : lv_has ls 25 [(0, .long x0), (2, .long x2), (4, .long x4), (6, .long x6)] := hl
  exact lk_X12_compareQuotients_0 ⟨Bd.exec, Bd.bytes, hml, findClass_of_methodNamed Bd.named, fun w h => atoms_spec (ws := .code yX12_compareQuotients cX12_compareQuotients 25 (some .int) :: sv_tb) Bd.pre w (List.mem_cons_of_mem _ h), hC, Bd.notSynchronized, Bd.returns, hB, (name_of_methodNamed Bd.named Bd.method).1⟩ hw hR va_S.rf hl

def rm_X1_sideAt : Room := { frames := 1, cells := 0, slots := 0, locals := 44 }
set_option maxHeartbeats 4000000 in
set_option maxRecDepth 100000 in
theorem lk_X1_sideAt_85 {p : Program} {l : Launch} {e : Env} {s : State} {m : MethodId} {args : Array Value} {below : List Frame} {meth : Method} {c : Code} {G : sv_G} {B : Nat} (K : sv_W p s m args meth c cX1_sideAt RX1 9 (some .int) G B "sideAt") {r : Int32} {hE : sv_H} {s0 : Int32} {h : sv_H} (hw : fn_X1_sideAt_85 s0 h = some (r, hE)) {H : Heap} {locs : List Loc} {ls : Array Slot} (hR : sv_R G vwCl sv_ft B h H) (hS : va_S (fun q => B ≤ q) s.heap H locs) (hl : lv_has ls 9 []) : W p l e rm_X1_sideAt s m args below meth c H locs 0 0 (sv_Z below s args G B (some (.int r)) hE) (F0 m 85 ls [.int s0]) := by
  obtain ⟨hx, hb, hml, hown, hts, hC, hlk, hr, hBs, hni⟩ := id K
  unfold fn_X1_sideAt_85 at hw
  obtain ⟨rfl, rfl⟩ := sv_ret hw
  exact W.iret hx hb hr (fun t ht hW => ⟨⟨rfl, by rw [ht]; exact hR⟩, hS.F ht⟩) hS.2.2 dX1_sideAt_85
set_option maxHeartbeats 4000000 in
set_option maxRecDepth 100000 in
theorem lk_X1_sideAt_82 {p : Program} {l : Launch} {e : Env} {s : State} {m : MethodId} {args : Array Value} {below : List Frame} {meth : Method} {c : Code} {G : sv_G} {B : Nat} (K : sv_W p s m args meth c cX1_sideAt RX1 9 (some .int) G B "sideAt") {r : Int32} {hE : sv_H} {s0 : Int64} {h : sv_H} (hw : fn_X1_sideAt_82 s0 h = some (r, hE)) {H : Heap} {locs : List Loc} {ls : Array Slot} (hR : sv_R G vwCl sv_ft B h H) (hS : va_S (fun q => B ≤ q) s.heap H locs) (hl : lv_has ls 9 []) : W p l e rm_X1_sideAt s m args below meth c H locs 0 0 (sv_Z below s args G B (some (.int r)) hE) (F0 m 82 ls [.long s0]) := by
  obtain ⟨hx, hb, hml, hown, hts, hC, hlk, hr, hBs, hni⟩ := id K
  unfold fn_X1_sideAt_82 at hw
  obtain ⟨r1, h2, hv1, hw⟩ := sv_b_some hw
  refine sv_call (va_runS (As := [.long s0]) (rest := []) ⟨hx, hb, hml, hown, hts⟩ (mt_J13_signum_95d88 l G B hv1) (va_cwS 1 hts (sv_gS wd_933 wd_870 wd_152 wd_871) rfl rfl rfl (by decide +kernel) ⟨Nat.le_of_ble_eq_true rfl, Nat.le_of_ble_eq_true rfl⟩) ⟨sv_blind, fun U hU hW => sv_pre hC hR hS hBs hU hW⟩ rfl rfl hl.1 rfl (lv_room (Nat.le_of_ble_eq_true rfl)) dX1_sideAt_82 ⟨Nat.zero_le _, Nat.zero_le _⟩) hS (fun H locs hR hS => ?_)
  exact lk_X1_sideAt_85 K hw hR hS (lv_sub hl [] rfl)
set_option maxHeartbeats 4000000 in
set_option maxRecDepth 100000 in
theorem lk_X1_sideAt_0 {p : Program} {l : Launch} {e : Env} {s : State} {m : MethodId} {args : Array Value} {below : List Frame} {meth : Method} {c : Code} {G : sv_G} {B : Nat} (K : sv_W p s m args meth c cX1_sideAt RX1 9 (some .int) G B "sideAt") {r : Int32} {hE : sv_H} {x0 : Int64} {x2 : Int64} {x4 : Int64} {x6 : Int64} {h : sv_H} (hw : fn_X1_sideAt x0 x2 x4 x6 h = some (r, hE)) {H : Heap} {locs : List Loc} {ls : Array Slot} (hR : sv_R G vwCl sv_ft B h H) (hS : va_S (fun q => B ≤ q) s.heap H locs) (hl : lv_has ls 9 [(0, .long x0), (2, .long x2), (4, .long x4), (6, .long x6)]) : W p l e rm_X1_sideAt s m args below meth c H locs 0 0 (sv_Z below s args G B (some (.int r)) hE) (F0 m 0 ls []) := by
  obtain ⟨hx, hb, hml, hown, hts, hC, hlk, hr, hBs, hni⟩ := id K
  unfold fn_X1_sideAt at hw
  refine lv_lload hx hb dX1_sideAt_0 (lv_at hl 2 rfl) ?_
  refine lv_lconst (v := 0) hx hb dX1_sideAt_2 (by decide) ?_
  refine W.lcmp hx hb dX1_sideAt_3 ?_
  refine lv_if_ne (tgt := 12) hx hb dX1_sideAt_4 (by decide) (fun cc => ?_) (fun cc => ?_)
  · have hw := sv_iff cc hw
    refine lv_lload hx hb dX1_sideAt_12 (lv_at hl 2 rfl) ?_
    refine lv_lload hx hb dX1_sideAt_14 (lv_at hl 3 rfl) ?_
    refine W.lcmp hx hb dX1_sideAt_16 ?_
    refine lv_if_ne (tgt := 25) hx hb dX1_sideAt_17 (by decide) (fun cc => ?_) (fun cc => ?_)
    · have hw := sv_iff cc hw
      refine lv_lload_n hx hb dX1_sideAt_25 rfl (lv_at hl 0 rfl) ?_
      obtain ⟨r1, h2, hv1, hw⟩ := sv_b_some hw
      refine sv_call (va_runS (As := [.long x0]) (rest := []) ⟨hx, hb, hml, hown, hts⟩ (mt_J13_signum_95d88 l G B hv1) (va_cwS 1 hts (sv_gS wd_933 wd_870 wd_152 wd_871) rfl rfl rfl (by decide +kernel) ⟨Nat.le_of_ble_eq_true rfl, Nat.le_of_ble_eq_true rfl⟩) ⟨sv_blind, fun U hU hW => sv_pre hC hR hS hBs hU hW⟩ rfl rfl hl.1 rfl (lv_room (Nat.le_of_ble_eq_true rfl)) dX1_sideAt_26 ⟨Nat.zero_le _, Nat.zero_le _⟩) hS (fun H locs hR hS => ?_)
      refine lv_lload_n hx hb dX1_sideAt_29 rfl (lv_at hl 1 rfl) ?_
      obtain ⟨r3, h4, hv2, hw⟩ := sv_b_some hw
      refine sv_call (va_runS (As := [.long x2]) (rest := [.int r1]) ⟨hx, hb, hml, hown, hts⟩ (mt_J13_signum_95d88 l G B hv2) (va_cwS 1 hts (sv_gS wd_933 wd_870 wd_152 wd_871) rfl rfl rfl (by decide +kernel) ⟨Nat.le_of_ble_eq_true rfl, Nat.le_of_ble_eq_true rfl⟩) ⟨sv_blind, fun U hU hW => sv_pre hC hR hS hBs hU hW⟩ rfl rfl hl.1 rfl (lv_room (Nat.le_of_ble_eq_true rfl)) dX1_sideAt_30 ⟨Nat.zero_le _, Nat.zero_le _⟩) hS (fun H locs hR hS => ?_)
      refine lv_imul hx hb dX1_sideAt_33 ?_
      refine lv_if_lt (tgt := 44) hx hb dX1_sideAt_34 (by decide) (fun cc => ?_) (fun cc => ?_)
      · have hw := sv_ift cc hw
        refine lv_lload hx hb dX1_sideAt_44 (lv_at hl 2 rfl) ?_
        refine lv_lload hx hb dX1_sideAt_46 (lv_at hl 3 rfl) ?_
        refine lv_lload_n hx hb dX1_sideAt_48 rfl (lv_at hl 0 rfl) ?_
        refine va_mabs_long hx hb (hml.trans hl.1.symm) hown (hts _ wd_934) (hts _ wd_935) (hts _ wd_150) (hts _ wd_936) (Nat.le_of_ble_eq_true rfl) (Nat.le_of_ble_eq_true rfl) (Nat.zero_le _) (Nat.zero_le _) dX1_sideAt_49 ?_
        obtain ⟨r5, er5, hw⟩ := sv_lt hw
        refine W.eq (g2 := F0 m 52 ls (.long r5 :: [.long x6, .long x4])) (by rw [er5]; rfl) ?_
        refine lv_lload_n hx hb dX1_sideAt_52 rfl (lv_at hl 0 rfl) ?_
        refine lv_lload_n hx hb dX1_sideAt_53 rfl (lv_at hl 1 rfl) ?_
        refine lv_lsub hx hb dX1_sideAt_54 ?_
        refine va_mabs_long hx hb (hml.trans hl.1.symm) hown (hts _ wd_934) (hts _ wd_935) (hts _ wd_150) (hts _ wd_936) (Nat.le_of_ble_eq_true rfl) (Nat.le_of_ble_eq_true rfl) (Nat.zero_le _) (Nat.zero_le _) dX1_sideAt_55 ?_
        obtain ⟨r6, er6, hw⟩ := sv_lt hw
        refine W.eq (g2 := F0 m 58 ls (.long r6 :: [.long r5, .long x6, .long x4])) (by rw [er6]; rfl) ?_
        obtain ⟨r7, h8, hv3, hw⟩ := sv_b_some hw
        refine sv_call (va_runSN (As := [.long x4, .long x6, .long r5, .long r6]) (rest := []) ⟨hx, hb, hml, hown, hts⟩ (mt_X12_compareQuotients l G B hv3) ⟨va_cnB 4 hts (sv_gd wd_939) rfl rfl rfl (hC.2.1 (.methodLinkNest "SectorView$Pieces" 95 ⟨"SectorView", "compareQuotients", "(JJJJ)I"⟩ "SectorView") (by decide +kernel)) (hts _ wd_131) (by decide +kernel) ⟨Nat.le_of_ble_eq_true rfl, Nat.le_of_ble_eq_true rfl⟩, hts _ wd_938, trivial⟩ ⟨sv_blind, fun U hU hW => sv_pre hC hR hS hBs hU hW⟩ rfl rfl hl.1 rfl (lv_room (Nat.le_of_ble_eq_true rfl)) dX1_sideAt_58 ⟨Nat.zero_le _, Nat.zero_le _⟩) hS (fun H locs hR hS => ?_)
        refine lv_istore (lv' := [(8, .int r7), (0, .long x0), (2, .long x2), (4, .long x4), (6, .long x6)]) hx hb dX1_sideAt_61 hl (by decide) rfl (fun ls hl => ?_)
        refine lv_iload hx hb dX1_sideAt_63 (lv_at hl 0 rfl) ?_
        refine lv_if_ne (tgt := 72) hx hb dX1_sideAt_65 (by decide) (fun cc => ?_) (fun cc => ?_)
        · have hw := sv_iff cc hw
          refine lv_iload hx hb dX1_sideAt_72 (lv_at hl 0 rfl) ?_
          refine lv_if_ge (tgt := 81) hx hb dX1_sideAt_74 (by decide) (fun cc => ?_) (fun cc => ?_)
          · have hw := sv_ift cc hw
            refine lv_lload_n hx hb dX1_sideAt_81 rfl (lv_at hl 2 rfl) ?_
            exact lk_X1_sideAt_82 K hw hR hS (lv_sub hl [] rfl)
          · have hw := sv_iff cc hw
            refine lv_lload_n hx hb dX1_sideAt_77 rfl (lv_at hl 1 rfl) ?_
            refine lv_goto (tgt := 82) hx hb dX1_sideAt_78 (by decide) ?_
            exact lk_X1_sideAt_82 K hw hR hS (lv_sub hl [] rfl)
        · have hw := sv_ift cc hw
          refine lv_iconst (v := 0) hx hb dX1_sideAt_68 (by decide) ?_
          refine lv_goto (tgt := 85) hx hb dX1_sideAt_69 (by decide) ?_
          exact lk_X1_sideAt_85 K hw hR hS (lv_sub hl [] rfl)
      · have hw := sv_iff cc hw
        refine lv_lload_n hx hb dX1_sideAt_37 rfl (lv_at hl 0 rfl) ?_
        refine lv_lload_n hx hb dX1_sideAt_38 rfl (lv_at hl 1 rfl) ?_
        refine lv_ladd hx hb dX1_sideAt_39 ?_
        obtain ⟨r9, h10, hv4, hw⟩ := sv_b_some hw
        refine sv_call (va_runS (As := [.long (x0 + x2)]) (rest := []) ⟨hx, hb, hml, hown, hts⟩ (mt_J13_signum_95d88 l G B hv4) (va_cwS 1 hts (sv_gS wd_933 wd_870 wd_152 wd_871) rfl rfl rfl (by decide +kernel) ⟨Nat.le_of_ble_eq_true rfl, Nat.le_of_ble_eq_true rfl⟩) ⟨sv_blind, fun U hU hW => sv_pre hC hR hS hBs hU hW⟩ rfl rfl hl.1 rfl (lv_room (Nat.le_of_ble_eq_true rfl)) dX1_sideAt_40 ⟨Nat.zero_le _, Nat.zero_le _⟩) hS (fun H locs hR hS => ?_)
        obtain ⟨rfl, rfl⟩ := sv_ret hw
        exact W.iret hx hb hr (fun t ht hW => ⟨⟨rfl, by rw [ht]; exact hR⟩, hS.F ht⟩) hS.2.2 dX1_sideAt_43
    · have hw := sv_ift cc hw
      refine lv_lload_n hx hb dX1_sideAt_20 rfl (lv_at hl 1 rfl) ?_
      obtain ⟨r11, h12, hv5, hw⟩ := sv_b_some hw
      refine sv_call (va_runS (As := [.long x2]) (rest := []) ⟨hx, hb, hml, hown, hts⟩ (mt_J13_signum_95d88 l G B hv5) (va_cwS 1 hts (sv_gS wd_933 wd_870 wd_152 wd_871) rfl rfl rfl (by decide +kernel) ⟨Nat.le_of_ble_eq_true rfl, Nat.le_of_ble_eq_true rfl⟩) ⟨sv_blind, fun U hU hW => sv_pre hC hR hS hBs hU hW⟩ rfl rfl hl.1 rfl (lv_room (Nat.le_of_ble_eq_true rfl)) dX1_sideAt_21 ⟨Nat.zero_le _, Nat.zero_le _⟩) hS (fun H locs hR hS => ?_)
      obtain ⟨rfl, rfl⟩ := sv_ret hw
      exact W.iret hx hb hr (fun t ht hW => ⟨⟨rfl, by rw [ht]; exact hR⟩, hS.F ht⟩) hS.2.2 dX1_sideAt_24
  · have hw := sv_ift cc hw
    refine lv_lload_n hx hb dX1_sideAt_7 rfl (lv_at hl 0 rfl) ?_
    obtain ⟨r13, h14, hv6, hw⟩ := sv_b_some hw
    refine sv_call (va_runS (As := [.long x0]) (rest := []) ⟨hx, hb, hml, hown, hts⟩ (mt_J13_signum_95d88 l G B hv6) (va_cwS 1 hts (sv_gS wd_933 wd_870 wd_152 wd_871) rfl rfl rfl (by decide +kernel) ⟨Nat.le_of_ble_eq_true rfl, Nat.le_of_ble_eq_true rfl⟩) ⟨sv_blind, fun U hU hW => sv_pre hC hR hS hBs hU hW⟩ rfl rfl hl.1 rfl (lv_room (Nat.le_of_ble_eq_true rfl)) dX1_sideAt_8 ⟨Nat.zero_le _, Nat.zero_le _⟩) hS (fun H locs hR hS => ?_)
    obtain ⟨rfl, rfl⟩ := sv_ret hw
    exact W.iret hx hb hr (fun t ht hW => ⟨⟨rfl, by rw [ht]; exact hR⟩, hS.F ht⟩) hS.2.2 dX1_sideAt_11
set_option maxHeartbeats 4000000 in
set_option maxRecDepth 100000 in
theorem mt_X1_sideAt (l : Launch) (G : sv_G) (B : Nat) {x0 : Int64} {x2 : Int64} {x4 : Int64} {x6 : Int64} {h : sv_H} {r : Int32} {hE : sv_H} (hw : fn_X1_sideAt x0 x2 x4 x6 h = some (r, hE)) : Met l yX1_sideAt (.code yX1_sideAt cX1_sideAt 9 (some .int) :: sv_tb) rm_X1_sideAt (sv_Pc G B [.long x0, .long x2, .long x4, .long x6] h) (sv_Q G B (some (.int r)) hE) 0 0 (fun q => B ≤ q) := by
  refine Met.ofW (cc := cX1_sideAt) (maxL := 9) (ret := (some .int)) (by decide +kernel) rfl ?_
  intro p e s m args below meth c s₁ Bd hml hv
  obtain ⟨rfl, hR, hC, hB⟩ := hv
  have hl := lv_entry ([.long x0, .long x2, .long x4, .long x6]) (n := 9) (Nat.le_of_ble_eq_true rfl)
  rw [lg_entry_eq]
  generalize (lg_sl ([.long x0, .long x2, .long x4, .long x6]) ++ List.replicate (9 - (lg_sl ([.long x0, .long x2, .long x4, .long x6])).length) Slot.unset).toArray = ls at hl ⊢
  have hl : lv_has ls 9 [(0, .long x0), (2, .long x2), (4, .long x4), (6, .long x6)] := hl
  exact lk_X1_sideAt_0 ⟨Bd.exec, Bd.bytes, hml, findClass_of_methodNamed Bd.named, fun w h => atoms_spec (ws := .code yX1_sideAt cX1_sideAt 9 (some .int) :: sv_tb) Bd.pre w (List.mem_cons_of_mem _ h), hC, Bd.notSynchronized, Bd.returns, hB, (name_of_methodNamed Bd.named Bd.method).1⟩ hw hR va_S.rf hl

def rm_X1_lieOf : Room := { frames := 2, cells := 0, slots := 0, locals := 72 }
theorem fl_X1_lieOf_52 {s : State} {meth : Method} {args : Array Value} {G : sv_G} {B : Nat} (hts : ∀ w ∈ sv_tb, w.before args s = true) (hC : sv_Cx G B s s.heap) (hni : meth.name = "lieOf") : sv_FL s meth args vwCl RX1 52 2 8 (.array (.object "SectorView$Wall")) false :=
  ⟨_, RX2, TX2, 13, sv_tb, tyX2, rfl, by decide, hts, uw_X2, Or.inl (hts _ wd_497), fun _ h => h, tyX2_ok 8 (by decide), tyX2_ok, nmX2, fun h => by cases h⟩
theorem fl_X1_lieOf_9 {s : State} {meth : Method} {args : Array Value} {G : sv_G} {B : Nat} (hts : ∀ w ∈ sv_tb, w.before args s = true) (hC : sv_Cx G B s s.heap) (hni : meth.name = "lieOf") : sv_FL s meth args vwCl RX1 9 1 0 (.array .int) true :=
  ⟨_, RX1, TX1, 7, sv_tb, tyX1, rfl, by decide, hts, uw_X1, Or.inl (hts _ wd_220), fun _ h => h, tyX1_ok 0 (by decide), tyX1_ok, nmX1, fun _ => Or.inl rfl⟩
theorem fl_X1_lieOf_57 {s : State} {meth : Method} {args : Array Value} {G : sv_G} {B : Nat} (hts : ∀ w ∈ sv_tb, w.before args s = true) (hC : sv_Cx G B s s.heap) (hni : meth.name = "lieOf") : sv_FL s meth args vwCl RX1 57 11 0 .int true :=
  ⟨_, RX11, TX11, 12, sv_tb, tyX11, rfl, by decide, hts, uw_X11, Or.inl (hts _ wd_424), fun _ h => h, tyX11_ok 0 (by decide), tyX11_ok, nmX11, fun _ => Or.inl rfl⟩
theorem fl_X1_lieOf_62 {s : State} {meth : Method} {args : Array Value} {G : sv_G} {B : Nat} (hts : ∀ w ∈ sv_tb, w.before args s = true) (hC : sv_Cx G B s s.heap) (hni : meth.name = "lieOf") : sv_FL s meth args vwCl RX1 62 11 1 .int true :=
  ⟨_, RX11, TX11, 12, sv_tb, tyX11, rfl, by decide, hts, uw_X11, Or.inl (hts _ wd_427), fun _ h => h, tyX11_ok 1 (by decide), tyX11_ok, nmX11, fun _ => Or.inl rfl⟩
theorem fl_X1_lieOf_69 {s : State} {meth : Method} {args : Array Value} {G : sv_G} {B : Nat} (hts : ∀ w ∈ sv_tb, w.before args s = true) (hC : sv_Cx G B s s.heap) (hni : meth.name = "lieOf") : sv_FL s meth args vwCl RX1 69 11 2 .int true :=
  ⟨_, RX11, TX11, 12, sv_tb, tyX11, rfl, by decide, hts, uw_X11, Or.inl (hts _ wd_431), fun _ h => h, tyX11_ok 2 (by decide), tyX11_ok, nmX11, fun _ => Or.inl rfl⟩
theorem fl_X1_lieOf_72 {s : State} {meth : Method} {args : Array Value} {G : sv_G} {B : Nat} (hts : ∀ w ∈ sv_tb, w.before args s = true) (hC : sv_Cx G B s s.heap) (hni : meth.name = "lieOf") : sv_FL s meth args vwCl RX1 72 11 3 .int true :=
  ⟨_, RX11, TX11, 12, sv_tb, tyX11, rfl, by decide, hts, uw_X11, Or.inl (hts _ wd_435), fun _ h => h, tyX11_ok 3 (by decide), tyX11_ok, nmX11, fun _ => Or.inl rfl⟩
theorem fl_X1_lieOf_18 {s : State} {meth : Method} {args : Array Value} {G : sv_G} {B : Nat} (hts : ∀ w ∈ sv_tb, w.before args s = true) (hC : sv_Cx G B s s.heap) (hni : meth.name = "lieOf") : sv_FL s meth args vwCl RX1 18 1 2 (.array .long) true :=
  ⟨_, RX1, TX1, 7, sv_tb, tyX1, rfl, by decide, hts, uw_X1, Or.inl (hts _ wd_224), fun _ h => h, tyX1_ok 2 (by decide), tyX1_ok, nmX1, fun _ => Or.inl rfl⟩
theorem fl_X1_lieOf_22 {s : State} {meth : Method} {args : Array Value} {G : sv_G} {B : Nat} (hts : ∀ w ∈ sv_tb, w.before args s = true) (hC : sv_Cx G B s s.heap) (hni : meth.name = "lieOf") : sv_FL s meth args vwCl RX1 22 1 3 (.array .long) true :=
  ⟨_, RX1, TX1, 7, sv_tb, tyX1, rfl, by decide, hts, uw_X1, Or.inl (hts _ wd_225), fun _ h => h, tyX1_ok 3 (by decide), tyX1_ok, nmX1, fun _ => Or.inl rfl⟩
theorem fl_X1_lieOf_25 {s : State} {meth : Method} {args : Array Value} {G : sv_G} {B : Nat} (hts : ∀ w ∈ sv_tb, w.before args s = true) (hC : sv_Cx G B s s.heap) (hni : meth.name = "lieOf") : sv_FL s meth args vwCl RX1 25 1 4 (.array .long) true :=
  ⟨_, RX1, TX1, 7, sv_tb, tyX1, rfl, by decide, hts, uw_X1, Or.inl (hts _ wd_226), fun _ h => h, tyX1_ok 4 (by decide), tyX1_ok, nmX1, fun _ => Or.inl rfl⟩
theorem fl_X1_lieOf_28 {s : State} {meth : Method} {args : Array Value} {G : sv_G} {B : Nat} (hts : ∀ w ∈ sv_tb, w.before args s = true) (hC : sv_Cx G B s s.heap) (hni : meth.name = "lieOf") : sv_FL s meth args vwCl RX1 28 1 5 (.array .long) true :=
  ⟨_, RX1, TX1, 7, sv_tb, tyX1, rfl, by decide, hts, uw_X1, Or.inl (hts _ wd_227), fun _ h => h, tyX1_ok 5 (by decide), tyX1_ok, nmX1, fun _ => Or.inl rfl⟩
set_option maxHeartbeats 4000000 in
set_option maxRecDepth 100000 in
theorem lk_X1_lieOf_107 {p : Program} {l : Launch} {e : Env} {s : State} {m : MethodId} {args : Array Value} {below : List Frame} {meth : Method} {c : Code} {G : sv_G} {B : Nat} (K : sv_W p s m args meth c cX1_lieOf RX1 11 (some .int) G B "lieOf") {r : Int32} {hE : sv_H} {s0 : Int32} {h : sv_H} (hw : fn_X1_lieOf_107 s0 h = some (r, hE)) {H : Heap} {locs : List Loc} {ls : Array Slot} (hR : sv_R G vwCl sv_ft B h H) (hS : va_S (fun q => B ≤ q) s.heap H locs) (hl : lv_has ls 11 []) : W p l e rm_X1_lieOf s m args below meth c H locs 0 0 (sv_Z below s args G B (some (.int r)) hE) (F0 m 107 ls [.int s0]) := by
  obtain ⟨hx, hb, hml, hown, hts, hC, hlk, hr, hBs, hni⟩ := id K
  unfold fn_X1_lieOf_107 at hw
  obtain ⟨rfl, rfl⟩ := sv_ret hw
  exact W.iret hx hb hr (fun t ht hW => ⟨⟨rfl, by rw [ht]; exact hR⟩, hS.F ht⟩) hS.2.2 dX1_lieOf_107
set_option maxHeartbeats 4000000 in
set_option maxRecDepth 100000 in
theorem lk_X1_lieOf_0 {p : Program} {l : Launch} {e : Env} {s : State} {m : MethodId} {args : Array Value} {below : List Frame} {meth : Method} {c : Code} {G : sv_G} {B : Nat} (K : sv_W p s m args meth c cX1_lieOf RX1 11 (some .int) G B "lieOf") {r : Int32} {hE : sv_H} {x0 : Nat} {x1 : Nat} {x2 : Int32} {x3 : Nat} {h : sv_H} (hw : fn_X1_lieOf x0 x1 x2 x3 h = some (r, hE)) {H : Heap} {locs : List Loc} {ls : Array Slot} (hR : sv_R G vwCl sv_ft B h H) (hS : va_S (fun q => B ≤ q) s.heap H locs) (hl : lv_has ls 11 [(0, .ref x0), (1, .ref x1), (2, .int x2), (3, .ref x3)]) : W p l e rm_X1_lieOf s m args below meth c H locs 0 0 (sv_Z below s args G B (some (.int r)) hE) (F0 m 0 ls []) := by
  obtain ⟨hx, hb, hml, hown, hts, hC, hlk, hr, hBs, hni⟩ := id K
  unfold fn_X1_lieOf at hw
  have hw := (sv_go hw).2
  refine lv_aload_n hx hb dX1_lieOf_0 rfl (lv_at hl 1 rfl) ?_
  obtain ⟨v1, hv, hw⟩ := sv_bd hw
  refine sv_rgP hx hb hown hC.1 hR (fl_X1_lieOf_52 hts hC hni) rfl (by decide) rfl rfl hv dX1_lieOf_1 ?_
  refine lv_aload_n hx hb dX1_lieOf_4 rfl (lv_at hl 0 rfl) ?_
  obtain ⟨v2, hv, hw⟩ := sv_bd hw
  refine sv_rgP hx hb hown hC.1 hR (fl_X1_lieOf_9 hts hC hni) rfl (by decide) rfl rfl hv dX1_lieOf_5 ?_
  refine lv_iload_n hx hb dX1_lieOf_8 rfl (lv_at hl 2 rfl) ?_
  obtain ⟨v3, hv, hw⟩ := sv_bd hw
  refine sv_rlI hx hb hC.1 rfl hR hv dX1_lieOf_9 ?_
  obtain ⟨v4, hv, hw⟩ := sv_bd hw
  refine sv_rlP hx hb hC.1 (c1 := 922) (C := "SectorView$Wall") rfl (by decide) hR hv dX1_lieOf_10 ?_
  refine lv_astore (lv' := [(4, .ref v4), (0, .ref x0), (1, .ref x1), (2, .int x2), (3, .ref x3)]) hx hb dX1_lieOf_11 hl (by decide) rfl (fun ls hl => ?_)
  refine lv_aload_n hx hb dX1_lieOf_13 rfl (lv_at hl 4 rfl) ?_
  refine lv_aload hx hb dX1_lieOf_14 (lv_at hl 0 rfl) ?_
  obtain ⟨v5, hv, hw⟩ := sv_bd hw
  refine sv_rgI hx hb hown hC.1 hR (fl_X1_lieOf_57 hts hC hni) rfl (by decide) rfl rfl hv dX1_lieOf_16 ?_
  refine lv_aload hx hb dX1_lieOf_19 (lv_at hl 0 rfl) ?_
  obtain ⟨v6, hv, hw⟩ := sv_bd hw
  refine sv_rgI hx hb hown hC.1 hR (fl_X1_lieOf_62 hts hC hni) rfl (by decide) rfl rfl hv dX1_lieOf_21 ?_
  obtain ⟨r7, h8, hv1, hw⟩ := sv_b_some hw
  refine sv_call (va_runV (As := [.int v5, .int v6]) (rest := []) ⟨hx, hb, hml, hown, hts⟩ (mt_X11_sideOf l G B hv1) (cwV 2 hts (sv_gV wd_929 wd_866 wd_867 wd_139 wd_868) rfl rfl rfl (by decide +kernel) ⟨Nat.le_of_ble_eq_true rfl, Nat.le_of_ble_eq_true rfl⟩) ⟨sv_blind, sv_recv hC.1 hR (ci := 11) (sv_go hv1).1 (by decide) rfl, fun U hU hW => sv_pre hC hR hS hBs hU hW⟩ rfl rfl hl.1 rfl (lv_room (Nat.le_of_ble_eq_true rfl)) dX1_lieOf_24 ⟨Nat.zero_le _, Nat.zero_le _⟩) hS (fun H locs hR hS => ?_)
  refine lv_lstore (lv' := [(5, .long r7), (4, .ref v4), (0, .ref x0), (1, .ref x1), (2, .int x2), (3, .ref x3)]) hx hb dX1_lieOf_27 hl (by decide) rfl (fun ls hl => ?_)
  refine lv_aload_n hx hb dX1_lieOf_29 rfl (lv_at hl 5 rfl) ?_
  refine lv_aload hx hb dX1_lieOf_30 (lv_at hl 1 rfl) ?_
  obtain ⟨v9, hv, hw⟩ := sv_bd hw
  refine sv_rgI hx hb hown hC.1 hR (fl_X1_lieOf_69 hts hC hni) rfl (by decide) rfl rfl hv dX1_lieOf_32 ?_
  refine lv_aload hx hb dX1_lieOf_35 (lv_at hl 1 rfl) ?_
  obtain ⟨v10, hv, hw⟩ := sv_bd hw
  refine sv_rgI hx hb hown hC.1 hR (fl_X1_lieOf_72 hts hC hni) rfl (by decide) rfl rfl hv dX1_lieOf_37 ?_
  obtain ⟨r11, h12, hv2, hw⟩ := sv_b_some hw
  refine sv_call (va_runV (As := [.int v9, .int v10]) (rest := []) ⟨hx, hb, hml, hown, hts⟩ (mt_X11_sideOf l G B hv2) (cwV 2 hts (sv_gV wd_929 wd_866 wd_867 wd_139 wd_868) rfl rfl rfl (by decide +kernel) ⟨Nat.le_of_ble_eq_true rfl, Nat.le_of_ble_eq_true rfl⟩) ⟨sv_blind, sv_recv hC.1 hR (ci := 11) (sv_go hv2).1 (by decide) rfl, fun U hU hW => sv_pre hC hR hS hBs hU hW⟩ rfl rfl hl.1 rfl (lv_room (Nat.le_of_ble_eq_true rfl)) dX1_lieOf_40 ⟨Nat.zero_le _, Nat.zero_le _⟩) hS (fun H locs hR hS => ?_)
  refine lv_lstore (lv' := [(7, .long r11), (5, .long r7), (4, .ref v4), (0, .ref x0), (1, .ref x1), (2, .int x2), (3, .ref x3)]) hx hb dX1_lieOf_43 hl (by decide) rfl (fun ls hl => ?_)
  refine lv_lload hx hb dX1_lieOf_45 (lv_at hl 1 rfl) ?_
  refine lv_lload hx hb dX1_lieOf_47 (lv_at hl 0 rfl) ?_
  refine lv_aload_n hx hb dX1_lieOf_49 rfl (lv_at hl 3 rfl) ?_
  obtain ⟨v13, hv, hw⟩ := sv_bd hw
  refine sv_rgP hx hb hown hC.1 hR (fl_X1_lieOf_18 hts hC hni) rfl (by decide) rfl rfl hv dX1_lieOf_50 ?_
  refine lv_iload_n hx hb dX1_lieOf_53 rfl (lv_at hl 5 rfl) ?_
  obtain ⟨v14, hv, hw⟩ := sv_bd hw
  refine sv_rlJ hx hb hC.1 rfl hR hv dX1_lieOf_54 ?_
  refine lv_aload_n hx hb dX1_lieOf_55 rfl (lv_at hl 3 rfl) ?_
  obtain ⟨v15, hv, hw⟩ := sv_bd hw
  refine sv_rgP hx hb hown hC.1 hR (fl_X1_lieOf_22 hts hC hni) rfl (by decide) rfl rfl hv dX1_lieOf_56 ?_
  refine lv_iload_n hx hb dX1_lieOf_59 rfl (lv_at hl 5 rfl) ?_
  obtain ⟨v16, hv, hw⟩ := sv_bd hw
  refine sv_rlJ hx hb hC.1 rfl hR hv dX1_lieOf_60 ?_
  obtain ⟨r17, h18, hv3, hw⟩ := sv_b_some hw
  refine sv_call (va_runS (As := [.long r7, .long r11, .long v14, .long v16]) (rest := []) ⟨hx, hb, hml, hown, hts⟩ (mt_X1_sideAt l G B hv3) (va_cwS 4 hts (sv_gS wd_930 wd_931 wd_135 wd_932) rfl rfl rfl (by decide +kernel) ⟨Nat.le_of_ble_eq_true rfl, Nat.le_of_ble_eq_true rfl⟩) ⟨sv_blind, fun U hU hW => sv_pre hC hR hS hBs hU hW⟩ rfl rfl hl.1 rfl (lv_room (Nat.le_of_ble_eq_true rfl)) dX1_lieOf_61 ⟨Nat.zero_le _, Nat.zero_le _⟩) hS (fun H locs hR hS => ?_)
  refine lv_istore (lv' := [(9, .int r17), (7, .long r11), (5, .long r7), (4, .ref v4), (0, .ref x0), (1, .ref x1), (2, .int x2), (3, .ref x3)]) hx hb dX1_lieOf_64 hl (by decide) rfl (fun ls hl => ?_)
  refine lv_lload hx hb dX1_lieOf_66 (lv_at hl 2 rfl) ?_
  refine lv_lload hx hb dX1_lieOf_68 (lv_at hl 1 rfl) ?_
  refine lv_aload_n hx hb dX1_lieOf_70 rfl (lv_at hl 4 rfl) ?_
  obtain ⟨v19, hv, hw⟩ := sv_bd hw
  refine sv_rgP hx hb hown hC.1 hR (fl_X1_lieOf_25 hts hC hni) rfl (by decide) rfl rfl hv dX1_lieOf_71 ?_
  refine lv_iload_n hx hb dX1_lieOf_74 rfl (lv_at hl 6 rfl) ?_
  obtain ⟨v20, hv, hw⟩ := sv_bd hw
  refine sv_rlJ hx hb hC.1 rfl hR hv dX1_lieOf_75 ?_
  refine lv_aload_n hx hb dX1_lieOf_76 rfl (lv_at hl 4 rfl) ?_
  obtain ⟨v21, hv, hw⟩ := sv_bd hw
  refine sv_rgP hx hb hown hC.1 hR (fl_X1_lieOf_28 hts hC hni) rfl (by decide) rfl rfl hv dX1_lieOf_77 ?_
  refine lv_iload_n hx hb dX1_lieOf_80 rfl (lv_at hl 6 rfl) ?_
  obtain ⟨v22, hv, hw⟩ := sv_bd hw
  refine sv_rlJ hx hb hC.1 rfl hR hv dX1_lieOf_81 ?_
  obtain ⟨r23, h24, hv4, hw⟩ := sv_b_some hw
  refine sv_call (va_runS (As := [.long r7, .long r11, .long v20, .long v22]) (rest := []) ⟨hx, hb, hml, hown, hts⟩ (mt_X1_sideAt l G B hv4) (va_cwS 4 hts (sv_gS wd_930 wd_931 wd_135 wd_932) rfl rfl rfl (by decide +kernel) ⟨Nat.le_of_ble_eq_true rfl, Nat.le_of_ble_eq_true rfl⟩) ⟨sv_blind, fun U hU hW => sv_pre hC hR hS hBs hU hW⟩ rfl rfl hl.1 rfl (lv_room (Nat.le_of_ble_eq_true rfl)) dX1_lieOf_82 ⟨Nat.zero_le _, Nat.zero_le _⟩) hS (fun H locs hR hS => ?_)
  refine lv_istore (lv' := [(10, .int r23), (9, .int r17), (7, .long r11), (5, .long r7), (4, .ref v4), (0, .ref x0), (1, .ref x1), (2, .int x2), (3, .ref x3)]) hx hb dX1_lieOf_85 hl (by decide) rfl (fun ls hl => ?_)
  refine lv_iload hx hb dX1_lieOf_87 (lv_at hl 1 rfl) ?_
  refine lv_iload hx hb dX1_lieOf_89 (lv_at hl 0 rfl) ?_
  refine lv_imul hx hb dX1_lieOf_91 ?_
  refine lv_if_ge (tgt := 99) hx hb dX1_lieOf_92 (by decide) (fun cc => ?_) (fun cc => ?_)
  · have hw := sv_ift cc hw
    refine lv_iload hx hb dX1_lieOf_99 (lv_at hl 1 rfl) ?_
    refine lv_iload hx hb dX1_lieOf_101 (lv_at hl 0 rfl) ?_
    refine lv_iadd hx hb dX1_lieOf_103 ?_
    obtain ⟨r25, h26, hv5, hw⟩ := sv_b_some hw
    refine sv_call (va_runS (As := [.int (r17 + r23)]) (rest := []) ⟨hx, hb, hml, hown, hts⟩ (mt_J6_signum_0f7a4 l G B hv5) (va_cwS 1 hts (sv_gS wd_940 wd_941 wd_153 wd_942) rfl rfl rfl (by decide +kernel) ⟨Nat.le_of_ble_eq_true rfl, Nat.le_of_ble_eq_true rfl⟩) ⟨sv_blind, fun U hU hW => sv_pre hC hR hS hBs hU hW⟩ rfl rfl hl.1 rfl (lv_room (Nat.le_of_ble_eq_true rfl)) dX1_lieOf_104 ⟨Nat.zero_le _, Nat.zero_le _⟩) hS (fun H locs hR hS => ?_)
    exact lk_X1_lieOf_107 K hw hR hS (lv_sub hl [] rfl)
  · have hw := sv_iff cc hw
    refine lv_iconst (v := 2) hx hb dX1_lieOf_95 (by decide) ?_
    refine lv_goto (tgt := 107) hx hb dX1_lieOf_96 (by decide) ?_
    exact lk_X1_lieOf_107 K hw hR hS (lv_sub hl [] rfl)
set_option maxHeartbeats 4000000 in
set_option maxRecDepth 100000 in
theorem mt_X1_lieOf (l : Launch) (G : sv_G) (B : Nat) {x0 : Nat} {x1 : Nat} {x2 : Int32} {x3 : Nat} {h : sv_H} {r : Int32} {hE : sv_H} (hw : fn_X1_lieOf x0 x1 x2 x3 h = some (r, hE)) : Met l yX1_lieOf (.code yX1_lieOf cX1_lieOf 11 (some .int) :: sv_tb) rm_X1_lieOf (sv_Pc G B [.ref x0, .ref x1, .int x2, .ref x3] h) (sv_Q G B (some (.int r)) hE) 0 0 (fun q => B ≤ q) := by
  refine Met.ofW (cc := cX1_lieOf) (maxL := 11) (ret := (some .int)) (by decide +kernel) rfl ?_
  intro p e s m args below meth c s₁ Bd hml hv
  obtain ⟨rfl, hR, hC, hB⟩ := hv
  have hl := lv_entry ([.ref x0, .ref x1, .int x2, .ref x3]) (n := 11) (Nat.le_of_ble_eq_true rfl)
  rw [lg_entry_eq]
  generalize (lg_sl ([.ref x0, .ref x1, .int x2, .ref x3]) ++ List.replicate (11 - (lg_sl ([.ref x0, .ref x1, .int x2, .ref x3])).length) Slot.unset).toArray = ls at hl ⊢
  have hl : lv_has ls 11 [(0, .ref x0), (1, .ref x1), (2, .int x2), (3, .ref x3)] := hl
  exact lk_X1_lieOf_0 ⟨Bd.exec, Bd.bytes, hml, findClass_of_methodNamed Bd.named, fun w h => atoms_spec (ws := .code yX1_lieOf cX1_lieOf 11 (some .int) :: sv_tb) Bd.pre w (List.mem_cons_of_mem _ h), hC, Bd.notSynchronized, Bd.returns, hB, (name_of_methodNamed Bd.named Bd.method).1⟩ hw hR va_S.rf hl

def rm_X8_costOf : Room := { frames := 3, cells := 0, slots := 0, locals := 102 }
theorem fl_X8_costOf_12 {s : State} {meth : Method} {args : Array Value} {G : sv_G} {B : Nat} (hts : ∀ w ∈ sv_tb, w.before args s = true) (hC : sv_Cx G B s s.heap) (hni : meth.name = "costOf") : sv_FL s meth args vwCl RX8 12 8 0 (.object "SectorView$Pieces") false :=
  ⟨_, RX8, TX8, 18, sv_tb, tyX8, rfl, by decide, hts, uw_X8, Or.inl (hts _ wd_245), fun _ h => h, tyX8_ok 0 (by decide), tyX8_ok, nmX8, fun h => by cases h⟩
theorem fl_X8_costOf_122 {s : State} {meth : Method} {args : Array Value} {G : sv_G} {B : Nat} (hts : ∀ w ∈ sv_tb, w.before args s = true) (hC : sv_Cx G B s s.heap) (hni : meth.name = "costOf") : sv_FL s meth args vwCl RX8 122 1 1 (.array .int) true :=
  ⟨_, RX1, TX1, 7, sv_tb, tyX1, rfl, by decide, hts, uw_X1, Or.inl (hts _ wd_223), fun _ h => h, tyX1_ok 1 (by decide), tyX1_ok, nmX1, fun _ => Or.inl rfl⟩
set_option maxHeartbeats 4000000 in
set_option maxRecDepth 100000 in
theorem lk_X8_costOf_76 {p : Program} {l : Launch} {e : Env} {s : State} {m : MethodId} {args : Array Value} {below : List Frame} {meth : Method} {c : Code} {G : sv_G} {B : Nat} (K : sv_W p s m args meth c cX8_costOf RX8 9 (some .int) G B "costOf") {r : Int32} {hE : sv_H} {x4 : Int32} {x5 : Int32} {h : sv_H} (hw : fn_X8_costOf_76 x4 x5 h = some (r, hE)) {H : Heap} {locs : List Loc} {ls : Array Slot} (hR : sv_R G vwCl sv_ft B h H) (hS : va_S (fun q => B ≤ q) s.heap H locs) (hl : lv_has ls 9 [(4, .int x4), (5, .int x5)]) : W p l e rm_X8_costOf s m args below meth c H locs 0 0 (sv_Z below s args G B (some (.int r)) hE) (F0 m 76 ls []) := by
  obtain ⟨hx, hb, hml, hown, hts, hC, hlk, hr, hBs, hni⟩ := id K
  unfold fn_X8_costOf_76 at hw
  refine lv_iconst (v := 4) hx hb dX8_costOf_76 (by decide) ?_
  refine lv_iload hx hb dX8_costOf_77 (lv_at hl 0 rfl) ?_
  refine lv_imul hx hb dX8_costOf_79 ?_
  refine lv_iload hx hb dX8_costOf_80 (lv_at hl 1 rfl) ?_
  refine va_mabs hx hb (hml.trans hl.1.symm) hown (hts _ wd_943) (hts _ wd_944) (hts _ wd_150) (hts _ wd_945) (Nat.le_of_ble_eq_true rfl) (Nat.le_of_ble_eq_true rfl) (Nat.zero_le _) (Nat.zero_le _) dX8_costOf_82 ?_
  obtain ⟨r1, er1, hw⟩ := sv_lt hw
  refine W.eq (g2 := F0 m 85 ls (.int r1 :: [.int (4 * x4)])) (by rw [er1]; rfl) ?_
  refine lv_iadd hx hb dX8_costOf_85 ?_
  obtain ⟨rfl, rfl⟩ := sv_ret hw
  exact W.iret hx hb hr (fun t ht hW => ⟨⟨rfl, by rw [ht]; exact hR⟩, hS.F ht⟩) hS.2.2 dX8_costOf_86
set_option maxHeartbeats 4000000 in
set_option maxRecDepth 100000 in
theorem lk_X8_costOf_58 {p : Program} {l : Launch} {e : Env} {s : State} {m : MethodId} {args : Array Value} {below : List Frame} {meth : Method} {c : Code} {G : sv_G} {B : Nat} (K : sv_W p s m args meth c cX8_costOf RX8 9 (some .int) G B "costOf") {r : Int32} {hE : sv_H} {k12 : Nat → Nat → Nat → Int32 → Int32 → Int32 → Int32 → sv_H → Option (Int32 × sv_H)} (hk12 : ∀ {x0 : Nat} {x1 : Nat} {x3 : Nat} {x4 : Int32} {x5 : Int32} {x6 : Int32} {x7 : Int32} {h : sv_H}, k12 x0 x1 x3 x4 x5 x6 x7 h = some (r, hE) → ∀ {H : Heap} {locs : List Loc} {ls : Array Slot}, sv_R G vwCl sv_ft B h H → va_S (fun q => B ≤ q) s.heap H locs → lv_has ls 9 [(0, .ref x0), (1, .ref x1), (3, .ref x3), (4, .int x4), (5, .int x5), (6, .int x6), (7, .int x7)] → W p l e rm_X8_costOf s m args below meth c H locs 0 0 (sv_Z below s args G B (some (.int r)) hE) (F0 m 12 ls [])) {x0 : Nat} {x1 : Nat} {x3 : Nat} {x4 : Int32} {x5 : Int32} {x6 : Int32} {x7 : Int32} {h : sv_H} (hw : fn_X8_costOf_58 k12 x0 x1 x3 x4 x5 x6 x7 h = some (r, hE)) {H : Heap} {locs : List Loc} {ls : Array Slot} (hR : sv_R G vwCl sv_ft B h H) (hS : va_S (fun q => B ≤ q) s.heap H locs) (hl : lv_has ls 9 [(0, .ref x0), (1, .ref x1), (3, .ref x3), (4, .int x4), (5, .int x5), (6, .int x6), (7, .int x7)]) : W p l e rm_X8_costOf s m args below meth c H locs 0 0 (sv_Z below s args G B (some (.int r)) hE) (F0 m 58 ls []) := by
  obtain ⟨hx, hb, hml, hown, hts, hC, hlk, hr, hBs, hni⟩ := id K
  unfold fn_X8_costOf_58 at hw
  refine lv_aload_n hx hb dX8_costOf_58 rfl (lv_at hl 0 rfl) ?_
  obtain ⟨v1, hv, hw⟩ := sv_bd hw
  refine sv_rgP hx hb hown hC.1 hR (fl_X8_costOf_12 hts hC hni) rfl (by decide) rfl rfl hv dX8_costOf_59 ?_
  obtain ⟨v2, hv, hw⟩ := sv_bd hw
  refine sv_rgP hx hb hown hC.1 hR (fl_X8_costOf_122 hts hC hni) rfl (by decide) rfl rfl hv dX8_costOf_62 ?_
  refine lv_iload hx hb dX8_costOf_65 (lv_at hl 5 rfl) ?_
  obtain ⟨v3, hv, hw⟩ := sv_bd hw
  refine sv_rlI hx hb hC.1 rfl hR hv dX8_costOf_67 ?_
  refine lv_istore (lv' := [(6, .int v3), (0, .ref x0), (1, .ref x1), (3, .ref x3), (4, .int x4), (5, .int x5), (7, .int x7)]) hx hb dX8_costOf_68 hl (by decide) rfl (fun ls hl => ?_)
  refine lv_iinc (v := x7 + 1) (lv' := [(7, .int (x7 + 1)), (6, .int v3), (0, .ref x0), (1, .ref x1), (3, .ref x3), (4, .int x4), (5, .int x5)]) hx hb dX8_costOf_70 hl (k := 6) rfl rfl (by decide) rfl (fun ls hl => ?_)
  refine lv_goto (tgt := 12) hx hb dX8_costOf_73 (by decide) ?_
  exact hk12 hw hR hS (lv_sub hl [2, 3, 4, 5, 6, 1, 0] rfl)
set_option maxHeartbeats 4000000 in
set_option maxRecDepth 100000 in
theorem lk_X8_costOf_12b {p : Program} {l : Launch} {e : Env} {s : State} {m : MethodId} {args : Array Value} {below : List Frame} {meth : Method} {c : Code} {G : sv_G} {B : Nat} (K : sv_W p s m args meth c cX8_costOf RX8 9 (some .int) G B "costOf") {r : Int32} {hE : sv_H} {k12 : Nat → Nat → Nat → Int32 → Int32 → Int32 → Int32 → sv_H → Option (Int32 × sv_H)} (hk12 : ∀ {x0 : Nat} {x1 : Nat} {x3 : Nat} {x4 : Int32} {x5 : Int32} {x6 : Int32} {x7 : Int32} {h : sv_H}, k12 x0 x1 x3 x4 x5 x6 x7 h = some (r, hE) → ∀ {H : Heap} {locs : List Loc} {ls : Array Slot}, sv_R G vwCl sv_ft B h H → va_S (fun q => B ≤ q) s.heap H locs → lv_has ls 9 [(0, .ref x0), (1, .ref x1), (3, .ref x3), (4, .int x4), (5, .int x5), (6, .int x6), (7, .int x7)] → W p l e rm_X8_costOf s m args below meth c H locs 0 0 (sv_Z below s args G B (some (.int r)) hE) (F0 m 12 ls [])) {x0 : Nat} {x1 : Nat} {x3 : Nat} {x4 : Int32} {x5 : Int32} {x6 : Int32} {x7 : Int32} {h : sv_H} (hw : fn_X8_costOf_12b k12 x0 x1 x3 x4 x5 x6 x7 h = some (r, hE)) {H : Heap} {locs : List Loc} {ls : Array Slot} (hR : sv_R G vwCl sv_ft B h H) (hS : va_S (fun q => B ≤ q) s.heap H locs) (hl : lv_has ls 9 [(0, .ref x0), (1, .ref x1), (3, .ref x3), (4, .int x4), (5, .int x5), (6, .int x6), (7, .int x7)]) : W p l e rm_X8_costOf s m args below meth c H locs 0 0 (sv_Z below s args G B (some (.int r)) hE) (F0 m 12 ls []) := by
  obtain ⟨hx, hb, hml, hown, hts, hC, hlk, hr, hBs, hni⟩ := id K
  unfold fn_X8_costOf_12b at hw
  refine lv_iload hx hb dX8_costOf_12 (lv_at hl 6 rfl) ?_
  refine lv_sipush (v := 16384) hx hb dX8_costOf_14 (by decide) ?_
  refine lv_icmp_ge (tgt := 76) hx hb dX8_costOf_17 (by decide) (fun cc => ?_) (fun cc => ?_)
  · have hw := sv_ift cc hw
    exact lk_X8_costOf_76 K hw hR hS (lv_sub hl [3, 4] rfl)
  · have hw := sv_iff cc hw
    refine lv_iload hx hb dX8_costOf_20 (lv_at hl 5 rfl) ?_
    refine lv_iconst (v := (-1)) hx hb dX8_costOf_22 (by decide) ?_
    refine lv_icmp_eq (tgt := 76) hx hb dX8_costOf_23 (by decide) (fun cc => ?_) (fun cc => ?_)
    · have hw := sv_ift cc hw
      exact lk_X8_costOf_76 K hw hR hS (lv_sub hl [3, 4] rfl)
    · have hw := sv_iff cc hw
      refine lv_aload_n hx hb dX8_costOf_26 rfl (lv_at hl 0 rfl) ?_
      obtain ⟨v1, hv, hw⟩ := sv_bd hw
      refine sv_rgP hx hb hown hC.1 hR (fl_X8_costOf_12 hts hC hni) rfl (by decide) rfl rfl hv dX8_costOf_27 ?_
      refine lv_aload_n hx hb dX8_costOf_30 rfl (lv_at hl 1 rfl) ?_
      refine lv_iload hx hb dX8_costOf_31 (lv_at hl 5 rfl) ?_
      refine lv_aload_n hx hb dX8_costOf_33 rfl (lv_at hl 2 rfl) ?_
      obtain ⟨r2, h3, hv1, hw⟩ := sv_b_some hw
      refine sv_call (va_runV (As := [.ref x1, .int x6, .ref x3]) (rest := []) ⟨hx, hb, hml, hown, hts⟩ (mt_X1_lieOf l G B hv1) (cwV 3 hts (sv_gV wd_925 wd_926 wd_927 wd_135 wd_928) rfl rfl rfl (by decide +kernel) ⟨Nat.le_of_ble_eq_true rfl, Nat.le_of_ble_eq_true rfl⟩) ⟨sv_blind, sv_recv hC.1 hR (ci := 1) (sv_go hv1).1 (by decide) rfl, fun U hU hW => sv_pre hC hR hS hBs hU hW⟩ rfl rfl hl.1 rfl (lv_room (Nat.le_of_ble_eq_true rfl)) dX8_costOf_34 ⟨Nat.zero_le _, Nat.zero_le _⟩) hS (fun H locs hR hS => ?_)
      refine lv_istore (lv' := [(8, .int r2), (0, .ref x0), (1, .ref x1), (3, .ref x3), (4, .int x4), (5, .int x5), (6, .int x6), (7, .int x7)]) hx hb dX8_costOf_37 hl (by decide) rfl (fun ls hl => ?_)
      refine lv_iload hx hb dX8_costOf_39 (lv_at hl 0 rfl) ?_
      refine lv_iconst (v := 2) hx hb dX8_costOf_41 (by decide) ?_
      refine lv_icmp_ne (tgt := 51) hx hb dX8_costOf_42 (by decide) (fun cc => ?_) (fun cc => ?_)
      · have hw := sv_iff cc hw
        refine lv_iload hx hb dX8_costOf_51 (lv_at hl 5 rfl) ?_
        refine lv_iload hx hb dX8_costOf_53 (lv_at hl 0 rfl) ?_
        refine lv_iadd hx hb dX8_costOf_55 ?_
        refine lv_istore (lv' := [(5, .int (x5 + r2)), (8, .int r2), (0, .ref x0), (1, .ref x1), (3, .ref x3), (4, .int x4), (6, .int x6), (7, .int x7)]) hx hb dX8_costOf_56 hl (by decide) rfl (fun ls hl => ?_)
        exact lk_X8_costOf_58 K hk12 hw hR hS (lv_sub hl [2, 3, 4, 5, 0, 6, 7] rfl)
      · have hw := sv_ift cc hw
        refine lv_iinc (v := x4 + 1) (lv' := [(4, .int (x4 + 1)), (8, .int r2), (0, .ref x0), (1, .ref x1), (3, .ref x3), (5, .int x5), (6, .int x6), (7, .int x7)]) hx hb dX8_costOf_45 hl (k := 4) rfl rfl (by decide) rfl (fun ls hl => ?_)
        refine lv_goto (tgt := 58) hx hb dX8_costOf_48 (by decide) ?_
        exact lk_X8_costOf_58 K hk12 hw hR hS (lv_sub hl [2, 3, 4, 0, 5, 6, 7] rfl)
theorem lk_X8_costOf_12 {p : Program} {l : Launch} {e : Env} {s : State} {m : MethodId} {args : Array Value} {below : List Frame} {meth : Method} {c : Code} {G : sv_G} {B : Nat} (K : sv_W p s m args meth c cX8_costOf RX8 9 (some .int) G B "costOf") {r : Int32} {hE : sv_H} : ∀ (n : Nat) {x0 : Nat} {x1 : Nat} {x3 : Nat} {x4 : Int32} {x5 : Int32} {x6 : Int32} {x7 : Int32} {h : sv_H}, fn_X8_costOf_12 n x0 x1 x3 x4 x5 x6 x7 h = some (r, hE) → ∀ {H : Heap} {locs : List Loc} {ls : Array Slot}, sv_R G vwCl sv_ft B h H → va_S (fun q => B ≤ q) s.heap H locs → lv_has ls 9 [(0, .ref x0), (1, .ref x1), (3, .ref x3), (4, .int x4), (5, .int x5), (6, .int x6), (7, .int x7)] → W p l e rm_X8_costOf s m args below meth c H locs 0 0 (sv_Z below s args G B (some (.int r)) hE) (F0 m 12 ls []) := by
  intro n
  induction n with
  | zero => intro x0 x1 x3 x4 x5 x6 x7 h hw; cases (show (none : Option (Int32 × sv_H)) = some (r, hE) from hw)
  | succ n ih => intro x0 x1 x3 x4 x5 x6 x7 h hw H locs ls hR hS hl; exact lk_X8_costOf_12b K (fun hw => ih hw) hw hR hS hl
set_option maxHeartbeats 4000000 in
set_option maxRecDepth 100000 in
theorem lk_X8_costOf_0 {p : Program} {l : Launch} {e : Env} {s : State} {m : MethodId} {args : Array Value} {below : List Frame} {meth : Method} {c : Code} {G : sv_G} {B : Nat} (K : sv_W p s m args meth c cX8_costOf RX8 9 (some .int) G B "costOf") {r : Int32} {hE : sv_H} {x0 : Nat} {x1 : Nat} {x2 : Int32} {x3 : Nat} {h : sv_H} (hw : fn_X8_costOf x0 x1 x2 x3 h = some (r, hE)) {H : Heap} {locs : List Loc} {ls : Array Slot} (hR : sv_R G vwCl sv_ft B h H) (hS : va_S (fun q => B ≤ q) s.heap H locs) (hl : lv_has ls 9 [(0, .ref x0), (1, .ref x1), (2, .int x2), (3, .ref x3)]) : W p l e rm_X8_costOf s m args below meth c H locs 0 0 (sv_Z below s args G B (some (.int r)) hE) (F0 m 0 ls []) := by
  obtain ⟨hx, hb, hml, hown, hts, hC, hlk, hr, hBs, hni⟩ := id K
  unfold fn_X8_costOf at hw
  have hw := (sv_go hw).2
  refine lv_iconst (v := 0) hx hb dX8_costOf_0 (by decide) ?_
  refine lv_istore (lv' := [(4, .int 0), (0, .ref x0), (1, .ref x1), (2, .int x2), (3, .ref x3)]) hx hb dX8_costOf_1 hl (by decide) rfl (fun ls hl => ?_)
  refine lv_iconst (v := 0) hx hb dX8_costOf_3 (by decide) ?_
  refine lv_istore (lv' := [(5, .int 0), (4, .int 0), (0, .ref x0), (1, .ref x1), (2, .int x2), (3, .ref x3)]) hx hb dX8_costOf_4 hl (by decide) rfl (fun ls hl => ?_)
  refine lv_iload_n hx hb dX8_costOf_6 rfl (lv_at hl 4 rfl) ?_
  refine lv_istore (lv' := [(6, .int x2), (5, .int 0), (4, .int 0), (0, .ref x0), (1, .ref x1), (2, .int x2), (3, .ref x3)]) hx hb dX8_costOf_7 hl (by decide) rfl (fun ls hl => ?_)
  refine lv_iconst (v := 0) hx hb dX8_costOf_9 (by decide) ?_
  refine lv_istore (lv' := [(7, .int 0), (6, .int x2), (5, .int 0), (4, .int 0), (0, .ref x0), (1, .ref x1), (2, .int x2), (3, .ref x3)]) hx hb dX8_costOf_10 hl (by decide) rfl (fun ls hl => ?_)
  exact lk_X8_costOf_12 K sv_fuel hw hR hS (lv_sub hl [4, 5, 7, 3, 2, 1, 0] rfl)
set_option maxHeartbeats 4000000 in
set_option maxRecDepth 100000 in
theorem mt_X8_costOf (l : Launch) (G : sv_G) (B : Nat) {x0 : Nat} {x1 : Nat} {x2 : Int32} {x3 : Nat} {h : sv_H} {r : Int32} {hE : sv_H} (hw : fn_X8_costOf x0 x1 x2 x3 h = some (r, hE)) : Met l yX8_costOf (.code yX8_costOf cX8_costOf 9 (some .int) :: sv_tb) rm_X8_costOf (sv_Pc G B [.ref x0, .ref x1, .int x2, .ref x3] h) (sv_Q G B (some (.int r)) hE) 0 0 (fun q => B ≤ q) := by
  refine Met.ofW (cc := cX8_costOf) (maxL := 9) (ret := (some .int)) (by decide +kernel) rfl ?_
  intro p e s m args below meth c s₁ Bd hml hv
  obtain ⟨rfl, hR, hC, hB⟩ := hv
  have hl := lv_entry ([.ref x0, .ref x1, .int x2, .ref x3]) (n := 9) (Nat.le_of_ble_eq_true rfl)
  rw [lg_entry_eq]
  generalize (lg_sl ([.ref x0, .ref x1, .int x2, .ref x3]) ++ List.replicate (9 - (lg_sl ([.ref x0, .ref x1, .int x2, .ref x3])).length) Slot.unset).toArray = ls at hl ⊢
  have hl : lv_has ls 9 [(0, .ref x0), (1, .ref x1), (2, .int x2), (3, .ref x3)] := hl
  exact lk_X8_costOf_0 ⟨Bd.exec, Bd.bytes, hml, findClass_of_methodNamed Bd.named, fun w h => atoms_spec (ws := .code yX8_costOf cX8_costOf 9 (some .int) :: sv_tb) Bd.pre w (List.mem_cons_of_mem _ h), hC, Bd.notSynchronized, Bd.returns, hB, (name_of_methodNamed Bd.named Bd.method).1⟩ hw hR va_S.rf hl

def rm_X8_bestLine : Room := { frames := 4, cells := 0, slots := 0, locals := 130 }
theorem fl_X8_bestLine_12 {s : State} {meth : Method} {args : Array Value} {G : sv_G} {B : Nat} (hts : ∀ w ∈ sv_tb, w.before args s = true) (hC : sv_Cx G B s s.heap) (hni : meth.name = "bestLine") : sv_FL s meth args vwCl RX8 12 8 0 (.object "SectorView$Pieces") false :=
  ⟨_, RX8, TX8, 18, sv_tb, tyX8, rfl, by decide, hts, uw_X8, Or.inl (hts _ wd_245), fun _ h => h, tyX8_ok 0 (by decide), tyX8_ok, nmX8, fun h => by cases h⟩
theorem fl_X8_bestLine_122 {s : State} {meth : Method} {args : Array Value} {G : sv_G} {B : Nat} (hts : ∀ w ∈ sv_tb, w.before args s = true) (hC : sv_Cx G B s s.heap) (hni : meth.name = "bestLine") : sv_FL s meth args vwCl RX8 122 1 1 (.array .int) true :=
  ⟨_, RX1, TX1, 7, sv_tb, tyX1, rfl, by decide, hts, uw_X1, Or.inl (hts _ wd_223), fun _ h => h, tyX1_ok 1 (by decide), tyX1_ok, nmX1, fun _ => Or.inl rfl⟩
theorem fl_X8_bestLine_115 {s : State} {meth : Method} {args : Array Value} {G : sv_G} {B : Nat} (hts : ∀ w ∈ sv_tb, w.before args s = true) (hC : sv_Cx G B s s.heap) (hni : meth.name = "bestLine") : sv_FL s meth args vwCl RX8 115 2 8 (.array (.object "SectorView$Wall")) false :=
  ⟨_, RX2, TX2, 13, sv_tb, tyX2, rfl, by decide, hts, uw_X2, Or.inl (hts _ wd_499), fun _ h => h, tyX2_ok 8 (by decide), tyX2_ok, nmX2, fun h => by cases h⟩
theorem fl_X8_bestLine_111 {s : State} {meth : Method} {args : Array Value} {G : sv_G} {B : Nat} (hts : ∀ w ∈ sv_tb, w.before args s = true) (hC : sv_Cx G B s s.heap) (hni : meth.name = "bestLine") : sv_FL s meth args vwCl RX8 111 1 0 (.array .int) true :=
  ⟨_, RX1, TX1, 7, sv_tb, tyX1, rfl, by decide, hts, uw_X1, Or.inl (hts _ wd_221), fun _ h => h, tyX1_ok 0 (by decide), tyX1_ok, nmX1, fun _ => Or.inl rfl⟩
set_option maxHeartbeats 4000000 in
set_option maxRecDepth 100000 in
theorem lk_X8_bestLine_96 {p : Program} {l : Launch} {e : Env} {s : State} {m : MethodId} {args : Array Value} {below : List Frame} {meth : Method} {c : Code} {G : sv_G} {B : Nat} (K : sv_W p s m args meth c cX8_bestLine RX8 8 (some .int) G B "bestLine") {r : Int32} {hE : sv_H} {x3 : Int32} {h : sv_H} (hw : fn_X8_bestLine_96 x3 h = some (r, hE)) {H : Heap} {locs : List Loc} {ls : Array Slot} (hR : sv_R G vwCl sv_ft B h H) (hS : va_S (fun q => B ≤ q) s.heap H locs) (hl : lv_has ls 8 [(3, .int x3)]) : W p l e rm_X8_bestLine s m args below meth c H locs 0 0 (sv_Z below s args G B (some (.int r)) hE) (F0 m 96 ls []) := by
  obtain ⟨hx, hb, hml, hown, hts, hC, hlk, hr, hBs, hni⟩ := id K
  unfold fn_X8_bestLine_96 at hw
  refine lv_iload_n hx hb dX8_bestLine_96 rfl (lv_at hl 0 rfl) ?_
  obtain ⟨rfl, rfl⟩ := sv_ret hw
  exact W.iret hx hb hr (fun t ht hW => ⟨⟨rfl, by rw [ht]; exact hR⟩, hS.F ht⟩) hS.2.2 dX8_bestLine_97
set_option maxHeartbeats 4000000 in
set_option maxRecDepth 100000 in
theorem lk_X8_bestLine_78 {p : Program} {l : Launch} {e : Env} {s : State} {m : MethodId} {args : Array Value} {below : List Frame} {meth : Method} {c : Code} {G : sv_G} {B : Nat} (K : sv_W p s m args meth c cX8_bestLine RX8 8 (some .int) G B "bestLine") {r : Int32} {hE : sv_H} {k20 : Nat → Nat → Int32 → Int32 → Int32 → Int32 → Int32 → sv_H → Option (Int32 × sv_H)} (hk20 : ∀ {x0 : Nat} {x1 : Nat} {x2 : Int32} {x3 : Int32} {x4 : Int32} {x5 : Int32} {x6 : Int32} {h : sv_H}, k20 x0 x1 x2 x3 x4 x5 x6 h = some (r, hE) → ∀ {H : Heap} {locs : List Loc} {ls : Array Slot}, sv_R G vwCl sv_ft B h H → va_S (fun q => B ≤ q) s.heap H locs → lv_has ls 8 [(0, .ref x0), (1, .ref x1), (2, .int x2), (3, .int x3), (4, .int x4), (5, .int x5), (6, .int x6)] → W p l e rm_X8_bestLine s m args below meth c H locs 0 0 (sv_Z below s args G B (some (.int r)) hE) (F0 m 20 ls [])) {x0 : Nat} {x1 : Nat} {x2 : Int32} {x3 : Int32} {x4 : Int32} {x5 : Int32} {x6 : Int32} {h : sv_H} (hw : fn_X8_bestLine_78 k20 x0 x1 x2 x3 x4 x5 x6 h = some (r, hE)) {H : Heap} {locs : List Loc} {ls : Array Slot} (hR : sv_R G vwCl sv_ft B h H) (hS : va_S (fun q => B ≤ q) s.heap H locs) (hl : lv_has ls 8 [(0, .ref x0), (1, .ref x1), (2, .int x2), (3, .int x3), (4, .int x4), (5, .int x5), (6, .int x6)]) : W p l e rm_X8_bestLine s m args below meth c H locs 0 0 (sv_Z below s args G B (some (.int r)) hE) (F0 m 78 ls []) := by
  obtain ⟨hx, hb, hml, hown, hts, hC, hlk, hr, hBs, hni⟩ := id K
  unfold fn_X8_bestLine_78 at hw
  refine lv_aload_n hx hb dX8_bestLine_78 rfl (lv_at hl 0 rfl) ?_
  obtain ⟨v1, hv, hw⟩ := sv_bd hw
  refine sv_rgP hx hb hown hC.1 hR (fl_X8_bestLine_12 hts hC hni) rfl (by decide) rfl rfl hv dX8_bestLine_79 ?_
  obtain ⟨v2, hv, hw⟩ := sv_bd hw
  refine sv_rgP hx hb hown hC.1 hR (fl_X8_bestLine_122 hts hC hni) rfl (by decide) rfl rfl hv dX8_bestLine_82 ?_
  refine lv_iload hx hb dX8_bestLine_85 (lv_at hl 5 rfl) ?_
  obtain ⟨v3, hv, hw⟩ := sv_bd hw
  refine sv_rlI hx hb hC.1 rfl hR hv dX8_bestLine_87 ?_
  refine lv_istore (lv' := [(5, .int v3), (0, .ref x0), (1, .ref x1), (2, .int x2), (3, .int x3), (4, .int x4), (6, .int x6)]) hx hb dX8_bestLine_88 hl (by decide) rfl (fun ls hl => ?_)
  refine lv_iinc (v := x6 + 1) (lv' := [(6, .int (x6 + 1)), (5, .int v3), (0, .ref x0), (1, .ref x1), (2, .int x2), (3, .int x3), (4, .int x4)]) hx hb dX8_bestLine_90 hl (k := 6) rfl rfl (by decide) rfl (fun ls hl => ?_)
  refine lv_goto (tgt := 20) hx hb dX8_bestLine_93 (by decide) ?_
  exact hk20 hw hR hS (lv_sub hl [2, 3, 4, 5, 6, 1, 0] rfl)
set_option maxHeartbeats 4000000 in
set_option maxRecDepth 100000 in
theorem lk_X8_bestLine_20b {p : Program} {l : Launch} {e : Env} {s : State} {m : MethodId} {args : Array Value} {below : List Frame} {meth : Method} {c : Code} {G : sv_G} {B : Nat} (K : sv_W p s m args meth c cX8_bestLine RX8 8 (some .int) G B "bestLine") {r : Int32} {hE : sv_H} {k20 : Nat → Nat → Int32 → Int32 → Int32 → Int32 → Int32 → sv_H → Option (Int32 × sv_H)} (hk20 : ∀ {x0 : Nat} {x1 : Nat} {x2 : Int32} {x3 : Int32} {x4 : Int32} {x5 : Int32} {x6 : Int32} {h : sv_H}, k20 x0 x1 x2 x3 x4 x5 x6 h = some (r, hE) → ∀ {H : Heap} {locs : List Loc} {ls : Array Slot}, sv_R G vwCl sv_ft B h H → va_S (fun q => B ≤ q) s.heap H locs → lv_has ls 8 [(0, .ref x0), (1, .ref x1), (2, .int x2), (3, .int x3), (4, .int x4), (5, .int x5), (6, .int x6)] → W p l e rm_X8_bestLine s m args below meth c H locs 0 0 (sv_Z below s args G B (some (.int r)) hE) (F0 m 20 ls [])) {x0 : Nat} {x1 : Nat} {x2 : Int32} {x3 : Int32} {x4 : Int32} {x5 : Int32} {x6 : Int32} {h : sv_H} (hw : fn_X8_bestLine_20b k20 x0 x1 x2 x3 x4 x5 x6 h = some (r, hE)) {H : Heap} {locs : List Loc} {ls : Array Slot} (hR : sv_R G vwCl sv_ft B h H) (hS : va_S (fun q => B ≤ q) s.heap H locs) (hl : lv_has ls 8 [(0, .ref x0), (1, .ref x1), (2, .int x2), (3, .int x3), (4, .int x4), (5, .int x5), (6, .int x6)]) : W p l e rm_X8_bestLine s m args below meth c H locs 0 0 (sv_Z below s args G B (some (.int r)) hE) (F0 m 20 ls []) := by
  obtain ⟨hx, hb, hml, hown, hts, hC, hlk, hr, hBs, hni⟩ := id K
  unfold fn_X8_bestLine_20b at hw
  refine lv_iload hx hb dX8_bestLine_20 (lv_at hl 6 rfl) ?_
  refine lv_bipush (v := 16) hx hb dX8_bestLine_22 (by decide) ?_
  refine lv_icmp_ge (tgt := 96) hx hb dX8_bestLine_24 (by decide) (fun cc => ?_) (fun cc => ?_)
  · have hw := sv_ift cc hw
    exact lk_X8_bestLine_96 K hw hR hS (lv_sub hl [3] rfl)
  · have hw := sv_iff cc hw
    refine lv_iload hx hb dX8_bestLine_27 (lv_at hl 5 rfl) ?_
    refine lv_iconst (v := (-1)) hx hb dX8_bestLine_29 (by decide) ?_
    refine lv_icmp_eq (tgt := 96) hx hb dX8_bestLine_30 (by decide) (fun cc => ?_) (fun cc => ?_)
    · have hw := sv_ift cc hw
      exact lk_X8_bestLine_96 K hw hR hS (lv_sub hl [3] rfl)
    · have hw := sv_iff cc hw
      refine lv_aload_n hx hb dX8_bestLine_33 rfl (lv_at hl 0 rfl) ?_
      refine lv_aload_n hx hb dX8_bestLine_34 rfl (lv_at hl 1 rfl) ?_
      refine lv_iload_n hx hb dX8_bestLine_35 rfl (lv_at hl 2 rfl) ?_
      refine lv_aload_n hx hb dX8_bestLine_36 rfl (lv_at hl 1 rfl) ?_
      obtain ⟨v1, hv, hw⟩ := sv_bd hw
      refine sv_rgP hx hb hown hC.1 hR (fl_X8_bestLine_115 hts hC hni) rfl (by decide) rfl rfl hv dX8_bestLine_37 ?_
      refine lv_aload_n hx hb dX8_bestLine_40 rfl (lv_at hl 0 rfl) ?_
      obtain ⟨v2, hv, hw⟩ := sv_bd hw
      refine sv_rgP hx hb hown hC.1 hR (fl_X8_bestLine_12 hts hC hni) rfl (by decide) rfl rfl hv dX8_bestLine_41 ?_
      obtain ⟨v3, hv, hw⟩ := sv_bd hw
      refine sv_rgP hx hb hown hC.1 hR (fl_X8_bestLine_111 hts hC hni) rfl (by decide) rfl rfl hv dX8_bestLine_44 ?_
      refine lv_iload hx hb dX8_bestLine_47 (lv_at hl 5 rfl) ?_
      obtain ⟨v4, hv, hw⟩ := sv_bd hw
      refine sv_rlI hx hb hC.1 rfl hR hv dX8_bestLine_49 ?_
      obtain ⟨v5, hv, hw⟩ := sv_bd hw
      refine sv_rlP hx hb hC.1 (c1 := 922) (C := "SectorView$Wall") rfl (by decide) hR hv dX8_bestLine_50 ?_
      obtain ⟨r6, h7, hv1, hw⟩ := sv_b_some hw
      refine sv_call (va_runV (As := [.ref x1, .int x2, .ref v5]) (rest := []) ⟨hx, hb, hml, hown, hts⟩ (mt_X8_costOf l G B hv1) (cwV 3 hts (sv_gV wd_921 wd_923 wd_16 wd_134 wd_924) rfl rfl rfl (by decide +kernel) ⟨Nat.le_of_ble_eq_true rfl, Nat.le_of_ble_eq_true rfl⟩) ⟨sv_blind, sv_recv hC.1 hR (ci := 8) (sv_go hv1).1 (by decide) rfl, fun U hU hW => sv_pre hC hR hS hBs hU hW⟩ rfl rfl hl.1 rfl (lv_room (Nat.le_of_ble_eq_true rfl)) dX8_bestLine_51 ⟨Nat.zero_le _, Nat.zero_le _⟩) hS (fun H locs hR hS => ?_)
      refine lv_istore (lv' := [(7, .int r6), (0, .ref x0), (1, .ref x1), (2, .int x2), (3, .int x3), (4, .int x4), (5, .int x5), (6, .int x6)]) hx hb dX8_bestLine_54 hl (by decide) rfl (fun ls hl => ?_)
      refine lv_iload hx hb dX8_bestLine_56 (lv_at hl 0 rfl) ?_
      refine lv_iload hx hb dX8_bestLine_58 (lv_at hl 5 rfl) ?_
      refine lv_icmp_ge (tgt := 78) hx hb dX8_bestLine_60 (by decide) (fun cc => ?_) (fun cc => ?_)
      · have hw := sv_ift cc hw
        exact lk_X8_bestLine_78 K hk20 hw hR hS (lv_sub hl [1, 2, 3, 4, 5, 6, 7] rfl)
      · have hw := sv_iff cc hw
        refine lv_iload hx hb dX8_bestLine_63 (lv_at hl 0 rfl) ?_
        refine lv_istore (lv' := [(4, .int r6), (7, .int r6), (0, .ref x0), (1, .ref x1), (2, .int x2), (3, .int x3), (5, .int x5), (6, .int x6)]) hx hb dX8_bestLine_65 hl (by decide) rfl (fun ls hl => ?_)
        refine lv_aload_n hx hb dX8_bestLine_67 rfl (lv_at hl 2 rfl) ?_
        obtain ⟨v8, hv, hw⟩ := sv_bd hw
        refine sv_rgP hx hb hown hC.1 hR (fl_X8_bestLine_12 hts hC hni) rfl (by decide) rfl rfl hv dX8_bestLine_68 ?_
        obtain ⟨v9, hv, hw⟩ := sv_bd hw
        refine sv_rgP hx hb hown hC.1 hR (fl_X8_bestLine_111 hts hC hni) rfl (by decide) rfl rfl hv dX8_bestLine_71 ?_
        refine lv_iload hx hb dX8_bestLine_74 (lv_at hl 6 rfl) ?_
        obtain ⟨v10, hv, hw⟩ := sv_bd hw
        refine sv_rlI hx hb hC.1 rfl hR hv dX8_bestLine_76 ?_
        refine lv_istore_n (lv' := [(3, .int v10), (4, .int r6), (7, .int r6), (0, .ref x0), (1, .ref x1), (2, .int x2), (5, .int x5), (6, .int x6)]) hx hb dX8_bestLine_77 rfl hl (by decide) rfl (fun ls hl => ?_)
        exact lk_X8_bestLine_78 K hk20 hw hR hS (lv_sub hl [3, 4, 5, 0, 1, 6, 7] rfl)
theorem lk_X8_bestLine_20 {p : Program} {l : Launch} {e : Env} {s : State} {m : MethodId} {args : Array Value} {below : List Frame} {meth : Method} {c : Code} {G : sv_G} {B : Nat} (K : sv_W p s m args meth c cX8_bestLine RX8 8 (some .int) G B "bestLine") {r : Int32} {hE : sv_H} : ∀ (n : Nat) {x0 : Nat} {x1 : Nat} {x2 : Int32} {x3 : Int32} {x4 : Int32} {x5 : Int32} {x6 : Int32} {h : sv_H}, fn_X8_bestLine_20 n x0 x1 x2 x3 x4 x5 x6 h = some (r, hE) → ∀ {H : Heap} {locs : List Loc} {ls : Array Slot}, sv_R G vwCl sv_ft B h H → va_S (fun q => B ≤ q) s.heap H locs → lv_has ls 8 [(0, .ref x0), (1, .ref x1), (2, .int x2), (3, .int x3), (4, .int x4), (5, .int x5), (6, .int x6)] → W p l e rm_X8_bestLine s m args below meth c H locs 0 0 (sv_Z below s args G B (some (.int r)) hE) (F0 m 20 ls []) := by
  intro n
  induction n with
  | zero => intro x0 x1 x2 x3 x4 x5 x6 h hw; cases (show (none : Option (Int32 × sv_H)) = some (r, hE) from hw)
  | succ n ih => intro x0 x1 x2 x3 x4 x5 x6 h hw H locs ls hR hS hl; exact lk_X8_bestLine_20b K (fun hw => ih hw) hw hR hS hl
set_option maxHeartbeats 4000000 in
set_option maxRecDepth 100000 in
theorem lk_X8_bestLine_0 {p : Program} {l : Launch} {e : Env} {s : State} {m : MethodId} {args : Array Value} {below : List Frame} {meth : Method} {c : Code} {G : sv_G} {B : Nat} (K : sv_W p s m args meth c cX8_bestLine RX8 8 (some .int) G B "bestLine") {r : Int32} {hE : sv_H} {x0 : Nat} {x1 : Nat} {x2 : Int32} {h : sv_H} (hw : fn_X8_bestLine x0 x1 x2 h = some (r, hE)) {H : Heap} {locs : List Loc} {ls : Array Slot} (hR : sv_R G vwCl sv_ft B h H) (hS : va_S (fun q => B ≤ q) s.heap H locs) (hl : lv_has ls 8 [(0, .ref x0), (1, .ref x1), (2, .int x2)]) : W p l e rm_X8_bestLine s m args below meth c H locs 0 0 (sv_Z below s args G B (some (.int r)) hE) (F0 m 0 ls []) := by
  obtain ⟨hx, hb, hml, hown, hts, hC, hlk, hr, hBs, hni⟩ := id K
  unfold fn_X8_bestLine at hw
  have hw := (sv_go hw).2
  refine lv_aload_n hx hb dX8_bestLine_0 rfl (lv_at hl 0 rfl) ?_
  obtain ⟨v1, hv, hw⟩ := sv_bd hw
  refine sv_rgP hx hb hown hC.1 hR (fl_X8_bestLine_12 hts hC hni) rfl (by decide) rfl rfl hv dX8_bestLine_1 ?_
  obtain ⟨v2, hv, hw⟩ := sv_bd hw
  refine sv_rgP hx hb hown hC.1 hR (fl_X8_bestLine_111 hts hC hni) rfl (by decide) rfl rfl hv dX8_bestLine_4 ?_
  refine lv_iload_n hx hb dX8_bestLine_7 rfl (lv_at hl 2 rfl) ?_
  obtain ⟨v3, hv, hw⟩ := sv_bd hw
  refine sv_rlI hx hb hC.1 rfl hR hv dX8_bestLine_8 ?_
  refine lv_istore_n (lv' := [(3, .int v3), (0, .ref x0), (1, .ref x1), (2, .int x2)]) hx hb dX8_bestLine_9 rfl hl (by decide) rfl (fun ls hl => ?_)
  refine lv_ldc (v := 81920) hx hb hown (hts _ wd_920) dX8_bestLine_10 ?_
  refine lv_istore (lv' := [(4, .int 81920), (3, .int v3), (0, .ref x0), (1, .ref x1), (2, .int x2)]) hx hb dX8_bestLine_12 hl (by decide) rfl (fun ls hl => ?_)
  refine lv_iload_n hx hb dX8_bestLine_14 rfl (lv_at hl 4 rfl) ?_
  refine lv_istore (lv' := [(5, .int x2), (4, .int 81920), (3, .int v3), (0, .ref x0), (1, .ref x1), (2, .int x2)]) hx hb dX8_bestLine_15 hl (by decide) rfl (fun ls hl => ?_)
  refine lv_iconst (v := 0) hx hb dX8_bestLine_17 (by decide) ?_
  refine lv_istore (lv' := [(6, .int 0), (5, .int x2), (4, .int 81920), (3, .int v3), (0, .ref x0), (1, .ref x1), (2, .int x2)]) hx hb dX8_bestLine_18 hl (by decide) rfl (fun ls hl => ?_)
  exact lk_X8_bestLine_20 K sv_fuel hw hR hS (lv_sub hl [4, 5, 6, 3, 2, 1, 0] rfl)
set_option maxHeartbeats 4000000 in
set_option maxRecDepth 100000 in
theorem mt_X8_bestLine (l : Launch) (G : sv_G) (B : Nat) {x0 : Nat} {x1 : Nat} {x2 : Int32} {h : sv_H} {r : Int32} {hE : sv_H} (hw : fn_X8_bestLine x0 x1 x2 h = some (r, hE)) : Met l yX8_bestLine (.code yX8_bestLine cX8_bestLine 8 (some .int) :: sv_tb) rm_X8_bestLine (sv_Pc G B [.ref x0, .ref x1, .int x2] h) (sv_Q G B (some (.int r)) hE) 0 0 (fun q => B ≤ q) := by
  refine Met.ofW (cc := cX8_bestLine) (maxL := 8) (ret := (some .int)) (by decide +kernel) rfl ?_
  intro p e s m args below meth c s₁ Bd hml hv
  obtain ⟨rfl, hR, hC, hB⟩ := hv
  have hl := lv_entry ([.ref x0, .ref x1, .int x2]) (n := 8) (Nat.le_of_ble_eq_true rfl)
  rw [lg_entry_eq]
  generalize (lg_sl ([.ref x0, .ref x1, .int x2]) ++ List.replicate (8 - (lg_sl ([.ref x0, .ref x1, .int x2])).length) Slot.unset).toArray = ls at hl ⊢
  have hl : lv_has ls 8 [(0, .ref x0), (1, .ref x1), (2, .int x2)] := hl
  exact lk_X8_bestLine_0 ⟨Bd.exec, Bd.bytes, hml, findClass_of_methodNamed Bd.named, fun w h => atoms_spec (ws := .code yX8_bestLine cX8_bestLine 8 (some .int) :: sv_tb) Bd.pre w (List.mem_cons_of_mem _ h), hC, Bd.notSynchronized, Bd.returns, hB, (name_of_methodNamed Bd.named Bd.method).1⟩ hw hR va_S.rf hl

def rm_X8_append : Room := { frames := 0, cells := 0, slots := 0, locals := 0 }
theorem fl_X8_append_143 {s : State} {meth : Method} {args : Array Value} {G : sv_G} {B : Nat} (hts : ∀ w ∈ sv_tb, w.before args s = true) (hC : sv_Cx G B s s.heap) (hni : meth.name = "append") : sv_FL s meth args vwCl RX8 143 8 17 .int true :=
  ⟨_, RX8, TX8, 18, sv_tb, tyX8, rfl, by decide, hts, uw_X8, Or.inl (hts _ wd_270), fun _ h => h, tyX8_ok 17 (by decide), tyX8_ok, nmX8, fun _ => Or.inl rfl⟩
theorem fl_X8_append_140 {s : State} {meth : Method} {args : Array Value} {G : sv_G} {B : Nat} (hts : ∀ w ∈ sv_tb, w.before args s = true) (hC : sv_Cx G B s s.heap) (hni : meth.name = "append") : sv_FL s meth args vwCl RX8 140 8 15 .int true :=
  ⟨_, RX8, TX8, 18, sv_tb, tyX8, rfl, by decide, hts, uw_X8, Or.inl (hts _ wd_268), fun _ h => h, tyX8_ok 15 (by decide), tyX8_ok, nmX8, fun _ => Or.inl rfl⟩
theorem fl_X8_append_12 {s : State} {meth : Method} {args : Array Value} {G : sv_G} {B : Nat} (hts : ∀ w ∈ sv_tb, w.before args s = true) (hC : sv_Cx G B s s.heap) (hni : meth.name = "append") : sv_FL s meth args vwCl RX8 12 8 0 (.object "SectorView$Pieces") false :=
  ⟨_, RX8, TX8, 18, sv_tb, tyX8, rfl, by decide, hts, uw_X8, Or.inl (hts _ wd_245), fun _ h => h, tyX8_ok 0 (by decide), tyX8_ok, nmX8, fun h => by cases h⟩
theorem fl_X8_append_122 {s : State} {meth : Method} {args : Array Value} {G : sv_G} {B : Nat} (hts : ∀ w ∈ sv_tb, w.before args s = true) (hC : sv_Cx G B s s.heap) (hni : meth.name = "append") : sv_FL s meth args vwCl RX8 122 1 1 (.array .int) true :=
  ⟨_, RX1, TX1, 7, sv_tb, tyX1, rfl, by decide, hts, uw_X1, Or.inl (hts _ wd_223), fun _ h => h, tyX1_ok 1 (by decide), tyX1_ok, nmX1, fun _ => Or.inl rfl⟩
theorem fl_X8_append_89 {s : State} {meth : Method} {args : Array Value} {G : sv_G} {B : Nat} (hts : ∀ w ∈ sv_tb, w.before args s = true) (hC : sv_Cx G B s s.heap) (hni : meth.name = "append") : sv_FL s meth args vwCl RX8 89 8 16 .int true :=
  ⟨_, RX8, TX8, 18, sv_tb, tyX8, rfl, by decide, hts, uw_X8, Or.inl (hts _ wd_269), fun _ h => h, tyX8_ok 16 (by decide), tyX8_ok, nmX8, fun _ => Or.inl rfl⟩
theorem fl_X8_append_92 {s : State} {meth : Method} {args : Array Value} {G : sv_G} {B : Nat} (hts : ∀ w ∈ sv_tb, w.before args s = true) (hC : sv_Cx G B s s.heap) (hni : meth.name = "append") : sv_FL s meth args vwCl RX8 92 8 14 .int true :=
  ⟨_, RX8, TX8, 18, sv_tb, tyX8, rfl, by decide, hts, uw_X8, Or.inl (hts _ wd_267), fun _ h => h, tyX8_ok 14 (by decide), tyX8_ok, nmX8, fun _ => Or.inl rfl⟩
set_option maxHeartbeats 4000000 in
set_option maxRecDepth 100000 in
theorem lk_X8_append_86 {p : Program} {l : Launch} {e : Env} {s : State} {m : MethodId} {args : Array Value} {below : List Frame} {meth : Method} {c : Code} {G : sv_G} {B : Nat} (K : sv_W p s m args meth c cX8_append RX8 3 none G B "append") {r : Unit} {hE : sv_H} {h : sv_H} (hw : fn_X8_append_86 h = some (r, hE)) {H : Heap} {locs : List Loc} {ls : Array Slot} (hR : sv_R G vwCl sv_ft B h H) (hS : va_S (fun q => B ≤ q) s.heap H locs) (hl : lv_has ls 3 []) : W p l e rm_X8_append s m args below meth c H locs 0 0 (sv_Z below s args G B none hE) (F0 m 86 ls []) := by
  obtain ⟨hx, hb, hml, hown, hts, hC, hlk, hr, hBs, hni⟩ := id K
  unfold fn_X8_append_86 at hw
  obtain ⟨rfl, rfl⟩ := sv_ret hw
  exact W.vret hx hb hr (fun t ht hW => ⟨⟨rfl, by rw [ht]; exact hR⟩, hS.F ht⟩) hS.2.2 dX8_append_86
set_option maxHeartbeats 4000000 in
set_option maxRecDepth 100000 in
theorem lk_X8_append_81 {p : Program} {l : Launch} {e : Env} {s : State} {m : MethodId} {args : Array Value} {below : List Frame} {meth : Method} {c : Code} {G : sv_G} {B : Nat} (K : sv_W p s m args meth c cX8_append RX8 3 none G B "append") {r : Unit} {hE : sv_H} {x0 : Nat} {x1 : Int32} {h : sv_H} (hw : fn_X8_append_81 x0 x1 h = some (r, hE)) {H : Heap} {locs : List Loc} {ls : Array Slot} (hR : sv_R G vwCl sv_ft B h H) (hS : va_S (fun q => B ≤ q) s.heap H locs) (hl : lv_has ls 3 [(0, .ref x0), (1, .int x1)]) : W p l e rm_X8_append s m args below meth c H locs 0 0 (sv_Z below s args G B none hE) (F0 m 81 ls []) := by
  obtain ⟨hx, hb, hml, hown, hts, hC, hlk, hr, hBs, hni⟩ := id K
  unfold fn_X8_append_81 at hw
  refine lv_aload_n hx hb dX8_append_81 rfl (lv_at hl 0 rfl) ?_
  refine lv_iload_n hx hb dX8_append_82 rfl (lv_at hl 1 rfl) ?_
  obtain ⟨h1, hv, hw⟩ := sv_bd hw
  refine sv_rpI hx hb hown hC.1 hR hS (fl_X8_append_143 hts hC hni) rfl (by decide) rfl rfl hv dX8_append_83 (fun H locs hR hS => ?_)
  exact lk_X8_append_86 K hw hR hS (lv_sub hl [] rfl)
set_option maxHeartbeats 4000000 in
set_option maxRecDepth 100000 in
theorem lk_X8_append_44 {p : Program} {l : Launch} {e : Env} {s : State} {m : MethodId} {args : Array Value} {below : List Frame} {meth : Method} {c : Code} {G : sv_G} {B : Nat} (K : sv_W p s m args meth c cX8_append RX8 3 none G B "append") {r : Unit} {hE : sv_H} {x0 : Nat} {x1 : Int32} {h : sv_H} (hw : fn_X8_append_44 x0 x1 h = some (r, hE)) {H : Heap} {locs : List Loc} {ls : Array Slot} (hR : sv_R G vwCl sv_ft B h H) (hS : va_S (fun q => B ≤ q) s.heap H locs) (hl : lv_has ls 3 [(0, .ref x0), (1, .int x1)]) : W p l e rm_X8_append s m args below meth c H locs 0 0 (sv_Z below s args G B none hE) (F0 m 44 ls []) := by
  obtain ⟨hx, hb, hml, hown, hts, hC, hlk, hr, hBs, hni⟩ := id K
  unfold fn_X8_append_44 at hw
  refine lv_aload_n hx hb dX8_append_44 rfl (lv_at hl 0 rfl) ?_
  refine lv_iload_n hx hb dX8_append_45 rfl (lv_at hl 1 rfl) ?_
  obtain ⟨h1, hv, hw⟩ := sv_bd hw
  refine sv_rpI hx hb hown hC.1 hR hS (fl_X8_append_140 hts hC hni) rfl (by decide) rfl rfl hv dX8_append_46 (fun H locs hR hS => ?_)
  refine lv_goto (tgt := 86) hx hb dX8_append_49 (by decide) ?_
  exact lk_X8_append_86 K hw hR hS (lv_sub hl [] rfl)
set_option maxHeartbeats 4000000 in
set_option maxRecDepth 100000 in
theorem lk_X8_append_0 {p : Program} {l : Launch} {e : Env} {s : State} {m : MethodId} {args : Array Value} {below : List Frame} {meth : Method} {c : Code} {G : sv_G} {B : Nat} (K : sv_W p s m args meth c cX8_append RX8 3 none G B "append") {r : Unit} {hE : sv_H} {x0 : Nat} {x1 : Int32} {x2 : Int32} {h : sv_H} (hw : fn_X8_append x0 x1 x2 h = some (r, hE)) {H : Heap} {locs : List Loc} {ls : Array Slot} (hR : sv_R G vwCl sv_ft B h H) (hS : va_S (fun q => B ≤ q) s.heap H locs) (hl : lv_has ls 3 [(0, .ref x0), (1, .int x1), (2, .int x2)]) : W p l e rm_X8_append s m args below meth c H locs 0 0 (sv_Z below s args G B none hE) (F0 m 0 ls []) := by
  obtain ⟨hx, hb, hml, hown, hts, hC, hlk, hr, hBs, hni⟩ := id K
  unfold fn_X8_append at hw
  have hw := (sv_go hw).2
  refine lv_aload_n hx hb dX8_append_0 rfl (lv_at hl 0 rfl) ?_
  obtain ⟨v1, hv, hw⟩ := sv_bd hw
  refine sv_rgP hx hb hown hC.1 hR (fl_X8_append_12 hts hC hni) rfl (by decide) rfl rfl hv dX8_append_1 ?_
  obtain ⟨v2, hv, hw⟩ := sv_bd hw
  refine sv_rgP hx hb hown hC.1 hR (fl_X8_append_122 hts hC hni) rfl (by decide) rfl rfl hv dX8_append_4 ?_
  refine lv_iload_n hx hb dX8_append_7 rfl (lv_at hl 1 rfl) ?_
  refine lv_iconst (v := (-1)) hx hb dX8_append_8 (by decide) ?_
  obtain ⟨h3, hv, hw⟩ := sv_bd hw
  refine sv_rsI hx hb hC.1 rfl hR hS hv dX8_append_9 (fun H locs hR hS => ?_)
  refine lv_iload_n hx hb dX8_append_10 rfl (lv_at hl 2 rfl) ?_
  refine lv_iconst (v := 1) hx hb dX8_append_11 (by decide) ?_
  refine lv_icmp_ne (tgt := 52) hx hb dX8_append_12 (by decide) (fun cc => ?_) (fun cc => ?_)
  · have hw := sv_iff cc hw
    refine lv_aload_n hx hb dX8_append_52 rfl (lv_at hl 0 rfl) ?_
    obtain ⟨v4, hv, hw⟩ := sv_bd hw
    refine sv_rgI hx hb hown hC.1 hR (fl_X8_append_89 hts hC hni) rfl (by decide) rfl rfl hv dX8_append_53 ?_
    refine lv_iconst (v := (-1)) hx hb dX8_append_56 (by decide) ?_
    refine lv_icmp_ne (tgt := 68) hx hb dX8_append_57 (by decide) (fun cc => ?_) (fun cc => ?_)
    · have hw := sv_iff cc hw
      refine lv_aload_n hx hb dX8_append_68 rfl (lv_at hl 0 rfl) ?_
      obtain ⟨v5, hv, hw⟩ := sv_bd hw
      refine sv_rgP hx hb hown hC.1 hR (fl_X8_append_12 hts hC hni) rfl (by decide) rfl rfl hv dX8_append_69 ?_
      obtain ⟨v6, hv, hw⟩ := sv_bd hw
      refine sv_rgP hx hb hown hC.1 hR (fl_X8_append_122 hts hC hni) rfl (by decide) rfl rfl hv dX8_append_72 ?_
      refine lv_aload_n hx hb dX8_append_75 rfl (lv_at hl 0 rfl) ?_
      obtain ⟨v7, hv, hw⟩ := sv_bd hw
      refine sv_rgI hx hb hown hC.1 hR (fl_X8_append_143 hts hC hni) rfl (by decide) rfl rfl hv dX8_append_76 ?_
      refine lv_iload_n hx hb dX8_append_79 rfl (lv_at hl 1 rfl) ?_
      obtain ⟨h8, hv, hw⟩ := sv_bd hw
      refine sv_rsI hx hb hC.1 rfl hR hS hv dX8_append_80 (fun H locs hR hS => ?_)
      exact lk_X8_append_81 K hw hR hS (lv_sub hl [0, 1] rfl)
    · have hw := sv_ift cc hw
      refine lv_aload_n hx hb dX8_append_60 rfl (lv_at hl 0 rfl) ?_
      refine lv_iload_n hx hb dX8_append_61 rfl (lv_at hl 1 rfl) ?_
      obtain ⟨h9, hv, hw⟩ := sv_bd hw
      refine sv_rpI hx hb hown hC.1 hR hS (fl_X8_append_89 hts hC hni) rfl (by decide) rfl rfl hv dX8_append_62 (fun H locs hR hS => ?_)
      refine lv_goto (tgt := 81) hx hb dX8_append_65 (by decide) ?_
      exact lk_X8_append_81 K hw hR hS (lv_sub hl [0, 1] rfl)
  · have hw := sv_ift cc hw
    refine lv_aload_n hx hb dX8_append_15 rfl (lv_at hl 0 rfl) ?_
    obtain ⟨v10, hv, hw⟩ := sv_bd hw
    refine sv_rgI hx hb hown hC.1 hR (fl_X8_append_92 hts hC hni) rfl (by decide) rfl rfl hv dX8_append_16 ?_
    refine lv_iconst (v := (-1)) hx hb dX8_append_19 (by decide) ?_
    refine lv_icmp_ne (tgt := 31) hx hb dX8_append_20 (by decide) (fun cc => ?_) (fun cc => ?_)
    · have hw := sv_iff cc hw
      refine lv_aload_n hx hb dX8_append_31 rfl (lv_at hl 0 rfl) ?_
      obtain ⟨v11, hv, hw⟩ := sv_bd hw
      refine sv_rgP hx hb hown hC.1 hR (fl_X8_append_12 hts hC hni) rfl (by decide) rfl rfl hv dX8_append_32 ?_
      obtain ⟨v12, hv, hw⟩ := sv_bd hw
      refine sv_rgP hx hb hown hC.1 hR (fl_X8_append_122 hts hC hni) rfl (by decide) rfl rfl hv dX8_append_35 ?_
      refine lv_aload_n hx hb dX8_append_38 rfl (lv_at hl 0 rfl) ?_
      obtain ⟨v13, hv, hw⟩ := sv_bd hw
      refine sv_rgI hx hb hown hC.1 hR (fl_X8_append_140 hts hC hni) rfl (by decide) rfl rfl hv dX8_append_39 ?_
      refine lv_iload_n hx hb dX8_append_42 rfl (lv_at hl 1 rfl) ?_
      obtain ⟨h14, hv, hw⟩ := sv_bd hw
      refine sv_rsI hx hb hC.1 rfl hR hS hv dX8_append_43 (fun H locs hR hS => ?_)
      exact lk_X8_append_44 K hw hR hS (lv_sub hl [0, 1] rfl)
    · have hw := sv_ift cc hw
      refine lv_aload_n hx hb dX8_append_23 rfl (lv_at hl 0 rfl) ?_
      refine lv_iload_n hx hb dX8_append_24 rfl (lv_at hl 1 rfl) ?_
      obtain ⟨h15, hv, hw⟩ := sv_bd hw
      refine sv_rpI hx hb hown hC.1 hR hS (fl_X8_append_92 hts hC hni) rfl (by decide) rfl rfl hv dX8_append_25 (fun H locs hR hS => ?_)
      refine lv_goto (tgt := 44) hx hb dX8_append_28 (by decide) ?_
      exact lk_X8_append_44 K hw hR hS (lv_sub hl [0, 1] rfl)
set_option maxHeartbeats 4000000 in
set_option maxRecDepth 100000 in
theorem mt_X8_append (l : Launch) (G : sv_G) (B : Nat) {x0 : Nat} {x1 : Int32} {x2 : Int32} {h : sv_H} {r : Unit} {hE : sv_H} (hw : fn_X8_append x0 x1 x2 h = some (r, hE)) : Met l yX8_append (.code yX8_append cX8_append 3 none :: sv_tb) rm_X8_append (sv_Pc G B [.ref x0, .int x1, .int x2] h) (sv_Q G B none hE) 0 0 (fun q => B ≤ q) := by
  refine Met.ofW (cc := cX8_append) (maxL := 3) (ret := none) (by decide +kernel) rfl ?_
  intro p e s m args below meth c s₁ Bd hml hv
  obtain ⟨rfl, hR, hC, hB⟩ := hv
  have hl := lv_entry ([.ref x0, .int x1, .int x2]) (n := 3) (Nat.le_of_ble_eq_true rfl)
  rw [lg_entry_eq]
  generalize (lg_sl ([.ref x0, .int x1, .int x2]) ++ List.replicate (3 - (lg_sl ([.ref x0, .int x1, .int x2])).length) Slot.unset).toArray = ls at hl ⊢
  have hl : lv_has ls 3 [(0, .ref x0), (1, .int x1), (2, .int x2)] := hl
  exact lk_X8_append_0 ⟨Bd.exec, Bd.bytes, hml, findClass_of_methodNamed Bd.named, fun w h => atoms_spec (ws := .code yX8_append cX8_append 3 none :: sv_tb) Bd.pre w (List.mem_cons_of_mem _ h), hC, Bd.notSynchronized, Bd.returns, hB, (name_of_methodNamed Bd.named Bd.method).1⟩ hw hR va_S.rf hl

def rm_X8_sizeOf : Room := { frames := 0, cells := 0, slots := 0, locals := 0 }
theorem fl_X8_sizeOf_31 {s : State} {meth : Method} {args : Array Value} {G : sv_G} {B : Nat} (hts : ∀ w ∈ sv_tb, w.before args s = true) (hC : sv_Cx G B s s.heap) (hni : meth.name = "sizeOf") : sv_FL s meth args vwCl RX8 31 8 5 (.array .int) true :=
  ⟨_, RX8, TX8, 18, sv_tb, tyX8, rfl, by decide, hts, uw_X8, Or.inl (hts _ wd_254), fun _ h => h, tyX8_ok 5 (by decide), tyX8_ok, nmX8, fun _ => Or.inl rfl⟩
set_option maxHeartbeats 4000000 in
set_option maxRecDepth 100000 in
theorem lk_X8_sizeOf_14 {p : Program} {l : Launch} {e : Env} {s : State} {m : MethodId} {args : Array Value} {below : List Frame} {meth : Method} {c : Code} {G : sv_G} {B : Nat} (K : sv_W p s m args meth c cX8_sizeOf RX8 2 (some .int) G B "sizeOf") {r : Int32} {hE : sv_H} {s0 : Int32} {h : sv_H} (hw : fn_X8_sizeOf_14 s0 h = some (r, hE)) {H : Heap} {locs : List Loc} {ls : Array Slot} (hR : sv_R G vwCl sv_ft B h H) (hS : va_S (fun q => B ≤ q) s.heap H locs) (hl : lv_has ls 2 []) : W p l e rm_X8_sizeOf s m args below meth c H locs 0 0 (sv_Z below s args G B (some (.int r)) hE) (F0 m 14 ls [.int s0]) := by
  obtain ⟨hx, hb, hml, hown, hts, hC, hlk, hr, hBs, hni⟩ := id K
  unfold fn_X8_sizeOf_14 at hw
  obtain ⟨rfl, rfl⟩ := sv_ret hw
  exact W.iret hx hb hr (fun t ht hW => ⟨⟨rfl, by rw [ht]; exact hR⟩, hS.F ht⟩) hS.2.2 dX8_sizeOf_14
set_option maxHeartbeats 4000000 in
set_option maxRecDepth 100000 in
theorem lk_X8_sizeOf_0 {p : Program} {l : Launch} {e : Env} {s : State} {m : MethodId} {args : Array Value} {below : List Frame} {meth : Method} {c : Code} {G : sv_G} {B : Nat} (K : sv_W p s m args meth c cX8_sizeOf RX8 2 (some .int) G B "sizeOf") {r : Int32} {hE : sv_H} {x0 : Nat} {x1 : Int32} {h : sv_H} (hw : fn_X8_sizeOf x0 x1 h = some (r, hE)) {H : Heap} {locs : List Loc} {ls : Array Slot} (hR : sv_R G vwCl sv_ft B h H) (hS : va_S (fun q => B ≤ q) s.heap H locs) (hl : lv_has ls 2 [(0, .ref x0), (1, .int x1)]) : W p l e rm_X8_sizeOf s m args below meth c H locs 0 0 (sv_Z below s args G B (some (.int r)) hE) (F0 m 0 ls []) := by
  obtain ⟨hx, hb, hml, hown, hts, hC, hlk, hr, hBs, hni⟩ := id K
  unfold fn_X8_sizeOf at hw
  have hw := (sv_go hw).2
  refine lv_iload_n hx hb dX8_sizeOf_0 rfl (lv_at hl 1 rfl) ?_
  refine lv_if_ge (tgt := 8) hx hb dX8_sizeOf_1 (by decide) (fun cc => ?_) (fun cc => ?_)
  · have hw := sv_ift cc hw
    refine lv_aload_n hx hb dX8_sizeOf_8 rfl (lv_at hl 0 rfl) ?_
    obtain ⟨v1, hv, hw⟩ := sv_bd hw
    refine sv_rgP hx hb hown hC.1 hR (fl_X8_sizeOf_31 hts hC hni) rfl (by decide) rfl rfl hv dX8_sizeOf_9 ?_
    refine lv_iload_n hx hb dX8_sizeOf_12 rfl (lv_at hl 1 rfl) ?_
    obtain ⟨v2, hv, hw⟩ := sv_bd hw
    refine sv_rlI hx hb hC.1 rfl hR hv dX8_sizeOf_13 ?_
    exact lk_X8_sizeOf_14 K hw hR hS (lv_sub hl [] rfl)
  · have hw := sv_iff cc hw
    refine lv_iconst (v := 0) hx hb dX8_sizeOf_4 (by decide) ?_
    refine lv_goto (tgt := 14) hx hb dX8_sizeOf_5 (by decide) ?_
    exact lk_X8_sizeOf_14 K hw hR hS (lv_sub hl [] rfl)
set_option maxHeartbeats 4000000 in
set_option maxRecDepth 100000 in
theorem mt_X8_sizeOf (l : Launch) (G : sv_G) (B : Nat) {x0 : Nat} {x1 : Int32} {h : sv_H} {r : Int32} {hE : sv_H} (hw : fn_X8_sizeOf x0 x1 h = some (r, hE)) : Met l yX8_sizeOf (.code yX8_sizeOf cX8_sizeOf 2 (some .int) :: sv_tb) rm_X8_sizeOf (sv_Pc G B [.ref x0, .int x1] h) (sv_Q G B (some (.int r)) hE) 0 0 (fun q => B ≤ q) := by
  refine Met.ofW (cc := cX8_sizeOf) (maxL := 2) (ret := (some .int)) (by decide +kernel) rfl ?_
  intro p e s m args below meth c s₁ Bd hml hv
  obtain ⟨rfl, hR, hC, hB⟩ := hv
  have hl := lv_entry ([.ref x0, .int x1]) (n := 2) (Nat.le_of_ble_eq_true rfl)
  rw [lg_entry_eq]
  generalize (lg_sl ([.ref x0, .int x1]) ++ List.replicate (2 - (lg_sl ([.ref x0, .int x1])).length) Slot.unset).toArray = ls at hl ⊢
  have hl : lv_has ls 2 [(0, .ref x0), (1, .int x1)] := hl
  exact lk_X8_sizeOf_0 ⟨Bd.exec, Bd.bytes, hml, findClass_of_methodNamed Bd.named, fun w h => atoms_spec (ws := .code yX8_sizeOf cX8_sizeOf 2 (some .int) :: sv_tb) Bd.pre w (List.mem_cons_of_mem _ h), hC, Bd.notSynchronized, Bd.returns, hB, (name_of_methodNamed Bd.named Bd.method).1⟩ hw hR va_S.rf hl

def rm_X8_countSizes : Room := { frames := 1, cells := 0, slots := 0, locals := 21 }
theorem fl_X8_countSizes_31 {s : State} {meth : Method} {args : Array Value} {G : sv_G} {B : Nat} (hts : ∀ w ∈ sv_tb, w.before args s = true) (hC : sv_Cx G B s s.heap) (hni : meth.name = "countSizes") : sv_FL s meth args vwCl RX8 31 8 5 (.array .int) true :=
  ⟨_, RX8, TX8, 18, sv_tb, tyX8, rfl, by decide, hts, uw_X8, Or.inl (hts _ wd_254), fun _ h => h, tyX8_ok 5 (by decide), tyX8_ok, nmX8, fun _ => Or.inl rfl⟩
theorem fl_X8_countSizes_22 {s : State} {meth : Method} {args : Array Value} {G : sv_G} {B : Nat} (hts : ∀ w ∈ sv_tb, w.before args s = true) (hC : sv_Cx G B s s.heap) (hni : meth.name = "countSizes") : sv_FL s meth args vwCl RX8 22 8 2 (.array .int) true :=
  ⟨_, RX8, TX8, 18, sv_tb, tyX8, rfl, by decide, hts, uw_X8, Or.inl (hts _ wd_248), fun _ h => h, tyX8_ok 2 (by decide), tyX8_ok, nmX8, fun _ => Or.inl rfl⟩
theorem fl_X8_countSizes_25 {s : State} {meth : Method} {args : Array Value} {G : sv_G} {B : Nat} (hts : ∀ w ∈ sv_tb, w.before args s = true) (hC : sv_Cx G B s s.heap) (hni : meth.name = "countSizes") : sv_FL s meth args vwCl RX8 25 8 3 (.array .int) true :=
  ⟨_, RX8, TX8, 18, sv_tb, tyX8, rfl, by decide, hts, uw_X8, Or.inl (hts _ wd_250), fun _ h => h, tyX8_ok 3 (by decide), tyX8_ok, nmX8, fun _ => Or.inl rfl⟩
theorem fl_X8_countSizes_47 {s : State} {meth : Method} {args : Array Value} {G : sv_G} {B : Nat} (hts : ∀ w ∈ sv_tb, w.before args s = true) (hC : sv_Cx G B s s.heap) (hni : meth.name = "countSizes") : sv_FL s meth args vwCl RX8 47 8 11 .int true :=
  ⟨_, RX8, TX8, 18, sv_tb, tyX8, rfl, by decide, hts, uw_X8, Or.inl (hts _ wd_262), fun _ h => h, tyX8_ok 11 (by decide), tyX8_ok, nmX8, fun _ => Or.inl rfl⟩
set_option maxHeartbeats 4000000 in
set_option maxRecDepth 100000 in
theorem lk_X8_countSizes_7b {p : Program} {l : Launch} {e : Env} {s : State} {m : MethodId} {args : Array Value} {below : List Frame} {meth : Method} {c : Code} {G : sv_G} {B : Nat} (K : sv_W p s m args meth c cX8_countSizes RX8 2 none G B "countSizes") {r : Unit} {hE : sv_H} {k7 : Nat → Int32 → sv_H → Option (Unit × sv_H)} (hk7 : ∀ {x0 : Nat} {x1 : Int32} {h : sv_H}, k7 x0 x1 h = some (r, hE) → ∀ {H : Heap} {locs : List Loc} {ls : Array Slot}, sv_R G vwCl sv_ft B h H → va_S (fun q => B ≤ q) s.heap H locs → lv_has ls 2 [(0, .ref x0), (1, .int x1)] → W p l e rm_X8_countSizes s m args below meth c H locs 0 0 (sv_Z below s args G B none hE) (F0 m 7 ls [])) {x0 : Nat} {x1 : Int32} {h : sv_H} (hw : fn_X8_countSizes_7b k7 x0 x1 h = some (r, hE)) {H : Heap} {locs : List Loc} {ls : Array Slot} (hR : sv_R G vwCl sv_ft B h H) (hS : va_S (fun q => B ≤ q) s.heap H locs) (hl : lv_has ls 2 [(0, .ref x0), (1, .int x1)]) : W p l e rm_X8_countSizes s m args below meth c H locs 0 0 (sv_Z below s args G B none hE) (F0 m 7 ls []) := by
  obtain ⟨hx, hb, hml, hown, hts, hC, hlk, hr, hBs, hni⟩ := id K
  unfold fn_X8_countSizes_7b at hw
  refine lv_iload_n hx hb dX8_countSizes_7 rfl (lv_at hl 1 rfl) ?_
  refine lv_if_lt (tgt := 46) hx hb dX8_countSizes_8 (by decide) (fun cc => ?_) (fun cc => ?_)
  · have hw := sv_ift cc hw
    obtain ⟨rfl, rfl⟩ := sv_ret hw
    exact W.vret hx hb hr (fun t ht hW => ⟨⟨rfl, by rw [ht]; exact hR⟩, hS.F ht⟩) hS.2.2 dX8_countSizes_46
  · have hw := sv_iff cc hw
    refine lv_aload_n hx hb dX8_countSizes_11 rfl (lv_at hl 0 rfl) ?_
    obtain ⟨v1, hv, hw⟩ := sv_bd hw
    refine sv_rgP hx hb hown hC.1 hR (fl_X8_countSizes_31 hts hC hni) rfl (by decide) rfl rfl hv dX8_countSizes_12 ?_
    refine lv_iload_n hx hb dX8_countSizes_15 rfl (lv_at hl 1 rfl) ?_
    refine lv_iconst (v := 1) hx hb dX8_countSizes_16 (by decide) ?_
    refine lv_aload_n hx hb dX8_countSizes_17 rfl (lv_at hl 0 rfl) ?_
    refine lv_aload_n hx hb dX8_countSizes_18 rfl (lv_at hl 0 rfl) ?_
    obtain ⟨v2, hv, hw⟩ := sv_bd hw
    refine sv_rgP hx hb hown hC.1 hR (fl_X8_countSizes_22 hts hC hni) rfl (by decide) rfl rfl hv dX8_countSizes_19 ?_
    refine lv_iload_n hx hb dX8_countSizes_22 rfl (lv_at hl 1 rfl) ?_
    obtain ⟨v3, hv, hw⟩ := sv_bd hw
    refine sv_rlI hx hb hC.1 rfl hR hv dX8_countSizes_23 ?_
    obtain ⟨r4, h5, hv1, hw⟩ := sv_b_some hw
    refine sv_call (va_runV (As := [.int v3]) (rest := [.int 1, .int x1, .ref v1]) ⟨hx, hb, hml, hown, hts⟩ (mt_X8_sizeOf l G B hv1) (cwV 1 hts (sv_gV wd_971 wd_973 wd_22 wd_134 wd_974) rfl rfl rfl (by decide +kernel) ⟨Nat.le_of_ble_eq_true rfl, Nat.le_of_ble_eq_true rfl⟩) ⟨sv_blind, sv_recv hC.1 hR (ci := 8) (sv_go hv1).1 (by decide) rfl, fun U hU hW => sv_pre hC hR hS hBs hU hW⟩ rfl rfl hl.1 rfl (lv_room (Nat.le_of_ble_eq_true rfl)) dX8_countSizes_24 ⟨Nat.zero_le _, Nat.zero_le _⟩) hS (fun H locs hR hS => ?_)
    refine lv_iadd hx hb dX8_countSizes_27 ?_
    refine lv_aload_n hx hb dX8_countSizes_28 rfl (lv_at hl 0 rfl) ?_
    refine lv_aload_n hx hb dX8_countSizes_29 rfl (lv_at hl 0 rfl) ?_
    obtain ⟨v6, hv, hw⟩ := sv_bd hw
    refine sv_rgP hx hb hown hC.1 hR (fl_X8_countSizes_25 hts hC hni) rfl (by decide) rfl rfl hv dX8_countSizes_30 ?_
    refine lv_iload_n hx hb dX8_countSizes_33 rfl (lv_at hl 1 rfl) ?_
    obtain ⟨v7, hv, hw⟩ := sv_bd hw
    refine sv_rlI hx hb hC.1 rfl hR hv dX8_countSizes_34 ?_
    obtain ⟨r8, h9, hv2, hw⟩ := sv_b_some hw
    refine sv_call (va_runV (As := [.int v7]) (rest := [.int (1 + r4), .int x1, .ref v1]) ⟨hx, hb, hml, hown, hts⟩ (mt_X8_sizeOf l G B hv2) (cwV 1 hts (sv_gV wd_971 wd_973 wd_22 wd_134 wd_974) rfl rfl rfl (by decide +kernel) ⟨Nat.le_of_ble_eq_true rfl, Nat.le_of_ble_eq_true rfl⟩) ⟨sv_blind, sv_recv hC.1 hR (ci := 8) (sv_go hv2).1 (by decide) rfl, fun U hU hW => sv_pre hC hR hS hBs hU hW⟩ rfl rfl hl.1 rfl (lv_room (Nat.le_of_ble_eq_true rfl)) dX8_countSizes_35 ⟨Nat.zero_le _, Nat.zero_le _⟩) hS (fun H locs hR hS => ?_)
    refine lv_iadd hx hb dX8_countSizes_38 ?_
    obtain ⟨h10, hv, hw⟩ := sv_bd hw
    refine sv_rsI hx hb hC.1 rfl hR hS hv dX8_countSizes_39 (fun H locs hR hS => ?_)
    refine lv_iinc (v := x1 + (-1)) (lv' := [(1, .int (x1 + (-1))), (0, .ref x0)]) hx hb dX8_countSizes_40 hl (k := 1) rfl rfl (by decide) rfl (fun ls hl => ?_)
    refine lv_goto (tgt := 7) hx hb dX8_countSizes_43 (by decide) ?_
    exact hk7 hw hR hS (lv_sub hl [1, 0] rfl)
theorem lk_X8_countSizes_7 {p : Program} {l : Launch} {e : Env} {s : State} {m : MethodId} {args : Array Value} {below : List Frame} {meth : Method} {c : Code} {G : sv_G} {B : Nat} (K : sv_W p s m args meth c cX8_countSizes RX8 2 none G B "countSizes") {r : Unit} {hE : sv_H} : ∀ (n : Nat) {x0 : Nat} {x1 : Int32} {h : sv_H}, fn_X8_countSizes_7 n x0 x1 h = some (r, hE) → ∀ {H : Heap} {locs : List Loc} {ls : Array Slot}, sv_R G vwCl sv_ft B h H → va_S (fun q => B ≤ q) s.heap H locs → lv_has ls 2 [(0, .ref x0), (1, .int x1)] → W p l e rm_X8_countSizes s m args below meth c H locs 0 0 (sv_Z below s args G B none hE) (F0 m 7 ls []) := by
  intro n
  induction n with
  | zero => intro x0 x1 h hw; cases (show (none : Option (Unit × sv_H)) = some (r, hE) from hw)
  | succ n ih => intro x0 x1 h hw H locs ls hR hS hl; exact lk_X8_countSizes_7b K (fun hw => ih hw) hw hR hS hl
set_option maxHeartbeats 4000000 in
set_option maxRecDepth 100000 in
theorem lk_X8_countSizes_0 {p : Program} {l : Launch} {e : Env} {s : State} {m : MethodId} {args : Array Value} {below : List Frame} {meth : Method} {c : Code} {G : sv_G} {B : Nat} (K : sv_W p s m args meth c cX8_countSizes RX8 2 none G B "countSizes") {r : Unit} {hE : sv_H} {x0 : Nat} {h : sv_H} (hw : fn_X8_countSizes x0 h = some (r, hE)) {H : Heap} {locs : List Loc} {ls : Array Slot} (hR : sv_R G vwCl sv_ft B h H) (hS : va_S (fun q => B ≤ q) s.heap H locs) (hl : lv_has ls 2 [(0, .ref x0)]) : W p l e rm_X8_countSizes s m args below meth c H locs 0 0 (sv_Z below s args G B none hE) (F0 m 0 ls []) := by
  obtain ⟨hx, hb, hml, hown, hts, hC, hlk, hr, hBs, hni⟩ := id K
  unfold fn_X8_countSizes at hw
  have hw := (sv_go hw).2
  refine lv_aload_n hx hb dX8_countSizes_0 rfl (lv_at hl 0 rfl) ?_
  obtain ⟨v1, hv, hw⟩ := sv_bd hw
  refine sv_rgI hx hb hown hC.1 hR (fl_X8_countSizes_47 hts hC hni) rfl (by decide) rfl rfl hv dX8_countSizes_1 ?_
  refine lv_iconst (v := 1) hx hb dX8_countSizes_4 (by decide) ?_
  refine lv_isub hx hb dX8_countSizes_5 ?_
  refine lv_istore_n (lv' := [(1, .int (v1 - 1)), (0, .ref x0)]) hx hb dX8_countSizes_6 rfl hl (by decide) rfl (fun ls hl => ?_)
  exact lk_X8_countSizes_7 K sv_fuel hw hR hS (lv_sub hl [1, 0] rfl)
set_option maxHeartbeats 4000000 in
set_option maxRecDepth 100000 in
theorem mt_X8_countSizes (l : Launch) (G : sv_G) (B : Nat) {x0 : Nat} {h : sv_H} {r : Unit} {hE : sv_H} (hw : fn_X8_countSizes x0 h = some (r, hE)) : Met l yX8_countSizes (.code yX8_countSizes cX8_countSizes 2 none :: sv_tb) rm_X8_countSizes (sv_Pc G B [.ref x0] h) (sv_Q G B none hE) 0 0 (fun q => B ≤ q) := by
  refine Met.ofW (cc := cX8_countSizes) (maxL := 2) (ret := none) (by decide +kernel) rfl ?_
  intro p e s m args below meth c s₁ Bd hml hv
  obtain ⟨rfl, hR, hC, hB⟩ := hv
  have hl := lv_entry ([.ref x0]) (n := 2) (Nat.le_of_ble_eq_true rfl)
  rw [lg_entry_eq]
  generalize (lg_sl ([.ref x0]) ++ List.replicate (2 - (lg_sl ([.ref x0])).length) Slot.unset).toArray = ls at hl ⊢
  have hl : lv_has ls 2 [(0, .ref x0)] := hl
  exact lk_X8_countSizes_0 ⟨Bd.exec, Bd.bytes, hml, findClass_of_methodNamed Bd.named, fun w h => atoms_spec (ws := .code yX8_countSizes cX8_countSizes 2 none :: sv_tb) Bd.pre w (List.mem_cons_of_mem _ h), hC, Bd.notSynchronized, Bd.returns, hB, (name_of_methodNamed Bd.named Bd.method).1⟩ hw hR va_S.rf hl

def rm_X7_put : Room := { frames := 0, cells := 0, slots := 0, locals := 0 }
theorem fl_X7_put_7 {s : State} {meth : Method} {args : Array Value} {G : sv_G} {B : Nat} (hts : ∀ w ∈ sv_tb, w.before args s = true) (hC : sv_Cx G B s s.heap) (hni : meth.name = "put") : sv_FL s meth args vwCl RX7 7 7 0 .int true :=
  ⟨_, RX7, TX7, 4, sv_tb, tyX7, rfl, by decide, hts, uw_X7, Or.inl (hts _ wd_323), fun _ h => h, tyX7_ok 0 (by decide), tyX7_ok, nmX7, fun _ => Or.inl rfl⟩
theorem fl_X7_put_13 {s : State} {meth : Method} {args : Array Value} {G : sv_G} {B : Nat} (hts : ∀ w ∈ sv_tb, w.before args s = true) (hC : sv_Cx G B s s.heap) (hni : meth.name = "put") : sv_FL s meth args vwCl RX7 13 7 1 .int true :=
  ⟨_, RX7, TX7, 4, sv_tb, tyX7, rfl, by decide, hts, uw_X7, Or.inl (hts _ wd_327), fun _ h => h, tyX7_ok 1 (by decide), tyX7_ok, nmX7, fun _ => Or.inl rfl⟩
theorem fl_X7_put_16 {s : State} {meth : Method} {args : Array Value} {G : sv_G} {B : Nat} (hts : ∀ w ∈ sv_tb, w.before args s = true) (hC : sv_Cx G B s s.heap) (hni : meth.name = "put") : sv_FL s meth args vwCl RX7 16 7 2 .int true :=
  ⟨_, RX7, TX7, 4, sv_tb, tyX7, rfl, by decide, hts, uw_X7, Or.inl (hts _ wd_331), fun _ h => h, tyX7_ok 2 (by decide), tyX7_ok, nmX7, fun _ => Or.inl rfl⟩
theorem fl_X7_put_19 {s : State} {meth : Method} {args : Array Value} {G : sv_G} {B : Nat} (hts : ∀ w ∈ sv_tb, w.before args s = true) (hC : sv_Cx G B s s.heap) (hni : meth.name = "put") : sv_FL s meth args vwCl RX7 19 7 3 .int true :=
  ⟨_, RX7, TX7, 4, sv_tb, tyX7, rfl, by decide, hts, uw_X7, Or.inl (hts _ wd_335), fun _ h => h, tyX7_ok 3 (by decide), tyX7_ok, nmX7, fun _ => Or.inl rfl⟩
set_option maxHeartbeats 4000000 in
set_option maxRecDepth 100000 in
theorem lk_X7_put_0 {p : Program} {l : Launch} {e : Env} {s : State} {m : MethodId} {args : Array Value} {below : List Frame} {meth : Method} {c : Code} {G : sv_G} {B : Nat} (K : sv_W p s m args meth c cX7_put RX7 5 none G B "put") {r : Unit} {hE : sv_H} {x0 : Nat} {x1 : Int32} {x2 : Int32} {x3 : Int32} {x4 : Int32} {h : sv_H} (hw : fn_X7_put x0 x1 x2 x3 x4 h = some (r, hE)) {H : Heap} {locs : List Loc} {ls : Array Slot} (hR : sv_R G vwCl sv_ft B h H) (hS : va_S (fun q => B ≤ q) s.heap H locs) (hl : lv_has ls 5 [(0, .ref x0), (1, .int x1), (2, .int x2), (3, .int x3), (4, .int x4)]) : W p l e rm_X7_put s m args below meth c H locs 0 0 (sv_Z below s args G B none hE) (F0 m 0 ls []) := by
  obtain ⟨hx, hb, hml, hown, hts, hC, hlk, hr, hBs, hni⟩ := id K
  unfold fn_X7_put at hw
  have hw := (sv_go hw).2
  refine lv_aload_n hx hb dX7_put_0 rfl (lv_at hl 0 rfl) ?_
  refine lv_iload_n hx hb dX7_put_1 rfl (lv_at hl 1 rfl) ?_
  obtain ⟨h1, hv, hw⟩ := sv_bd hw
  refine sv_rpI hx hb hown hC.1 hR hS (fl_X7_put_7 hts hC hni) rfl (by decide) rfl rfl hv dX7_put_2 (fun H locs hR hS => ?_)
  refine lv_aload_n hx hb dX7_put_5 rfl (lv_at hl 0 rfl) ?_
  refine lv_iload_n hx hb dX7_put_6 rfl (lv_at hl 2 rfl) ?_
  obtain ⟨h2, hv, hw⟩ := sv_bd hw
  refine sv_rpI hx hb hown hC.1 hR hS (fl_X7_put_13 hts hC hni) rfl (by decide) rfl rfl hv dX7_put_7 (fun H locs hR hS => ?_)
  refine lv_aload_n hx hb dX7_put_10 rfl (lv_at hl 0 rfl) ?_
  refine lv_iload_n hx hb dX7_put_11 rfl (lv_at hl 3 rfl) ?_
  obtain ⟨h3, hv, hw⟩ := sv_bd hw
  refine sv_rpI hx hb hown hC.1 hR hS (fl_X7_put_16 hts hC hni) rfl (by decide) rfl rfl hv dX7_put_12 (fun H locs hR hS => ?_)
  refine lv_aload_n hx hb dX7_put_15 rfl (lv_at hl 0 rfl) ?_
  refine lv_iload hx hb dX7_put_16 (lv_at hl 4 rfl) ?_
  obtain ⟨h4, hv, hw⟩ := sv_bd hw
  refine sv_rpI hx hb hown hC.1 hR hS (fl_X7_put_19 hts hC hni) rfl (by decide) rfl rfl hv dX7_put_18 (fun H locs hR hS => ?_)
  obtain ⟨rfl, rfl⟩ := sv_ret hw
  exact W.vret hx hb hr (fun t ht hW => ⟨⟨rfl, by rw [ht]; exact hR⟩, hS.F ht⟩) hS.2.2 dX7_put_21
set_option maxHeartbeats 4000000 in
set_option maxRecDepth 100000 in
theorem mt_X7_put (l : Launch) (G : sv_G) (B : Nat) {x0 : Nat} {x1 : Int32} {x2 : Int32} {x3 : Int32} {x4 : Int32} {h : sv_H} {r : Unit} {hE : sv_H} (hw : fn_X7_put x0 x1 x2 x3 x4 h = some (r, hE)) : Met l yX7_put (.code yX7_put cX7_put 5 none :: sv_tb) rm_X7_put (sv_Pc G B [.ref x0, .int x1, .int x2, .int x3, .int x4] h) (sv_Q G B none hE) 0 0 (fun q => B ≤ q) := by
  refine Met.ofW (cc := cX7_put) (maxL := 5) (ret := none) (by decide +kernel) rfl ?_
  intro p e s m args below meth c s₁ Bd hml hv
  obtain ⟨rfl, hR, hC, hB⟩ := hv
  have hl := lv_entry ([.ref x0, .int x1, .int x2, .int x3, .int x4]) (n := 5) (Nat.le_of_ble_eq_true rfl)
  rw [lg_entry_eq]
  generalize (lg_sl ([.ref x0, .int x1, .int x2, .int x3, .int x4]) ++ List.replicate (5 - (lg_sl ([.ref x0, .int x1, .int x2, .int x3, .int x4])).length) Slot.unset).toArray = ls at hl ⊢
  have hl : lv_has ls 5 [(0, .ref x0), (1, .int x1), (2, .int x2), (3, .int x3), (4, .int x4)] := hl
  exact lk_X7_put_0 ⟨Bd.exec, Bd.bytes, hml, findClass_of_methodNamed Bd.named, fun w h => atoms_spec (ws := .code yX7_put cX7_put 5 none :: sv_tb) Bd.pre w (List.mem_cons_of_mem _ h), hC, Bd.notSynchronized, Bd.returns, hB, (name_of_methodNamed Bd.named Bd.method).1⟩ hw hR va_S.rf hl

def rm_X7_become : Room := { frames := 1, cells := 0, slots := 0, locals := 24 }
theorem fl_X7_become_7 {s : State} {meth : Method} {args : Array Value} {G : sv_G} {B : Nat} (hts : ∀ w ∈ sv_tb, w.before args s = true) (hC : sv_Cx G B s s.heap) (hni : meth.name = "become") : sv_FL s meth args vwCl RX7 7 7 0 .int true :=
  ⟨_, RX7, TX7, 4, sv_tb, tyX7, rfl, by decide, hts, uw_X7, Or.inl (hts _ wd_323), fun _ h => h, tyX7_ok 0 (by decide), tyX7_ok, nmX7, fun _ => Or.inl rfl⟩
theorem fl_X7_become_13 {s : State} {meth : Method} {args : Array Value} {G : sv_G} {B : Nat} (hts : ∀ w ∈ sv_tb, w.before args s = true) (hC : sv_Cx G B s s.heap) (hni : meth.name = "become") : sv_FL s meth args vwCl RX7 13 7 1 .int true :=
  ⟨_, RX7, TX7, 4, sv_tb, tyX7, rfl, by decide, hts, uw_X7, Or.inl (hts _ wd_327), fun _ h => h, tyX7_ok 1 (by decide), tyX7_ok, nmX7, fun _ => Or.inl rfl⟩
theorem fl_X7_become_16 {s : State} {meth : Method} {args : Array Value} {G : sv_G} {B : Nat} (hts : ∀ w ∈ sv_tb, w.before args s = true) (hC : sv_Cx G B s s.heap) (hni : meth.name = "become") : sv_FL s meth args vwCl RX7 16 7 2 .int true :=
  ⟨_, RX7, TX7, 4, sv_tb, tyX7, rfl, by decide, hts, uw_X7, Or.inl (hts _ wd_331), fun _ h => h, tyX7_ok 2 (by decide), tyX7_ok, nmX7, fun _ => Or.inl rfl⟩
theorem fl_X7_become_19 {s : State} {meth : Method} {args : Array Value} {G : sv_G} {B : Nat} (hts : ∀ w ∈ sv_tb, w.before args s = true) (hC : sv_Cx G B s s.heap) (hni : meth.name = "become") : sv_FL s meth args vwCl RX7 19 7 3 .int true :=
  ⟨_, RX7, TX7, 4, sv_tb, tyX7, rfl, by decide, hts, uw_X7, Or.inl (hts _ wd_335), fun _ h => h, tyX7_ok 3 (by decide), tyX7_ok, nmX7, fun _ => Or.inl rfl⟩
set_option maxHeartbeats 4000000 in
set_option maxRecDepth 100000 in
theorem lk_X7_become_0 {p : Program} {l : Launch} {e : Env} {s : State} {m : MethodId} {args : Array Value} {below : List Frame} {meth : Method} {c : Code} {G : sv_G} {B : Nat} (K : sv_W p s m args meth c cX7_become RX7 2 none G B "become") {r : Unit} {hE : sv_H} {x0 : Nat} {x1 : Nat} {h : sv_H} (hw : fn_X7_become x0 x1 h = some (r, hE)) {H : Heap} {locs : List Loc} {ls : Array Slot} (hR : sv_R G vwCl sv_ft B h H) (hS : va_S (fun q => B ≤ q) s.heap H locs) (hl : lv_has ls 2 [(0, .ref x0), (1, .ref x1)]) : W p l e rm_X7_become s m args below meth c H locs 0 0 (sv_Z below s args G B none hE) (F0 m 0 ls []) := by
  obtain ⟨hx, hb, hml, hown, hts, hC, hlk, hr, hBs, hni⟩ := id K
  unfold fn_X7_become at hw
  have hw := (sv_go hw).2
  refine lv_aload_n hx hb dX7_become_0 rfl (lv_at hl 0 rfl) ?_
  refine lv_aload_n hx hb dX7_become_1 rfl (lv_at hl 1 rfl) ?_
  obtain ⟨v1, hv, hw⟩ := sv_bd hw
  refine sv_rgI hx hb hown hC.1 hR (fl_X7_become_7 hts hC hni) rfl (by decide) rfl rfl hv dX7_become_2 ?_
  refine lv_aload_n hx hb dX7_become_5 rfl (lv_at hl 1 rfl) ?_
  obtain ⟨v2, hv, hw⟩ := sv_bd hw
  refine sv_rgI hx hb hown hC.1 hR (fl_X7_become_13 hts hC hni) rfl (by decide) rfl rfl hv dX7_become_6 ?_
  refine lv_aload_n hx hb dX7_become_9 rfl (lv_at hl 1 rfl) ?_
  obtain ⟨v3, hv, hw⟩ := sv_bd hw
  refine sv_rgI hx hb hown hC.1 hR (fl_X7_become_16 hts hC hni) rfl (by decide) rfl rfl hv dX7_become_10 ?_
  refine lv_aload_n hx hb dX7_become_13 rfl (lv_at hl 1 rfl) ?_
  obtain ⟨v4, hv, hw⟩ := sv_bd hw
  refine sv_rgI hx hb hown hC.1 hR (fl_X7_become_19 hts hC hni) rfl (by decide) rfl rfl hv dX7_become_14 ?_
  obtain ⟨_, h5, hv1, hw⟩ := sv_b_some hw
  refine sv_call (va_runV (As := [.int v1, .int v2, .int v3, .int v4]) (rest := []) ⟨hx, hb, hml, hown, hts⟩ (mt_X7_put l G B hv1) (cwV 4 hts (sv_gV wd_979 wd_980 wd_981 wd_137 wd_982) rfl rfl rfl (by decide +kernel) ⟨Nat.le_of_ble_eq_true rfl, Nat.le_of_ble_eq_true rfl⟩) ⟨sv_blind, sv_recv hC.1 hR (ci := 7) (sv_go hv1).1 (by decide) rfl, fun U hU hW => sv_pre hC hR hS hBs hU hW⟩ rfl rfl hl.1 rfl (lv_room (Nat.le_of_ble_eq_true rfl)) dX7_become_17 ⟨Nat.zero_le _, Nat.zero_le _⟩) hS (fun H locs hR hS => ?_)
  obtain ⟨rfl, rfl⟩ := sv_ret hw
  exact W.vret hx hb hr (fun t ht hW => ⟨⟨rfl, by rw [ht]; exact hR⟩, hS.F ht⟩) hS.2.2 dX7_become_20
set_option maxHeartbeats 4000000 in
set_option maxRecDepth 100000 in
theorem mt_X7_become (l : Launch) (G : sv_G) (B : Nat) {x0 : Nat} {x1 : Nat} {h : sv_H} {r : Unit} {hE : sv_H} (hw : fn_X7_become x0 x1 h = some (r, hE)) : Met l yX7_become (.code yX7_become cX7_become 2 none :: sv_tb) rm_X7_become (sv_Pc G B [.ref x0, .ref x1] h) (sv_Q G B none hE) 0 0 (fun q => B ≤ q) := by
  refine Met.ofW (cc := cX7_become) (maxL := 2) (ret := none) (by decide +kernel) rfl ?_
  intro p e s m args below meth c s₁ Bd hml hv
  obtain ⟨rfl, hR, hC, hB⟩ := hv
  have hl := lv_entry ([.ref x0, .ref x1]) (n := 2) (Nat.le_of_ble_eq_true rfl)
  rw [lg_entry_eq]
  generalize (lg_sl ([.ref x0, .ref x1]) ++ List.replicate (2 - (lg_sl ([.ref x0, .ref x1])).length) Slot.unset).toArray = ls at hl ⊢
  have hl : lv_has ls 2 [(0, .ref x0), (1, .ref x1)] := hl
  exact lk_X7_become_0 ⟨Bd.exec, Bd.bytes, hml, findClass_of_methodNamed Bd.named, fun w h => atoms_spec (ws := .code yX7_become cX7_become 2 none :: sv_tb) Bd.pre w (List.mem_cons_of_mem _ h), hC, Bd.notSynchronized, Bd.returns, hB, (name_of_methodNamed Bd.named Bd.method).1⟩ hw hR va_S.rf hl

def rm_X6_endMover : Room := { frames := 0, cells := 0, slots := 0, locals := 0 }
theorem fl_X6_endMover_9 {s : State} {meth : Method} {args : Array Value} {G : sv_G} {B : Nat} (hts : ∀ w ∈ sv_tb, w.before args s = true) (hC : sv_Cx G B s s.heap) (hni : meth.name = "endMover") : sv_FL s meth args vwCl RX6 9 6 9 .int true :=
  ⟨_, RX6, TX6, 14, sv_tb, tyX6, rfl, by decide, hts, uw_X6, Or.inl (hts _ wd_379), fun _ h => h, tyX6_ok 9 (by decide), tyX6_ok, nmX6, fun _ => Or.inl rfl⟩
theorem fl_X6_endMover_30 {s : State} {meth : Method} {args : Array Value} {G : sv_G} {B : Nat} (hts : ∀ w ∈ sv_tb, w.before args s = true) (hC : sv_Cx G B s s.heap) (hni : meth.name = "endMover") : sv_FL s meth args vwCl RX6 30 6 10 .int true :=
  ⟨_, RX6, TX6, 14, sv_tb, tyX6, rfl, by decide, hts, uw_X6, Or.inl (hts _ wd_382), fun _ h => h, tyX6_ok 10 (by decide), tyX6_ok, nmX6, fun _ => Or.inl rfl⟩
theorem fl_X6_endMover_39 {s : State} {meth : Method} {args : Array Value} {G : sv_G} {B : Nat} (hts : ∀ w ∈ sv_tb, w.before args s = true) (hC : sv_Cx G B s s.heap) (hni : meth.name = "endMover") : sv_FL s meth args vwCl RX6 39 6 11 .int true :=
  ⟨_, RX6, TX6, 14, sv_tb, tyX6, rfl, by decide, hts, uw_X6, Or.inl (hts _ wd_385), fun _ h => h, tyX6_ok 11 (by decide), tyX6_ok, nmX6, fun _ => Or.inl rfl⟩
set_option maxHeartbeats 4000000 in
set_option maxRecDepth 100000 in
theorem lk_X6_endMover_0 {p : Program} {l : Launch} {e : Env} {s : State} {m : MethodId} {args : Array Value} {below : List Frame} {meth : Method} {c : Code} {G : sv_G} {B : Nat} (K : sv_W p s m args meth c cX6_endMover RX6 1 none G B "endMover") {r : Unit} {hE : sv_H} {x0 : Nat} {h : sv_H} (hw : fn_X6_endMover x0 h = some (r, hE)) {H : Heap} {locs : List Loc} {ls : Array Slot} (hR : sv_R G vwCl sv_ft B h H) (hS : va_S (fun q => B ≤ q) s.heap H locs) (hl : lv_has ls 1 [(0, .ref x0)]) : W p l e rm_X6_endMover s m args below meth c H locs 0 0 (sv_Z below s args G B none hE) (F0 m 0 ls []) := by
  obtain ⟨hx, hb, hml, hown, hts, hC, hlk, hr, hBs, hni⟩ := id K
  unfold fn_X6_endMover at hw
  have hw := (sv_go hw).2
  refine lv_aload_n hx hb dX6_endMover_0 rfl (lv_at hl 0 rfl) ?_
  refine lv_iconst (v := (-1)) hx hb dX6_endMover_1 (by decide) ?_
  obtain ⟨h1, hv, hw⟩ := sv_bd hw
  refine sv_rpI hx hb hown hC.1 hR hS (fl_X6_endMover_9 hts hC hni) rfl (by decide) rfl rfl hv dX6_endMover_2 (fun H locs hR hS => ?_)
  refine lv_aload_n hx hb dX6_endMover_5 rfl (lv_at hl 0 rfl) ?_
  refine lv_iconst (v := 0) hx hb dX6_endMover_6 (by decide) ?_
  obtain ⟨h2, hv, hw⟩ := sv_bd hw
  refine sv_rpI hx hb hown hC.1 hR hS (fl_X6_endMover_30 hts hC hni) rfl (by decide) rfl rfl hv dX6_endMover_7 (fun H locs hR hS => ?_)
  refine lv_aload_n hx hb dX6_endMover_10 rfl (lv_at hl 0 rfl) ?_
  refine lv_iconst (v := 0) hx hb dX6_endMover_11 (by decide) ?_
  obtain ⟨h3, hv, hw⟩ := sv_bd hw
  refine sv_rpI hx hb hown hC.1 hR hS (fl_X6_endMover_39 hts hC hni) rfl (by decide) rfl rfl hv dX6_endMover_12 (fun H locs hR hS => ?_)
  obtain ⟨rfl, rfl⟩ := sv_ret hw
  exact W.vret hx hb hr (fun t ht hW => ⟨⟨rfl, by rw [ht]; exact hR⟩, hS.F ht⟩) hS.2.2 dX6_endMover_15
set_option maxHeartbeats 4000000 in
set_option maxRecDepth 100000 in
theorem mt_X6_endMover (l : Launch) (G : sv_G) (B : Nat) {x0 : Nat} {h : sv_H} {r : Unit} {hE : sv_H} (hw : fn_X6_endMover x0 h = some (r, hE)) : Met l yX6_endMover (.code yX6_endMover cX6_endMover 1 none :: sv_tb) rm_X6_endMover (sv_Pc G B [.ref x0] h) (sv_Q G B none hE) 0 0 (fun q => B ≤ q) := by
  refine Met.ofW (cc := cX6_endMover) (maxL := 1) (ret := none) (by decide +kernel) rfl ?_
  intro p e s m args below meth c s₁ Bd hml hv
  obtain ⟨rfl, hR, hC, hB⟩ := hv
  have hl := lv_entry ([.ref x0]) (n := 1) (Nat.le_of_ble_eq_true rfl)
  rw [lg_entry_eq]
  generalize (lg_sl ([.ref x0]) ++ List.replicate (1 - (lg_sl ([.ref x0])).length) Slot.unset).toArray = ls at hl ⊢
  have hl : lv_has ls 1 [(0, .ref x0)] := hl
  exact lk_X6_endMover_0 ⟨Bd.exec, Bd.bytes, hml, findClass_of_methodNamed Bd.named, fun w h => atoms_spec (ws := .code yX6_endMover cX6_endMover 1 none :: sv_tb) Bd.pre w (List.mem_cons_of_mem _ h), hC, Bd.notSynchronized, Bd.returns, hB, (name_of_methodNamed Bd.named Bd.method).1⟩ hw hR va_S.rf hl

def rm_X6_settle : Room := { frames := 1, cells := 0, slots := 0, locals := 20 }
theorem fl_X6_settle_15 {s : State} {meth : Method} {args : Array Value} {G : sv_G} {B : Nat} (hts : ∀ w ∈ sv_tb, w.before args s = true) (hC : sv_Cx G B s s.heap) (hni : meth.name = "settle") : sv_FL s meth args vwCl RX6 15 6 0 .int true :=
  ⟨_, RX6, TX6, 14, sv_tb, tyX6, rfl, by decide, hts, uw_X6, Or.inl (hts _ wd_358), fun _ h => h, tyX6_ok 0 (by decide), tyX6_ok, nmX6, fun _ => Or.inl rfl⟩
theorem fl_X6_settle_18 {s : State} {meth : Method} {args : Array Value} {G : sv_G} {B : Nat} (hts : ∀ w ∈ sv_tb, w.before args s = true) (hC : sv_Cx G B s s.heap) (hni : meth.name = "settle") : sv_FL s meth args vwCl RX6 18 6 7 .int true :=
  ⟨_, RX6, TX6, 14, sv_tb, tyX6, rfl, by decide, hts, uw_X6, Or.inl (hts _ wd_369), fun _ h => h, tyX6_ok 7 (by decide), tyX6_ok, nmX6, fun _ => Or.inl rfl⟩
theorem fl_X6_settle_21 {s : State} {meth : Method} {args : Array Value} {G : sv_G} {B : Nat} (hts : ∀ w ∈ sv_tb, w.before args s = true) (hC : sv_Cx G B s s.heap) (hni : meth.name = "settle") : sv_FL s meth args vwCl RX6 21 6 1 .int true :=
  ⟨_, RX6, TX6, 14, sv_tb, tyX6, rfl, by decide, hts, uw_X6, Or.inl (hts _ wd_360), fun _ h => h, tyX6_ok 1 (by decide), tyX6_ok, nmX6, fun _ => Or.inl rfl⟩
theorem fl_X6_settle_24 {s : State} {meth : Method} {args : Array Value} {G : sv_G} {B : Nat} (hts : ∀ w ∈ sv_tb, w.before args s = true) (hC : sv_Cx G B s s.heap) (hni : meth.name = "settle") : sv_FL s meth args vwCl RX6 24 6 8 .int true :=
  ⟨_, RX6, TX6, 14, sv_tb, tyX6, rfl, by decide, hts, uw_X6, Or.inl (hts _ wd_374), fun _ h => h, tyX6_ok 8 (by decide), tyX6_ok, nmX6, fun _ => Or.inl rfl⟩
set_option maxHeartbeats 4000000 in
set_option maxRecDepth 100000 in
theorem lk_X6_settle_0 {p : Program} {l : Launch} {e : Env} {s : State} {m : MethodId} {args : Array Value} {below : List Frame} {meth : Method} {c : Code} {G : sv_G} {B : Nat} (K : sv_W p s m args meth c cX6_settle RX6 1 none G B "settle") {r : Unit} {hE : sv_H} {x0 : Nat} {h : sv_H} (hw : fn_X6_settle x0 h = some (r, hE)) {H : Heap} {locs : List Loc} {ls : Array Slot} (hR : sv_R G vwCl sv_ft B h H) (hS : va_S (fun q => B ≤ q) s.heap H locs) (hl : lv_has ls 1 [(0, .ref x0)]) : W p l e rm_X6_settle s m args below meth c H locs 0 0 (sv_Z below s args G B none hE) (F0 m 0 ls []) := by
  obtain ⟨hx, hb, hml, hown, hts, hC, hlk, hr, hBs, hni⟩ := id K
  unfold fn_X6_settle at hw
  have hw := (sv_go hw).2
  refine lv_aload_n hx hb dX6_settle_0 rfl (lv_at hl 0 rfl) ?_
  refine lv_aload_n hx hb dX6_settle_1 rfl (lv_at hl 0 rfl) ?_
  obtain ⟨v1, hv, hw⟩ := sv_bd hw
  refine sv_rgI hx hb hown hC.1 hR (fl_X6_settle_15 hts hC hni) rfl (by decide) rfl rfl hv dX6_settle_2 ?_
  obtain ⟨h2, hv, hw⟩ := sv_bd hw
  refine sv_rpI hx hb hown hC.1 hR hS (fl_X6_settle_18 hts hC hni) rfl (by decide) rfl rfl hv dX6_settle_5 (fun H locs hR hS => ?_)
  refine lv_aload_n hx hb dX6_settle_8 rfl (lv_at hl 0 rfl) ?_
  refine lv_aload_n hx hb dX6_settle_9 rfl (lv_at hl 0 rfl) ?_
  obtain ⟨v3, hv, hw⟩ := sv_bd hw
  refine sv_rgI hx hb hown hC.1 hR (fl_X6_settle_21 hts hC hni) rfl (by decide) rfl rfl hv dX6_settle_10 ?_
  obtain ⟨h4, hv, hw⟩ := sv_bd hw
  refine sv_rpI hx hb hown hC.1 hR hS (fl_X6_settle_24 hts hC hni) rfl (by decide) rfl rfl hv dX6_settle_13 (fun H locs hR hS => ?_)
  refine lv_aload_n hx hb dX6_settle_16 rfl (lv_at hl 0 rfl) ?_
  obtain ⟨_, h5, hv1, hw⟩ := sv_b_some hw
  refine sv_call (va_runV (As := []) (rest := []) ⟨hx, hb, hml, hown, hts⟩ (mt_X6_endMover l G B hv1) (cwV 0 hts (sv_gV wd_995 wd_997 wd_23 wd_138 wd_998) rfl rfl rfl (by decide +kernel) ⟨Nat.le_of_ble_eq_true rfl, Nat.le_of_ble_eq_true rfl⟩) ⟨sv_blind, sv_recv hC.1 hR (ci := 6) (sv_go hv1).1 (by decide) rfl, fun U hU hW => sv_pre hC hR hS hBs hU hW⟩ rfl rfl hl.1 rfl (lv_room (Nat.le_of_ble_eq_true rfl)) dX6_settle_17 ⟨Nat.zero_le _, Nat.zero_le _⟩) hS (fun H locs hR hS => ?_)
  obtain ⟨rfl, rfl⟩ := sv_ret hw
  exact W.vret hx hb hr (fun t ht hW => ⟨⟨rfl, by rw [ht]; exact hR⟩, hS.F ht⟩) hS.2.2 dX6_settle_20
set_option maxHeartbeats 4000000 in
set_option maxRecDepth 100000 in
theorem mt_X6_settle (l : Launch) (G : sv_G) (B : Nat) {x0 : Nat} {h : sv_H} {r : Unit} {hE : sv_H} (hw : fn_X6_settle x0 h = some (r, hE)) : Met l yX6_settle (.code yX6_settle cX6_settle 1 none :: sv_tb) rm_X6_settle (sv_Pc G B [.ref x0] h) (sv_Q G B none hE) 0 0 (fun q => B ≤ q) := by
  refine Met.ofW (cc := cX6_settle) (maxL := 1) (ret := none) (by decide +kernel) rfl ?_
  intro p e s m args below meth c s₁ Bd hml hv
  obtain ⟨rfl, hR, hC, hB⟩ := hv
  have hl := lv_entry ([.ref x0]) (n := 1) (Nat.le_of_ble_eq_true rfl)
  rw [lg_entry_eq]
  generalize (lg_sl ([.ref x0]) ++ List.replicate (1 - (lg_sl ([.ref x0])).length) Slot.unset).toArray = ls at hl ⊢
  have hl : lv_has ls 1 [(0, .ref x0)] := hl
  exact lk_X6_settle_0 ⟨Bd.exec, Bd.bytes, hml, findClass_of_methodNamed Bd.named, fun w h => atoms_spec (ws := .code yX6_settle cX6_settle 1 none :: sv_tb) Bd.pre w (List.mem_cons_of_mem _ h), hC, Bd.notSynchronized, Bd.returns, hB, (name_of_methodNamed Bd.named Bd.method).1⟩ hw hR va_S.rf hl

def rm_X2_settle : Room := { frames := 2, cells := 0, slots := 0, locals := 40 }
theorem fl_X2_settle_72 {s : State} {meth : Method} {args : Array Value} {G : sv_G} {B : Nat} (hts : ∀ w ∈ sv_tb, w.before args s = true) (hC : sv_Cx G B s s.heap) (hni : meth.name = "settle") : sv_FL s meth args vwCl RX2 72 2 11 .int true :=
  ⟨_, RX2, TX2, 13, sv_tb, tyX2, rfl, by decide, hts, uw_X2, Or.inl (hts _ wd_504), fun _ h => h, tyX2_ok 11 (by decide), tyX2_ok, nmX2, fun _ => Or.inl rfl⟩
theorem fl_X2_settle_43 {s : State} {meth : Method} {args : Array Value} {G : sv_G} {B : Nat} (hts : ∀ w ∈ sv_tb, w.before args s = true) (hC : sv_Cx G B s s.heap) (hni : meth.name = "settle") : sv_FL s meth args vwCl RX2 43 2 7 (.array (.object "SectorView$Sector")) false :=
  ⟨_, RX2, TX2, 13, sv_tb, tyX2, rfl, by decide, hts, uw_X2, Or.inl (hts _ wd_490), fun _ h => h, tyX2_ok 7 (by decide), tyX2_ok, nmX2, fun h => by cases h⟩
set_option maxHeartbeats 4000000 in
set_option maxRecDepth 100000 in
theorem lk_X2_settle_2b {p : Program} {l : Launch} {e : Env} {s : State} {m : MethodId} {args : Array Value} {below : List Frame} {meth : Method} {c : Code} {G : sv_G} {B : Nat} (K : sv_W p s m args meth c cX2_settle RX2 2 none G B "settle") {r : Unit} {hE : sv_H} {k2 : Nat → Int32 → sv_H → Option (Unit × sv_H)} (hk2 : ∀ {x0 : Nat} {x1 : Int32} {h : sv_H}, k2 x0 x1 h = some (r, hE) → ∀ {H : Heap} {locs : List Loc} {ls : Array Slot}, sv_R G vwCl sv_ft B h H → va_S (fun q => B ≤ q) s.heap H locs → lv_has ls 2 [(0, .ref x0), (1, .int x1)] → W p l e rm_X2_settle s m args below meth c H locs 0 0 (sv_Z below s args G B none hE) (F0 m 2 ls [])) {x0 : Nat} {x1 : Int32} {h : sv_H} (hw : fn_X2_settle_2b k2 x0 x1 h = some (r, hE)) {H : Heap} {locs : List Loc} {ls : Array Slot} (hR : sv_R G vwCl sv_ft B h H) (hS : va_S (fun q => B ≤ q) s.heap H locs) (hl : lv_has ls 2 [(0, .ref x0), (1, .int x1)]) : W p l e rm_X2_settle s m args below meth c H locs 0 0 (sv_Z below s args G B none hE) (F0 m 2 ls []) := by
  obtain ⟨hx, hb, hml, hown, hts, hC, hlk, hr, hBs, hni⟩ := id K
  unfold fn_X2_settle_2b at hw
  refine lv_iload_n hx hb dX2_settle_2 rfl (lv_at hl 1 rfl) ?_
  refine lv_aload_n hx hb dX2_settle_3 rfl (lv_at hl 0 rfl) ?_
  obtain ⟨v1, hv, hw⟩ := sv_bd hw
  refine sv_rgI hx hb hown hC.1 hR (fl_X2_settle_72 hts hC hni) rfl (by decide) rfl rfl hv dX2_settle_4 ?_
  refine lv_icmp_ge (tgt := 25) hx hb dX2_settle_7 (by decide) (fun cc => ?_) (fun cc => ?_)
  · have hw := sv_ift cc hw
    obtain ⟨rfl, rfl⟩ := sv_ret hw
    exact W.vret hx hb hr (fun t ht hW => ⟨⟨rfl, by rw [ht]; exact hR⟩, hS.F ht⟩) hS.2.2 dX2_settle_25
  · have hw := sv_iff cc hw
    refine lv_aload_n hx hb dX2_settle_10 rfl (lv_at hl 0 rfl) ?_
    obtain ⟨v2, hv, hw⟩ := sv_bd hw
    refine sv_rgP hx hb hown hC.1 hR (fl_X2_settle_43 hts hC hni) rfl (by decide) rfl rfl hv dX2_settle_11 ?_
    refine lv_iload_n hx hb dX2_settle_14 rfl (lv_at hl 1 rfl) ?_
    obtain ⟨v3, hv, hw⟩ := sv_bd hw
    refine sv_rlP hx hb hC.1 (c1 := 917) (C := "SectorView$Sector") rfl (by decide) hR hv dX2_settle_15 ?_
    obtain ⟨_, h4, hv1, hw⟩ := sv_b_some hw
    refine sv_call (va_runV (As := []) (rest := []) ⟨hx, hb, hml, hown, hts⟩ (mt_X6_settle l G B hv1) (cwV 0 hts (sv_gV wd_991 wd_992 wd_993 wd_138 wd_994) rfl rfl rfl (by decide +kernel) ⟨Nat.le_of_ble_eq_true rfl, Nat.le_of_ble_eq_true rfl⟩) ⟨sv_blind, sv_recv hC.1 hR (ci := 6) (sv_go hv1).1 (by decide) rfl, fun U hU hW => sv_pre hC hR hS hBs hU hW⟩ rfl rfl hl.1 rfl (lv_room (Nat.le_of_ble_eq_true rfl)) dX2_settle_16 ⟨Nat.zero_le _, Nat.zero_le _⟩) hS (fun H locs hR hS => ?_)
    refine lv_iinc (v := x1 + 1) (lv' := [(1, .int (x1 + 1)), (0, .ref x0)]) hx hb dX2_settle_19 hl (k := 1) rfl rfl (by decide) rfl (fun ls hl => ?_)
    refine lv_goto (tgt := 2) hx hb dX2_settle_22 (by decide) ?_
    exact hk2 hw hR hS (lv_sub hl [1, 0] rfl)
theorem lk_X2_settle_2 {p : Program} {l : Launch} {e : Env} {s : State} {m : MethodId} {args : Array Value} {below : List Frame} {meth : Method} {c : Code} {G : sv_G} {B : Nat} (K : sv_W p s m args meth c cX2_settle RX2 2 none G B "settle") {r : Unit} {hE : sv_H} : ∀ (n : Nat) {x0 : Nat} {x1 : Int32} {h : sv_H}, fn_X2_settle_2 n x0 x1 h = some (r, hE) → ∀ {H : Heap} {locs : List Loc} {ls : Array Slot}, sv_R G vwCl sv_ft B h H → va_S (fun q => B ≤ q) s.heap H locs → lv_has ls 2 [(0, .ref x0), (1, .int x1)] → W p l e rm_X2_settle s m args below meth c H locs 0 0 (sv_Z below s args G B none hE) (F0 m 2 ls []) := by
  intro n
  induction n with
  | zero => intro x0 x1 h hw; cases (show (none : Option (Unit × sv_H)) = some (r, hE) from hw)
  | succ n ih => intro x0 x1 h hw H locs ls hR hS hl; exact lk_X2_settle_2b K (fun hw => ih hw) hw hR hS hl
set_option maxHeartbeats 4000000 in
set_option maxRecDepth 100000 in
theorem lk_X2_settle_0 {p : Program} {l : Launch} {e : Env} {s : State} {m : MethodId} {args : Array Value} {below : List Frame} {meth : Method} {c : Code} {G : sv_G} {B : Nat} (K : sv_W p s m args meth c cX2_settle RX2 2 none G B "settle") {r : Unit} {hE : sv_H} {x0 : Nat} {h : sv_H} (hw : fn_X2_settle x0 h = some (r, hE)) {H : Heap} {locs : List Loc} {ls : Array Slot} (hR : sv_R G vwCl sv_ft B h H) (hS : va_S (fun q => B ≤ q) s.heap H locs) (hl : lv_has ls 2 [(0, .ref x0)]) : W p l e rm_X2_settle s m args below meth c H locs 0 0 (sv_Z below s args G B none hE) (F0 m 0 ls []) := by
  obtain ⟨hx, hb, hml, hown, hts, hC, hlk, hr, hBs, hni⟩ := id K
  unfold fn_X2_settle at hw
  have hw := (sv_go hw).2
  refine lv_iconst (v := 0) hx hb dX2_settle_0 (by decide) ?_
  refine lv_istore_n (lv' := [(1, .int 0), (0, .ref x0)]) hx hb dX2_settle_1 rfl hl (by decide) rfl (fun ls hl => ?_)
  exact lk_X2_settle_2 K sv_fuel hw hR hS (lv_sub hl [1, 0] rfl)
set_option maxHeartbeats 4000000 in
set_option maxRecDepth 100000 in
theorem mt_X2_settle (l : Launch) (G : sv_G) (B : Nat) {x0 : Nat} {h : sv_H} {r : Unit} {hE : sv_H} (hw : fn_X2_settle x0 h = some (r, hE)) : Met l yX2_settle (.code yX2_settle cX2_settle 2 none :: sv_tb) rm_X2_settle (sv_Pc G B [.ref x0] h) (sv_Q G B none hE) 0 0 (fun q => B ≤ q) := by
  refine Met.ofW (cc := cX2_settle) (maxL := 2) (ret := none) (by decide +kernel) rfl ?_
  intro p e s m args below meth c s₁ Bd hml hv
  obtain ⟨rfl, hR, hC, hB⟩ := hv
  have hl := lv_entry ([.ref x0]) (n := 2) (Nat.le_of_ble_eq_true rfl)
  rw [lg_entry_eq]
  generalize (lg_sl ([.ref x0]) ++ List.replicate (2 - (lg_sl ([.ref x0])).length) Slot.unset).toArray = ls at hl ⊢
  have hl : lv_has ls 2 [(0, .ref x0)] := hl
  exact lk_X2_settle_0 ⟨Bd.exec, Bd.bytes, hml, findClass_of_methodNamed Bd.named, fun w h => atoms_spec (ws := .code yX2_settle cX2_settle 2 none :: sv_tb) Bd.pre w (List.mem_cons_of_mem _ h), hC, Bd.notSynchronized, Bd.returns, hB, (name_of_methodNamed Bd.named Bd.method).1⟩ hw hR va_S.rf hl

def rm_X10_begin : Room := { frames := 3, cells := 0, slots := 0, locals := 61 }
theorem fl_X10_begin_15 {s : State} {meth : Method} {args : Array Value} {G : sv_G} {B : Nat} (hts : ∀ w ∈ sv_tb, w.before args s = true) (hC : sv_Cx G B s s.heap) (hni : meth.name = "begin") : sv_FL s meth args vwCl RX10 15 10 1 (.object "SectorView$Plan") true :=
  ⟨_, RX10, TX10, 7, sv_tb, tyX10, rfl, by decide, hts, uw_X10, Or.inl (hts _ wd_598), fun _ h => h, tyX10_ok 1 (by decide), tyX10_ok, nmX10, fun _ => Or.inl rfl⟩
theorem fl_X10_begin_24 {s : State} {meth : Method} {args : Array Value} {G : sv_G} {B : Nat} (hts : ∀ w ∈ sv_tb, w.before args s = true) (hC : sv_Cx G B s s.heap) (hni : meth.name = "begin") : sv_FL s meth args vwCl RX10 24 7 0 .int true :=
  ⟨_, RX7, TX7, 4, sv_tb, tyX7, rfl, by decide, hts, uw_X7, Or.inl (hts _ wd_324), fun _ h => h, tyX7_ok 0 (by decide), tyX7_ok, nmX7, fun _ => Or.inl rfl⟩
theorem fl_X10_begin_30 {s : State} {meth : Method} {args : Array Value} {G : sv_G} {B : Nat} (hts : ∀ w ∈ sv_tb, w.before args s = true) (hC : sv_Cx G B s s.heap) (hni : meth.name = "begin") : sv_FL s meth args vwCl RX10 30 10 2 .int true :=
  ⟨_, RX10, TX10, 7, sv_tb, tyX10, rfl, by decide, hts, uw_X10, Or.inl (hts _ wd_600), fun _ h => h, tyX10_ok 2 (by decide), tyX10_ok, nmX10, fun _ => Or.inl rfl⟩
theorem fl_X10_begin_31 {s : State} {meth : Method} {args : Array Value} {G : sv_G} {B : Nat} (hts : ∀ w ∈ sv_tb, w.before args s = true) (hC : sv_Cx G B s s.heap) (hni : meth.name = "begin") : sv_FL s meth args vwCl RX10 31 7 1 .int true :=
  ⟨_, RX7, TX7, 4, sv_tb, tyX7, rfl, by decide, hts, uw_X7, Or.inl (hts _ wd_328), fun _ h => h, tyX7_ok 1 (by decide), tyX7_ok, nmX7, fun _ => Or.inl rfl⟩
theorem fl_X10_begin_34 {s : State} {meth : Method} {args : Array Value} {G : sv_G} {B : Nat} (hts : ∀ w ∈ sv_tb, w.before args s = true) (hC : sv_Cx G B s s.heap) (hni : meth.name = "begin") : sv_FL s meth args vwCl RX10 34 10 3 .int true :=
  ⟨_, RX10, TX10, 7, sv_tb, tyX10, rfl, by decide, hts, uw_X10, Or.inl (hts _ wd_603), fun _ h => h, tyX10_ok 3 (by decide), tyX10_ok, nmX10, fun _ => Or.inl rfl⟩
theorem fl_X10_begin_35 {s : State} {meth : Method} {args : Array Value} {G : sv_G} {B : Nat} (hts : ∀ w ∈ sv_tb, w.before args s = true) (hC : sv_Cx G B s s.heap) (hni : meth.name = "begin") : sv_FL s meth args vwCl RX10 35 7 2 .int true :=
  ⟨_, RX7, TX7, 4, sv_tb, tyX7, rfl, by decide, hts, uw_X7, Or.inl (hts _ wd_332), fun _ h => h, tyX7_ok 2 (by decide), tyX7_ok, nmX7, fun _ => Or.inl rfl⟩
theorem fl_X10_begin_38 {s : State} {meth : Method} {args : Array Value} {G : sv_G} {B : Nat} (hts : ∀ w ∈ sv_tb, w.before args s = true) (hC : sv_Cx G B s s.heap) (hni : meth.name = "begin") : sv_FL s meth args vwCl RX10 38 10 4 .int true :=
  ⟨_, RX10, TX10, 7, sv_tb, tyX10, rfl, by decide, hts, uw_X10, Or.inl (hts _ wd_607), fun _ h => h, tyX10_ok 4 (by decide), tyX10_ok, nmX10, fun _ => Or.inl rfl⟩
theorem fl_X10_begin_39 {s : State} {meth : Method} {args : Array Value} {G : sv_G} {B : Nat} (hts : ∀ w ∈ sv_tb, w.before args s = true) (hC : sv_Cx G B s s.heap) (hni : meth.name = "begin") : sv_FL s meth args vwCl RX10 39 7 3 .int true :=
  ⟨_, RX7, TX7, 4, sv_tb, tyX7, rfl, by decide, hts, uw_X7, Or.inl (hts _ wd_336), fun _ h => h, tyX7_ok 3 (by decide), tyX7_ok, nmX7, fun _ => Or.inl rfl⟩
theorem fl_X10_begin_42 {s : State} {meth : Method} {args : Array Value} {G : sv_G} {B : Nat} (hts : ∀ w ∈ sv_tb, w.before args s = true) (hC : sv_Cx G B s s.heap) (hni : meth.name = "begin") : sv_FL s meth args vwCl RX10 42 10 5 .int true :=
  ⟨_, RX10, TX10, 7, sv_tb, tyX10, rfl, by decide, hts, uw_X10, Or.inl (hts _ wd_609), fun _ h => h, tyX10_ok 5 (by decide), tyX10_ok, nmX10, fun _ => Or.inl rfl⟩
theorem fl_X10_begin_43 {s : State} {meth : Method} {args : Array Value} {G : sv_G} {B : Nat} (hts : ∀ w ∈ sv_tb, w.before args s = true) (hC : sv_Cx G B s s.heap) (hni : meth.name = "begin") : sv_FL s meth args vwCl RX10 43 10 6 .int true :=
  ⟨_, RX10, TX10, 7, sv_tb, tyX10, rfl, by decide, hts, uw_X10, Or.inl (hts _ wd_611), fun _ h => h, tyX10_ok 6 (by decide), tyX10_ok, nmX10, fun _ => Or.inl rfl⟩
set_option maxHeartbeats 4000000 in
set_option maxRecDepth 100000 in
theorem lk_X10_begin_0 {p : Program} {l : Launch} {e : Env} {s : State} {m : MethodId} {args : Array Value} {below : List Frame} {meth : Method} {c : Code} {G : sv_G} {B : Nat} (K : sv_W p s m args meth c cX10_begin RX10 3 none G B "begin") {r : Unit} {hE : sv_H} {x0 : Nat} {x1 : Nat} {x2 : Nat} {h : sv_H} (hw : fn_X10_begin x0 x1 x2 h = some (r, hE)) {H : Heap} {locs : List Loc} {ls : Array Slot} (hR : sv_R G vwCl sv_ft B h H) (hS : va_S (fun q => B ≤ q) s.heap H locs) (hl : lv_has ls 3 [(0, .ref x0), (1, .ref x1), (2, .ref x2)]) : W p l e rm_X10_begin s m args below meth c H locs 0 0 (sv_Z below s args G B none hE) (F0 m 0 ls []) := by
  obtain ⟨hx, hb, hml, hown, hts, hC, hlk, hr, hBs, hni⟩ := id K
  unfold fn_X10_begin at hw
  have hw := (sv_go hw).2
  refine lv_aload_n hx hb dX10_begin_0 rfl (lv_at hl 0 rfl) ?_
  refine lv_aload_n hx hb dX10_begin_1 rfl (lv_at hl 1 rfl) ?_
  obtain ⟨h1, hv, hw⟩ := sv_bd hw
  refine sv_rpP hx hb hown hC.1 hR hS (fl_X10_begin_15 hts hC hni) (fun _ => rfl) (fun _ => rfl) rfl (by decide) rfl rfl hv dX10_begin_2 (fun H locs hR hS => ?_)
  refine lv_aload_n hx hb dX10_begin_5 rfl (lv_at hl 0 rfl) ?_
  obtain ⟨v2, hv, hw⟩ := sv_bd hw
  refine sv_rgP hx hb hown hC.1 hR (fl_X10_begin_15 hts hC hni) rfl (by decide) rfl rfl hv dX10_begin_6 ?_
  obtain ⟨_, h3, hv1, hw⟩ := sv_b_some hw
  refine sv_call (va_runV (As := []) (rest := []) ⟨hx, hb, hml, hown, hts⟩ (mt_X2_settle l G B hv1) (cwV 0 hts (sv_gV wd_987 wd_988 wd_989 wd_136 wd_990) rfl rfl rfl (by decide +kernel) ⟨Nat.le_of_ble_eq_true rfl, Nat.le_of_ble_eq_true rfl⟩) ⟨sv_blind, sv_recv hC.1 hR (ci := 2) (sv_go hv1).1 (by decide) rfl, fun U hU hW => sv_pre hC hR hS hBs hU hW⟩ rfl rfl hl.1 rfl (lv_room (Nat.le_of_ble_eq_true rfl)) dX10_begin_9 ⟨Nat.zero_le _, Nat.zero_le _⟩) hS (fun H locs hR hS => ?_)
  refine lv_aload_n hx hb dX10_begin_12 rfl (lv_at hl 0 rfl) ?_
  refine lv_aload_n hx hb dX10_begin_13 rfl (lv_at hl 2 rfl) ?_
  obtain ⟨v4, hv, hw⟩ := sv_bd hw
  refine sv_rgI hx hb hown hC.1 hR (fl_X10_begin_24 hts hC hni) rfl (by decide) rfl rfl hv dX10_begin_14 ?_
  obtain ⟨h5, hv, hw⟩ := sv_bd hw
  refine sv_rpI hx hb hown hC.1 hR hS (fl_X10_begin_30 hts hC hni) rfl (by decide) rfl rfl hv dX10_begin_17 (fun H locs hR hS => ?_)
  refine lv_aload_n hx hb dX10_begin_20 rfl (lv_at hl 0 rfl) ?_
  refine lv_aload_n hx hb dX10_begin_21 rfl (lv_at hl 2 rfl) ?_
  obtain ⟨v6, hv, hw⟩ := sv_bd hw
  refine sv_rgI hx hb hown hC.1 hR (fl_X10_begin_31 hts hC hni) rfl (by decide) rfl rfl hv dX10_begin_22 ?_
  obtain ⟨h7, hv, hw⟩ := sv_bd hw
  refine sv_rpI hx hb hown hC.1 hR hS (fl_X10_begin_34 hts hC hni) rfl (by decide) rfl rfl hv dX10_begin_25 (fun H locs hR hS => ?_)
  refine lv_aload_n hx hb dX10_begin_28 rfl (lv_at hl 0 rfl) ?_
  refine lv_aload_n hx hb dX10_begin_29 rfl (lv_at hl 2 rfl) ?_
  obtain ⟨v8, hv, hw⟩ := sv_bd hw
  refine sv_rgI hx hb hown hC.1 hR (fl_X10_begin_35 hts hC hni) rfl (by decide) rfl rfl hv dX10_begin_30 ?_
  obtain ⟨h9, hv, hw⟩ := sv_bd hw
  refine sv_rpI hx hb hown hC.1 hR hS (fl_X10_begin_38 hts hC hni) rfl (by decide) rfl rfl hv dX10_begin_33 (fun H locs hR hS => ?_)
  refine lv_aload_n hx hb dX10_begin_36 rfl (lv_at hl 0 rfl) ?_
  refine lv_aload_n hx hb dX10_begin_37 rfl (lv_at hl 2 rfl) ?_
  obtain ⟨v10, hv, hw⟩ := sv_bd hw
  refine sv_rgI hx hb hown hC.1 hR (fl_X10_begin_39 hts hC hni) rfl (by decide) rfl rfl hv dX10_begin_38 ?_
  obtain ⟨h11, hv, hw⟩ := sv_bd hw
  refine sv_rpI hx hb hown hC.1 hR hS (fl_X10_begin_42 hts hC hni) rfl (by decide) rfl rfl hv dX10_begin_41 (fun H locs hR hS => ?_)
  refine lv_aload_n hx hb dX10_begin_44 rfl (lv_at hl 0 rfl) ?_
  refine lv_iconst (v := 0) hx hb dX10_begin_45 (by decide) ?_
  obtain ⟨h12, hv, hw⟩ := sv_bd hw
  refine sv_rpI hx hb hown hC.1 hR hS (fl_X10_begin_43 hts hC hni) rfl (by decide) rfl rfl hv dX10_begin_46 (fun H locs hR hS => ?_)
  obtain ⟨rfl, rfl⟩ := sv_ret hw
  exact W.vret hx hb hr (fun t ht hW => ⟨⟨rfl, by rw [ht]; exact hR⟩, hS.F ht⟩) hS.2.2 dX10_begin_49
set_option maxHeartbeats 4000000 in
set_option maxRecDepth 100000 in
theorem mt_X10_begin (l : Launch) (G : sv_G) (B : Nat) {x0 : Nat} {x1 : Nat} {x2 : Nat} {h : sv_H} {r : Unit} {hE : sv_H} (hw : fn_X10_begin x0 x1 x2 h = some (r, hE)) : Met l yX10_begin (.code yX10_begin cX10_begin 3 none :: sv_tb) rm_X10_begin (sv_Pc G B [.ref x0, .ref x1, .ref x2] h) (sv_Q G B none hE) 0 0 (fun q => B ≤ q) := by
  refine Met.ofW (cc := cX10_begin) (maxL := 3) (ret := none) (by decide +kernel) rfl ?_
  intro p e s m args below meth c s₁ Bd hml hv
  obtain ⟨rfl, hR, hC, hB⟩ := hv
  have hl := lv_entry ([.ref x0, .ref x1, .ref x2]) (n := 3) (Nat.le_of_ble_eq_true rfl)
  rw [lg_entry_eq]
  generalize (lg_sl ([.ref x0, .ref x1, .ref x2]) ++ List.replicate (3 - (lg_sl ([.ref x0, .ref x1, .ref x2])).length) Slot.unset).toArray = ls at hl ⊢
  have hl : lv_has ls 3 [(0, .ref x0), (1, .ref x1), (2, .ref x2)] := hl
  exact lk_X10_begin_0 ⟨Bd.exec, Bd.bytes, hml, findClass_of_methodNamed Bd.named, fun w h => atoms_spec (ws := .code yX10_begin cX10_begin 3 none :: sv_tb) Bd.pre w (List.mem_cons_of_mem _ h), hC, Bd.notSynchronized, Bd.returns, hB, (name_of_methodNamed Bd.named Bd.method).1⟩ hw hR va_S.rf hl

def rm_X14_wrong : Room := { frames := 0, cells := 0, slots := 0, locals := 0 }
theorem fl_X14_wrong_25 {s : State} {meth : Method} {args : Array Value} {G : sv_G} {B : Nat} (hts : ∀ w ∈ sv_tb, w.before args s = true) (hC : sv_Cx G B s s.heap) (hni : meth.name = "wrong") : sv_FL s meth args vwCl RX14 25 14 4 .int true :=
  ⟨_, RX14, TX14, 10, sv_tb, tyX14, rfl, by decide, hts, uw_X14, Or.inl (hts _ wd_1416), fun _ h => h, tyX14_ok 4 (by decide), tyX14_ok, nmX14, fun _ => Or.inl rfl⟩
theorem fl_X14_wrong_18 {s : State} {meth : Method} {args : Array Value} {G : sv_G} {B : Nat} (hts : ∀ w ∈ sv_tb, w.before args s = true) (hC : sv_Cx G B s s.heap) (hni : meth.name = "wrong") : sv_FL s meth args vwCl RX14 18 14 5 .int true :=
  ⟨_, RX14, TX14, 10, sv_tb, tyX14, rfl, by decide, hts, uw_X14, Or.inl (hts _ wd_1417), fun _ h => h, tyX14_ok 5 (by decide), tyX14_ok, nmX14, fun _ => Or.inl rfl⟩
set_option maxHeartbeats 4000000 in
set_option maxRecDepth 100000 in
theorem lk_X14_wrong_17 {p : Program} {l : Launch} {e : Env} {s : State} {m : MethodId} {args : Array Value} {below : List Frame} {meth : Method} {c : Code} {G : sv_G} {B : Nat} (K : sv_W p s m args meth c cX14_wrong RX14 3 none G B "wrong") {r : Unit} {hE : sv_H} {h : sv_H} (hw : fn_X14_wrong_17 h = some (r, hE)) {H : Heap} {locs : List Loc} {ls : Array Slot} (hR : sv_R G vwCl sv_ft B h H) (hS : va_S (fun q => B ≤ q) s.heap H locs) (hl : lv_has ls 3 []) : W p l e rm_X14_wrong s m args below meth c H locs 0 0 (sv_Z below s args G B none hE) (F0 m 17 ls []) := by
  obtain ⟨hx, hb, hml, hown, hts, hC, hlk, hr, hBs, hni⟩ := id K
  unfold fn_X14_wrong_17 at hw
  obtain ⟨rfl, rfl⟩ := sv_ret hw
  exact W.vret hx hb hr (fun t ht hW => ⟨⟨rfl, by rw [ht]; exact hR⟩, hS.F ht⟩) hS.2.2 dX14_wrong_17
set_option maxHeartbeats 4000000 in
set_option maxRecDepth 100000 in
theorem lk_X14_wrong_0 {p : Program} {l : Launch} {e : Env} {s : State} {m : MethodId} {args : Array Value} {below : List Frame} {meth : Method} {c : Code} {G : sv_G} {B : Nat} (K : sv_W p s m args meth c cX14_wrong RX14 3 none G B "wrong") {r : Unit} {hE : sv_H} {x0 : Nat} {x1 : Int32} {x2 : Int32} {h : sv_H} (hw : fn_X14_wrong x0 x1 x2 h = some (r, hE)) {H : Heap} {locs : List Loc} {ls : Array Slot} (hR : sv_R G vwCl sv_ft B h H) (hS : va_S (fun q => B ≤ q) s.heap H locs) (hl : lv_has ls 3 [(0, .ref x0), (1, .int x1), (2, .int x2)]) : W p l e rm_X14_wrong s m args below meth c H locs 0 0 (sv_Z below s args G B none hE) (F0 m 0 ls []) := by
  obtain ⟨hx, hb, hml, hown, hts, hC, hlk, hr, hBs, hni⟩ := id K
  unfold fn_X14_wrong at hw
  have hw := (sv_go hw).2
  refine lv_aload_n hx hb dX14_wrong_0 rfl (lv_at hl 0 rfl) ?_
  obtain ⟨v1, hv, hw⟩ := sv_bd hw
  refine sv_rgI hx hb hown hC.1 hR (fl_X14_wrong_25 hts hC hni) rfl (by decide) rfl rfl hv dX14_wrong_1 ?_
  refine lv_if_ne (tgt := 17) hx hb dX14_wrong_4 (by decide) (fun cc => ?_) (fun cc => ?_)
  · have hw := sv_iff cc hw
    exact lk_X14_wrong_17 K hw hR hS (lv_sub hl [] rfl)
  · have hw := sv_ift cc hw
    refine lv_aload_n hx hb dX14_wrong_7 rfl (lv_at hl 0 rfl) ?_
    refine lv_iload_n hx hb dX14_wrong_8 rfl (lv_at hl 1 rfl) ?_
    obtain ⟨h2, hv, hw⟩ := sv_bd hw
    refine sv_rpI hx hb hown hC.1 hR hS (fl_X14_wrong_25 hts hC hni) rfl (by decide) rfl rfl hv dX14_wrong_9 (fun H locs hR hS => ?_)
    refine lv_aload_n hx hb dX14_wrong_12 rfl (lv_at hl 0 rfl) ?_
    refine lv_iload_n hx hb dX14_wrong_13 rfl (lv_at hl 2 rfl) ?_
    obtain ⟨h3, hv, hw⟩ := sv_bd hw
    refine sv_rpI hx hb hown hC.1 hR hS (fl_X14_wrong_18 hts hC hni) rfl (by decide) rfl rfl hv dX14_wrong_14 (fun H locs hR hS => ?_)
    exact lk_X14_wrong_17 K hw hR hS (lv_sub hl [] rfl)
set_option maxHeartbeats 4000000 in
set_option maxRecDepth 100000 in
theorem mt_X14_wrong (l : Launch) (G : sv_G) (B : Nat) {x0 : Nat} {x1 : Int32} {x2 : Int32} {h : sv_H} {r : Unit} {hE : sv_H} (hw : fn_X14_wrong x0 x1 x2 h = some (r, hE)) : Met l yX14_wrong (.code yX14_wrong cX14_wrong 3 none :: sv_tb) rm_X14_wrong (sv_Pc G B [.ref x0, .int x1, .int x2] h) (sv_Q G B none hE) 0 0 (fun q => B ≤ q) := by
  refine Met.ofW (cc := cX14_wrong) (maxL := 3) (ret := none) (by decide +kernel) rfl ?_
  intro p e s m args below meth c s₁ Bd hml hv
  obtain ⟨rfl, hR, hC, hB⟩ := hv
  have hl := lv_entry ([.ref x0, .int x1, .int x2]) (n := 3) (Nat.le_of_ble_eq_true rfl)
  rw [lg_entry_eq]
  generalize (lg_sl ([.ref x0, .int x1, .int x2]) ++ List.replicate (3 - (lg_sl ([.ref x0, .int x1, .int x2])).length) Slot.unset).toArray = ls at hl ⊢
  have hl : lv_has ls 3 [(0, .ref x0), (1, .int x1), (2, .int x2)] := hl
  exact lk_X14_wrong_0 ⟨Bd.exec, Bd.bytes, hml, findClass_of_methodNamed Bd.named, fun w h => atoms_spec (ws := .code yX14_wrong cX14_wrong 3 none :: sv_tb) Bd.pre w (List.mem_cons_of_mem _ h), hC, Bd.notSynchronized, Bd.returns, hB, (name_of_methodNamed Bd.named Bd.method).1⟩ hw hR va_S.rf hl

def rm_X14_add : Room := { frames := 0, cells := 0, slots := 0, locals := 0 }
theorem fl_X14_add_28 {s : State} {meth : Method} {args : Array Value} {G : sv_G} {B : Nat} (hts : ∀ w ∈ sv_tb, w.before args s = true) (hC : sv_Cx G B s s.heap) (hni : meth.name = "add") : sv_FL s meth args vwCl RX14 28 14 8 .int true :=
  ⟨_, RX14, TX14, 10, sv_tb, tyX14, rfl, by decide, hts, uw_X14, Or.inl (hts _ wd_1421), fun _ h => h, tyX14_ok 8 (by decide), tyX14_ok, nmX14, fun _ => Or.inl rfl⟩
theorem fl_X14_add_31 {s : State} {meth : Method} {args : Array Value} {G : sv_G} {B : Nat} (hts : ∀ w ∈ sv_tb, w.before args s = true) (hC : sv_Cx G B s s.heap) (hni : meth.name = "add") : sv_FL s meth args vwCl RX14 31 14 9 .int true :=
  ⟨_, RX14, TX14, 10, sv_tb, tyX14, rfl, by decide, hts, uw_X14, Or.inl (hts _ wd_1422), fun _ h => h, tyX14_ok 9 (by decide), tyX14_ok, nmX14, fun _ => Or.inl rfl⟩
set_option maxHeartbeats 4000000 in
set_option maxRecDepth 100000 in
theorem lk_X14_add_0 {p : Program} {l : Launch} {e : Env} {s : State} {m : MethodId} {args : Array Value} {below : List Frame} {meth : Method} {c : Code} {G : sv_G} {B : Nat} (K : sv_W p s m args meth c cX14_add RX14 2 none G B "add") {r : Unit} {hE : sv_H} {x0 : Nat} {x1 : Int32} {h : sv_H} (hw : fn_X14_add x0 x1 h = some (r, hE)) {H : Heap} {locs : List Loc} {ls : Array Slot} (hR : sv_R G vwCl sv_ft B h H) (hS : va_S (fun q => B ≤ q) s.heap H locs) (hl : lv_has ls 2 [(0, .ref x0), (1, .int x1)]) : W p l e rm_X14_add s m args below meth c H locs 0 0 (sv_Z below s args G B none hE) (F0 m 0 ls []) := by
  obtain ⟨hx, hb, hml, hown, hts, hC, hlk, hr, hBs, hni⟩ := id K
  unfold fn_X14_add at hw
  have hw := (sv_go hw).2
  refine lv_aload_n hx hb dX14_add_0 rfl (lv_at hl 0 rfl) ?_
  refine lv_aload_n hx hb dX14_add_1 rfl (lv_at hl 0 rfl) ?_
  obtain ⟨v1, hv, hw⟩ := sv_bd hw
  refine sv_rgI hx hb hown hC.1 hR (fl_X14_add_28 hts hC hni) rfl (by decide) rfl rfl hv dX14_add_2 ?_
  refine lv_iload_n hx hb dX14_add_5 rfl (lv_at hl 1 rfl) ?_
  refine lv_iadd hx hb dX14_add_6 ?_
  refine lv_sipush (v := 251) hx hb dX14_add_7 (by decide) ?_
  refine lv_irem hx hb dX14_add_10 (by decide) ?_
  obtain ⟨h2, hv, hw⟩ := sv_bd hw
  refine sv_rpI hx hb hown hC.1 hR hS (fl_X14_add_28 hts hC hni) rfl (by decide) rfl rfl hv dX14_add_11 (fun H locs hR hS => ?_)
  refine lv_aload_n hx hb dX14_add_14 rfl (lv_at hl 0 rfl) ?_
  refine lv_aload_n hx hb dX14_add_15 rfl (lv_at hl 0 rfl) ?_
  obtain ⟨v3, hv, hw⟩ := sv_bd hw
  refine sv_rgI hx hb hown hC.1 hR (fl_X14_add_31 hts hC hni) rfl (by decide) rfl rfl hv dX14_add_16 ?_
  refine lv_aload_n hx hb dX14_add_19 rfl (lv_at hl 0 rfl) ?_
  obtain ⟨v4, hv, hw⟩ := sv_bd hw
  refine sv_rgI hx hb hown hC.1 hR (fl_X14_add_28 hts hC hni) rfl (by decide) rfl rfl hv dX14_add_20 ?_
  refine lv_iadd hx hb dX14_add_23 ?_
  refine lv_sipush (v := 251) hx hb dX14_add_24 (by decide) ?_
  refine lv_irem hx hb dX14_add_27 (by decide) ?_
  obtain ⟨h5, hv, hw⟩ := sv_bd hw
  refine sv_rpI hx hb hown hC.1 hR hS (fl_X14_add_31 hts hC hni) rfl (by decide) rfl rfl hv dX14_add_28 (fun H locs hR hS => ?_)
  obtain ⟨rfl, rfl⟩ := sv_ret hw
  exact W.vret hx hb hr (fun t ht hW => ⟨⟨rfl, by rw [ht]; exact hR⟩, hS.F ht⟩) hS.2.2 dX14_add_31
set_option maxHeartbeats 4000000 in
set_option maxRecDepth 100000 in
theorem mt_X14_add (l : Launch) (G : sv_G) (B : Nat) {x0 : Nat} {x1 : Int32} {h : sv_H} {r : Unit} {hE : sv_H} (hw : fn_X14_add x0 x1 h = some (r, hE)) : Met l yX14_add (.code yX14_add cX14_add 2 none :: sv_tb) rm_X14_add (sv_Pc G B [.ref x0, .int x1] h) (sv_Q G B none hE) 0 0 (fun q => B ≤ q) := by
  refine Met.ofW (cc := cX14_add) (maxL := 2) (ret := none) (by decide +kernel) rfl ?_
  intro p e s m args below meth c s₁ Bd hml hv
  obtain ⟨rfl, hR, hC, hB⟩ := hv
  have hl := lv_entry ([.ref x0, .int x1]) (n := 2) (Nat.le_of_ble_eq_true rfl)
  rw [lg_entry_eq]
  generalize (lg_sl ([.ref x0, .int x1]) ++ List.replicate (2 - (lg_sl ([.ref x0, .int x1])).length) Slot.unset).toArray = ls at hl ⊢
  have hl : lv_has ls 2 [(0, .ref x0), (1, .int x1)] := hl
  exact lk_X14_add_0 ⟨Bd.exec, Bd.bytes, hml, findClass_of_methodNamed Bd.named, fun w h => atoms_spec (ws := .code yX14_add cX14_add 2 none :: sv_tb) Bd.pre w (List.mem_cons_of_mem _ h), hC, Bd.notSynchronized, Bd.returns, hB, (name_of_methodNamed Bd.named Bd.method).1⟩ hw hR va_S.rf hl

def rm_X14_next : Room := { frames := 1, cells := 0, slots := 0, locals := 22 }
theorem fl_X14_next_34 {s : State} {meth : Method} {args : Array Value} {G : sv_G} {B : Nat} (hts : ∀ w ∈ sv_tb, w.before args s = true) (hC : sv_Cx G B s s.heap) (hni : meth.name = "next") : sv_FL s meth args vwCl RX14 34 14 7 .int true :=
  ⟨_, RX14, TX14, 10, sv_tb, tyX14, rfl, by decide, hts, uw_X14, Or.inl (hts _ wd_1420), fun _ h => h, tyX14_ok 7 (by decide), tyX14_ok, nmX14, fun _ => Or.inl rfl⟩
theorem fl_X14_next_25 {s : State} {meth : Method} {args : Array Value} {G : sv_G} {B : Nat} (hts : ∀ w ∈ sv_tb, w.before args s = true) (hC : sv_Cx G B s s.heap) (hni : meth.name = "next") : sv_FL s meth args vwCl RX14 25 14 4 .int true :=
  ⟨_, RX14, TX14, 10, sv_tb, tyX14, rfl, by decide, hts, uw_X14, Or.inl (hts _ wd_1416), fun _ h => h, tyX14_ok 4 (by decide), tyX14_ok, nmX14, fun _ => Or.inl rfl⟩
theorem fl_X14_next_37 {s : State} {meth : Method} {args : Array Value} {G : sv_G} {B : Nat} (hts : ∀ w ∈ sv_tb, w.before args s = true) (hC : sv_Cx G B s s.heap) (hni : meth.name = "next") : sv_FL s meth args vwCl RX14 37 14 1 .int true :=
  ⟨_, RX14, TX14, 10, sv_tb, tyX14, rfl, by decide, hts, uw_X14, Or.inl (hts _ wd_1410), fun _ h => h, tyX14_ok 1 (by decide), tyX14_ok, nmX14, fun _ => Or.inl rfl⟩
theorem fl_X14_next_9 {s : State} {meth : Method} {args : Array Value} {G : sv_G} {B : Nat} (hts : ∀ w ∈ sv_tb, w.before args s = true) (hC : sv_Cx G B s s.heap) (hni : meth.name = "next") : sv_FL s meth args vwCl RX14 9 14 0 (.array .byte) false :=
  ⟨_, RX14, TX14, 10, sv_tb, tyX14, rfl, by decide, hts, uw_X14, Or.inl (hts _ wd_1408), fun _ h => h, tyX14_ok 0 (by decide), tyX14_ok, nmX14, fun h => by cases h⟩
set_option maxHeartbeats 4000000 in
set_option maxRecDepth 100000 in
theorem lk_X14_next_64 {p : Program} {l : Launch} {e : Env} {s : State} {m : MethodId} {args : Array Value} {below : List Frame} {meth : Method} {c : Code} {G : sv_G} {B : Nat} (K : sv_W p s m args meth c cX14_next RX14 4 (some .int) G B "next") {r : Int32} {hE : sv_H} {x0 : Nat} {x3 : Int32} {h : sv_H} (hw : fn_X14_next_64 x0 x3 h = some (r, hE)) {H : Heap} {locs : List Loc} {ls : Array Slot} (hR : sv_R G vwCl sv_ft B h H) (hS : va_S (fun q => B ≤ q) s.heap H locs) (hl : lv_has ls 4 [(0, .ref x0), (3, .int x3)]) : W p l e rm_X14_next s m args below meth c H locs 0 0 (sv_Z below s args G B (some (.int r)) hE) (F0 m 64 ls []) := by
  obtain ⟨hx, hb, hml, hown, hts, hC, hlk, hr, hBs, hni⟩ := id K
  unfold fn_X14_next_64 at hw
  refine lv_aload_n hx hb dX14_next_64 rfl (lv_at hl 0 rfl) ?_
  refine lv_iload_n hx hb dX14_next_65 rfl (lv_at hl 1 rfl) ?_
  obtain ⟨_, h1, hv1, hw⟩ := sv_b_some hw
  refine sv_call (va_runV (As := [.int x3]) (rest := []) ⟨hx, hb, hml, hown, hts⟩ (mt_X14_add l G B hv1) (cwV 1 hts (sv_gV wd_1811 wd_1813 wd_57 wd_145 wd_1814) rfl rfl rfl (by decide +kernel) ⟨Nat.le_of_ble_eq_true rfl, Nat.le_of_ble_eq_true rfl⟩) ⟨sv_blind, sv_recv hC.1 hR (ci := 14) (sv_go hv1).1 (by decide) rfl, fun U hU hW => sv_pre hC hR hS hBs hU hW⟩ rfl rfl hl.1 rfl (lv_room (Nat.le_of_ble_eq_true rfl)) dX14_next_66 ⟨Nat.zero_le _, Nat.zero_le _⟩) hS (fun H locs hR hS => ?_)
  refine lv_aload_n hx hb dX14_next_69 rfl (lv_at hl 0 rfl) ?_
  refine lv_dup hx hb dX14_next_70 rfl ?_
  obtain ⟨v2, hv, hw⟩ := sv_bd hw
  refine sv_rgI hx hb hown hC.1 hR (fl_X14_next_34 hts hC hni) rfl (by decide) rfl rfl hv dX14_next_71 ?_
  refine lv_iconst (v := 1) hx hb dX14_next_74 (by decide) ?_
  refine lv_iadd hx hb dX14_next_75 ?_
  obtain ⟨h3, hv, hw⟩ := sv_bd hw
  refine sv_rpI hx hb hown hC.1 hR hS (fl_X14_next_34 hts hC hni) rfl (by decide) rfl rfl hv dX14_next_76 (fun H locs hR hS => ?_)
  refine lv_iload_n hx hb dX14_next_79 rfl (lv_at hl 1 rfl) ?_
  obtain ⟨rfl, rfl⟩ := sv_ret hw
  exact W.iret hx hb hr (fun t ht hW => ⟨⟨rfl, by rw [ht]; exact hR⟩, hS.F ht⟩) hS.2.2 dX14_next_80
set_option maxHeartbeats 4000000 in
set_option maxRecDepth 100000 in
theorem lk_X14_next_55 {p : Program} {l : Launch} {e : Env} {s : State} {m : MethodId} {args : Array Value} {below : List Frame} {meth : Method} {c : Code} {G : sv_G} {B : Nat} (K : sv_W p s m args meth c cX14_next RX14 4 (some .int) G B "next") {r : Int32} {hE : sv_H} {x0 : Nat} {x3 : Int32} {h : sv_H} (hw : fn_X14_next_55 x0 x3 h = some (r, hE)) {H : Heap} {locs : List Loc} {ls : Array Slot} (hR : sv_R G vwCl sv_ft B h H) (hS : va_S (fun q => B ≤ q) s.heap H locs) (hl : lv_has ls 4 [(0, .ref x0), (3, .int x3)]) : W p l e rm_X14_next s m args below meth c H locs 0 0 (sv_Z below s args G B (some (.int r)) hE) (F0 m 55 ls []) := by
  obtain ⟨hx, hb, hml, hown, hts, hC, hlk, hr, hBs, hni⟩ := id K
  unfold fn_X14_next_55 at hw
  refine lv_aload_n hx hb dX14_next_55 rfl (lv_at hl 0 rfl) ?_
  refine lv_iconst (v := 3) hx hb dX14_next_56 (by decide) ?_
  refine lv_aload_n hx hb dX14_next_57 rfl (lv_at hl 0 rfl) ?_
  obtain ⟨v1, hv, hw⟩ := sv_bd hw
  refine sv_rgI hx hb hown hC.1 hR (fl_X14_next_34 hts hC hni) rfl (by decide) rfl rfl hv dX14_next_58 ?_
  obtain ⟨_, h2, hv1, hw⟩ := sv_b_some hw
  refine sv_call (va_runV (As := [.int 3, .int v1]) (rest := []) ⟨hx, hb, hml, hown, hts⟩ (mt_X14_wrong l G B hv1) (cwV 2 hts (sv_gV wd_1807 wd_1809 wd_56 wd_145 wd_1810) rfl rfl rfl (by decide +kernel) ⟨Nat.le_of_ble_eq_true rfl, Nat.le_of_ble_eq_true rfl⟩) ⟨sv_blind, sv_recv hC.1 hR (ci := 14) (sv_go hv1).1 (by decide) rfl, fun U hU hW => sv_pre hC hR hS hBs hU hW⟩ rfl rfl hl.1 rfl (lv_room (Nat.le_of_ble_eq_true rfl)) dX14_next_61 ⟨Nat.zero_le _, Nat.zero_le _⟩) hS (fun H locs hR hS => ?_)
  exact lk_X14_next_64 K hw hR hS (lv_sub hl [0, 1] rfl)
set_option maxHeartbeats 4000000 in
set_option maxRecDepth 100000 in
theorem lk_X14_next_0 {p : Program} {l : Launch} {e : Env} {s : State} {m : MethodId} {args : Array Value} {below : List Frame} {meth : Method} {c : Code} {G : sv_G} {B : Nat} (K : sv_W p s m args meth c cX14_next RX14 4 (some .int) G B "next") {r : Int32} {hE : sv_H} {x0 : Nat} {x1 : Int32} {x2 : Int32} {h : sv_H} (hw : fn_X14_next x0 x1 x2 h = some (r, hE)) {H : Heap} {locs : List Loc} {ls : Array Slot} (hR : sv_R G vwCl sv_ft B h H) (hS : va_S (fun q => B ≤ q) s.heap H locs) (hl : lv_has ls 4 [(0, .ref x0), (1, .int x1), (2, .int x2)]) : W p l e rm_X14_next s m args below meth c H locs 0 0 (sv_Z below s args G B (some (.int r)) hE) (F0 m 0 ls []) := by
  obtain ⟨hx, hb, hml, hown, hts, hC, hlk, hr, hBs, hni⟩ := id K
  unfold fn_X14_next at hw
  have hw := (sv_go hw).2
  refine lv_aload_n hx hb dX14_next_0 rfl (lv_at hl 0 rfl) ?_
  obtain ⟨v1, hv, hw⟩ := sv_bd hw
  refine sv_rgI hx hb hown hC.1 hR (fl_X14_next_25 hts hC hni) rfl (by decide) rfl rfl hv dX14_next_1 ?_
  refine lv_if_le (tgt := 9) hx hb dX14_next_4 (by decide) (fun cc => ?_) (fun cc => ?_)
  · have hw := sv_ift cc hw
    refine lv_aload_n hx hb dX14_next_9 rfl (lv_at hl 0 rfl) ?_
    obtain ⟨v2, hv, hw⟩ := sv_bd hw
    refine sv_rgI hx hb hown hC.1 hR (fl_X14_next_34 hts hC hni) rfl (by decide) rfl rfl hv dX14_next_10 ?_
    refine lv_aload_n hx hb dX14_next_13 rfl (lv_at hl 0 rfl) ?_
    obtain ⟨v3, hv, hw⟩ := sv_bd hw
    refine sv_rgI hx hb hown hC.1 hR (fl_X14_next_37 hts hC hni) rfl (by decide) rfl rfl hv dX14_next_14 ?_
    refine lv_icmp_ne (tgt := 31) hx hb dX14_next_17 (by decide) (fun cc => ?_) (fun cc => ?_)
    · have hw := sv_iff cc hw
      refine lv_aload_n hx hb dX14_next_31 rfl (lv_at hl 0 rfl) ?_
      obtain ⟨v4, hv, hw⟩ := sv_bd hw
      refine sv_rgP hx hb hown hC.1 hR (fl_X14_next_9 hts hC hni) rfl (by decide) rfl rfl hv dX14_next_32 ?_
      refine lv_aload_n hx hb dX14_next_35 rfl (lv_at hl 0 rfl) ?_
      obtain ⟨v5, hv, hw⟩ := sv_bd hw
      refine sv_rgI hx hb hown hC.1 hR (fl_X14_next_34 hts hC hni) rfl (by decide) rfl rfl hv dX14_next_36 ?_
      obtain ⟨v6, hv, hw⟩ := sv_bd hw
      refine sv_rlB hx hb hC.1 rfl hR hv dX14_next_39 ?_
      refine lv_sipush (v := 255) hx hb dX14_next_40 (by decide) ?_
      refine lv_iand hx hb dX14_next_43 ?_
      refine lv_istore_n (lv' := [(3, .int (v6 &&& 255)), (0, .ref x0), (1, .int x1), (2, .int x2)]) hx hb dX14_next_44 rfl hl (by decide) rfl (fun ls hl => ?_)
      refine lv_iload_n hx hb dX14_next_45 rfl (lv_at hl 0 rfl) ?_
      refine lv_iload_n hx hb dX14_next_46 rfl (lv_at hl 2 rfl) ?_
      refine lv_icmp_lt (tgt := 55) hx hb dX14_next_47 (by decide) (fun cc => ?_) (fun cc => ?_)
      · have hw := sv_ift cc hw
        exact lk_X14_next_55 K hw hR hS (lv_sub hl [1, 0] rfl)
      · have hw := sv_iff cc hw
        refine lv_iload_n hx hb dX14_next_50 rfl (lv_at hl 0 rfl) ?_
        refine lv_iload_n hx hb dX14_next_51 rfl (lv_at hl 3 rfl) ?_
        refine lv_icmp_le (tgt := 64) hx hb dX14_next_52 (by decide) (fun cc => ?_) (fun cc => ?_)
        · have hw := sv_ift cc hw
          exact lk_X14_next_64 K hw hR hS (lv_sub hl [1, 0] rfl)
        · have hw := sv_iff cc hw
          exact lk_X14_next_55 K hw hR hS (lv_sub hl [1, 0] rfl)
    · have hw := sv_ift cc hw
      refine lv_aload_n hx hb dX14_next_20 rfl (lv_at hl 0 rfl) ?_
      refine lv_iconst (v := 1) hx hb dX14_next_21 (by decide) ?_
      refine lv_aload_n hx hb dX14_next_22 rfl (lv_at hl 0 rfl) ?_
      obtain ⟨v7, hv, hw⟩ := sv_bd hw
      refine sv_rgI hx hb hown hC.1 hR (fl_X14_next_37 hts hC hni) rfl (by decide) rfl rfl hv dX14_next_23 ?_
      obtain ⟨_, h8, hv1, hw⟩ := sv_b_some hw
      refine sv_call (va_runV (As := [.int 1, .int v7]) (rest := []) ⟨hx, hb, hml, hown, hts⟩ (mt_X14_wrong l G B hv1) (cwV 2 hts (sv_gV wd_1807 wd_1809 wd_56 wd_145 wd_1810) rfl rfl rfl (by decide +kernel) ⟨Nat.le_of_ble_eq_true rfl, Nat.le_of_ble_eq_true rfl⟩) ⟨sv_blind, sv_recv hC.1 hR (ci := 14) (sv_go hv1).1 (by decide) rfl, fun U hU hW => sv_pre hC hR hS hBs hU hW⟩ rfl rfl hl.1 rfl (lv_room (Nat.le_of_ble_eq_true rfl)) dX14_next_26 ⟨Nat.zero_le _, Nat.zero_le _⟩) hS (fun H locs hR hS => ?_)
      refine lv_iconst (v := 0) hx hb dX14_next_29 (by decide) ?_
      obtain ⟨rfl, rfl⟩ := sv_ret hw
      exact W.iret hx hb hr (fun t ht hW => ⟨⟨rfl, by rw [ht]; exact hR⟩, hS.F ht⟩) hS.2.2 dX14_next_30
  · have hw := sv_iff cc hw
    refine lv_iconst (v := 0) hx hb dX14_next_7 (by decide) ?_
    obtain ⟨rfl, rfl⟩ := sv_ret hw
    exact W.iret hx hb hr (fun t ht hW => ⟨⟨rfl, by rw [ht]; exact hR⟩, hS.F ht⟩) hS.2.2 dX14_next_8
set_option maxHeartbeats 4000000 in
set_option maxRecDepth 100000 in
theorem mt_X14_next (l : Launch) (G : sv_G) (B : Nat) {x0 : Nat} {x1 : Int32} {x2 : Int32} {h : sv_H} {r : Int32} {hE : sv_H} (hw : fn_X14_next x0 x1 x2 h = some (r, hE)) : Met l yX14_next (.code yX14_next cX14_next 4 (some .int) :: sv_tb) rm_X14_next (sv_Pc G B [.ref x0, .int x1, .int x2] h) (sv_Q G B (some (.int r)) hE) 0 0 (fun q => B ≤ q) := by
  refine Met.ofW (cc := cX14_next) (maxL := 4) (ret := (some .int)) (by decide +kernel) rfl ?_
  intro p e s m args below meth c s₁ Bd hml hv
  obtain ⟨rfl, hR, hC, hB⟩ := hv
  have hl := lv_entry ([.ref x0, .int x1, .int x2]) (n := 4) (Nat.le_of_ble_eq_true rfl)
  rw [lg_entry_eq]
  generalize (lg_sl ([.ref x0, .int x1, .int x2]) ++ List.replicate (4 - (lg_sl ([.ref x0, .int x1, .int x2])).length) Slot.unset).toArray = ls at hl ⊢
  have hl : lv_has ls 4 [(0, .ref x0), (1, .int x1), (2, .int x2)] := hl
  exact lk_X14_next_0 ⟨Bd.exec, Bd.bytes, hml, findClass_of_methodNamed Bd.named, fun w h => atoms_spec (ws := .code yX14_next cX14_next 4 (some .int) :: sv_tb) Bd.pre w (List.mem_cons_of_mem _ h), hC, Bd.notSynchronized, Bd.returns, hB, (name_of_methodNamed Bd.named Bd.method).1⟩ hw hR va_S.rf hl

def rm_X14_nextTwo : Room := { frames := 2, cells := 0, slots := 0, locals := 45 }
theorem fl_X14_nextTwo_25 {s : State} {meth : Method} {args : Array Value} {G : sv_G} {B : Nat} (hts : ∀ w ∈ sv_tb, w.before args s = true) (hC : sv_Cx G B s s.heap) (hni : meth.name = "nextTwo") : sv_FL s meth args vwCl RX14 25 14 4 .int true :=
  ⟨_, RX14, TX14, 10, sv_tb, tyX14, rfl, by decide, hts, uw_X14, Or.inl (hts _ wd_1416), fun _ h => h, tyX14_ok 4 (by decide), tyX14_ok, nmX14, fun _ => Or.inl rfl⟩
theorem fl_X14_nextTwo_34 {s : State} {meth : Method} {args : Array Value} {G : sv_G} {B : Nat} (hts : ∀ w ∈ sv_tb, w.before args s = true) (hC : sv_Cx G B s s.heap) (hni : meth.name = "nextTwo") : sv_FL s meth args vwCl RX14 34 14 7 .int true :=
  ⟨_, RX14, TX14, 10, sv_tb, tyX14, rfl, by decide, hts, uw_X14, Or.inl (hts _ wd_1420), fun _ h => h, tyX14_ok 7 (by decide), tyX14_ok, nmX14, fun _ => Or.inl rfl⟩
set_option maxHeartbeats 4000000 in
set_option maxRecDepth 100000 in
theorem lk_X14_nextTwo_77 {p : Program} {l : Launch} {e : Env} {s : State} {m : MethodId} {args : Array Value} {below : List Frame} {meth : Method} {c : Code} {G : sv_G} {B : Nat} (K : sv_W p s m args meth c cX14_nextTwo RX14 5 (some .int) G B "nextTwo") {r : Int32} {hE : sv_H} {x4 : Int32} {h : sv_H} (hw : fn_X14_nextTwo_77 x4 h = some (r, hE)) {H : Heap} {locs : List Loc} {ls : Array Slot} (hR : sv_R G vwCl sv_ft B h H) (hS : va_S (fun q => B ≤ q) s.heap H locs) (hl : lv_has ls 5 [(4, .int x4)]) : W p l e rm_X14_nextTwo s m args below meth c H locs 0 0 (sv_Z below s args G B (some (.int r)) hE) (F0 m 77 ls []) := by
  obtain ⟨hx, hb, hml, hown, hts, hC, hlk, hr, hBs, hni⟩ := id K
  unfold fn_X14_nextTwo_77 at hw
  refine lv_iload hx hb dX14_nextTwo_77 (lv_at hl 0 rfl) ?_
  obtain ⟨rfl, rfl⟩ := sv_ret hw
  exact W.iret hx hb hr (fun t ht hW => ⟨⟨rfl, by rw [ht]; exact hR⟩, hS.F ht⟩) hS.2.2 dX14_nextTwo_79
set_option maxHeartbeats 4000000 in
set_option maxRecDepth 100000 in
theorem lk_X14_nextTwo_71 {p : Program} {l : Launch} {e : Env} {s : State} {m : MethodId} {args : Array Value} {below : List Frame} {meth : Method} {c : Code} {G : sv_G} {B : Nat} (K : sv_W p s m args meth c cX14_nextTwo RX14 5 (some .int) G B "nextTwo") {r : Int32} {hE : sv_H} {x0 : Nat} {x3 : Int32} {x4 : Int32} {h : sv_H} (hw : fn_X14_nextTwo_71 x0 x3 x4 h = some (r, hE)) {H : Heap} {locs : List Loc} {ls : Array Slot} (hR : sv_R G vwCl sv_ft B h H) (hS : va_S (fun q => B ≤ q) s.heap H locs) (hl : lv_has ls 5 [(0, .ref x0), (3, .int x3), (4, .int x4)]) : W p l e rm_X14_nextTwo s m args below meth c H locs 0 0 (sv_Z below s args G B (some (.int r)) hE) (F0 m 71 ls []) := by
  obtain ⟨hx, hb, hml, hown, hts, hC, hlk, hr, hBs, hni⟩ := id K
  unfold fn_X14_nextTwo_71 at hw
  refine lv_aload_n hx hb dX14_nextTwo_71 rfl (lv_at hl 0 rfl) ?_
  refine lv_iconst (v := 3) hx hb dX14_nextTwo_72 (by decide) ?_
  refine lv_iload_n hx hb dX14_nextTwo_73 rfl (lv_at hl 1 rfl) ?_
  obtain ⟨_, h1, hv1, hw⟩ := sv_b_some hw
  refine sv_call (va_runV (As := [.int 3, .int x3]) (rest := []) ⟨hx, hb, hml, hown, hts⟩ (mt_X14_wrong l G B hv1) (cwV 2 hts (sv_gV wd_1807 wd_1809 wd_56 wd_145 wd_1810) rfl rfl rfl (by decide +kernel) ⟨Nat.le_of_ble_eq_true rfl, Nat.le_of_ble_eq_true rfl⟩) ⟨sv_blind, sv_recv hC.1 hR (ci := 14) (sv_go hv1).1 (by decide) rfl, fun U hU hW => sv_pre hC hR hS hBs hU hW⟩ rfl rfl hl.1 rfl (lv_room (Nat.le_of_ble_eq_true rfl)) dX14_nextTwo_74 ⟨Nat.zero_le _, Nat.zero_le _⟩) hS (fun H locs hR hS => ?_)
  exact lk_X14_nextTwo_77 K hw hR hS (lv_sub hl [2] rfl)
set_option maxHeartbeats 4000000 in
set_option maxRecDepth 100000 in
theorem lk_X14_nextTwo_50 {p : Program} {l : Launch} {e : Env} {s : State} {m : MethodId} {args : Array Value} {below : List Frame} {meth : Method} {c : Code} {G : sv_G} {B : Nat} (K : sv_W p s m args meth c cX14_nextTwo RX14 5 (some .int) G B "nextTwo") {r : Int32} {hE : sv_H} {x0 : Nat} {x1 : Int32} {x2 : Int32} {x3 : Int32} {s0 : Int32} {h : sv_H} (hw : fn_X14_nextTwo_50 x0 x1 x2 x3 s0 h = some (r, hE)) {H : Heap} {locs : List Loc} {ls : Array Slot} (hR : sv_R G vwCl sv_ft B h H) (hS : va_S (fun q => B ≤ q) s.heap H locs) (hl : lv_has ls 5 [(0, .ref x0), (1, .int x1), (2, .int x2), (3, .int x3)]) : W p l e rm_X14_nextTwo s m args below meth c H locs 0 0 (sv_Z below s args G B (some (.int r)) hE) (F0 m 50 ls [.int s0]) := by
  obtain ⟨hx, hb, hml, hown, hts, hC, hlk, hr, hBs, hni⟩ := id K
  unfold fn_X14_nextTwo_50 at hw
  refine lv_istore (lv' := [(4, .int s0), (0, .ref x0), (1, .int x1), (2, .int x2), (3, .int x3)]) hx hb dX14_nextTwo_50 hl (by decide) rfl (fun ls hl => ?_)
  refine lv_aload_n hx hb dX14_nextTwo_52 rfl (lv_at hl 1 rfl) ?_
  obtain ⟨v1, hv, hw⟩ := sv_bd hw
  refine sv_rgI hx hb hown hC.1 hR (fl_X14_nextTwo_25 hts hC hni) rfl (by decide) rfl rfl hv dX14_nextTwo_53 ?_
  refine lv_if_ne (tgt := 77) hx hb dX14_nextTwo_56 (by decide) (fun cc => ?_) (fun cc => ?_)
  · have hw := sv_iff cc hw
    exact lk_X14_nextTwo_77 K hw hR hS (lv_sub hl [0] rfl)
  · have hw := sv_ift cc hw
    refine lv_iload hx hb dX14_nextTwo_59 (lv_at hl 0 rfl) ?_
    refine lv_iload_n hx hb dX14_nextTwo_61 rfl (lv_at hl 2 rfl) ?_
    refine lv_icmp_lt (tgt := 71) hx hb dX14_nextTwo_62 (by decide) (fun cc => ?_) (fun cc => ?_)
    · have hw := sv_ift cc hw
      exact lk_X14_nextTwo_71 K hw hR hS (lv_sub hl [1, 4, 0] rfl)
    · have hw := sv_iff cc hw
      refine lv_iload hx hb dX14_nextTwo_65 (lv_at hl 0 rfl) ?_
      refine lv_iload_n hx hb dX14_nextTwo_67 rfl (lv_at hl 3 rfl) ?_
      refine lv_icmp_le (tgt := 77) hx hb dX14_nextTwo_68 (by decide) (fun cc => ?_) (fun cc => ?_)
      · have hw := sv_ift cc hw
        exact lk_X14_nextTwo_77 K hw hR hS (lv_sub hl [0] rfl)
      · have hw := sv_iff cc hw
        exact lk_X14_nextTwo_71 K hw hR hS (lv_sub hl [1, 4, 0] rfl)
set_option maxHeartbeats 4000000 in
set_option maxRecDepth 100000 in
theorem lk_X14_nextTwo_0 {p : Program} {l : Launch} {e : Env} {s : State} {m : MethodId} {args : Array Value} {below : List Frame} {meth : Method} {c : Code} {G : sv_G} {B : Nat} (K : sv_W p s m args meth c cX14_nextTwo RX14 5 (some .int) G B "nextTwo") {r : Int32} {hE : sv_H} {x0 : Nat} {x1 : Int32} {x2 : Int32} {h : sv_H} (hw : fn_X14_nextTwo x0 x1 x2 h = some (r, hE)) {H : Heap} {locs : List Loc} {ls : Array Slot} (hR : sv_R G vwCl sv_ft B h H) (hS : va_S (fun q => B ≤ q) s.heap H locs) (hl : lv_has ls 5 [(0, .ref x0), (1, .int x1), (2, .int x2)]) : W p l e rm_X14_nextTwo s m args below meth c H locs 0 0 (sv_Z below s args G B (some (.int r)) hE) (F0 m 0 ls []) := by
  obtain ⟨hx, hb, hml, hown, hts, hC, hlk, hr, hBs, hni⟩ := id K
  unfold fn_X14_nextTwo at hw
  have hw := (sv_go hw).2
  refine lv_aload_n hx hb dX14_nextTwo_0 rfl (lv_at hl 0 rfl) ?_
  obtain ⟨v1, hv, hw⟩ := sv_bd hw
  refine sv_rgI hx hb hown hC.1 hR (fl_X14_nextTwo_34 hts hC hni) rfl (by decide) rfl rfl hv dX14_nextTwo_1 ?_
  refine lv_istore_n (lv' := [(3, .int v1), (0, .ref x0), (1, .int x1), (2, .int x2)]) hx hb dX14_nextTwo_4 rfl hl (by decide) rfl (fun ls hl => ?_)
  refine lv_aload_n hx hb dX14_nextTwo_5 rfl (lv_at hl 1 rfl) ?_
  refine lv_iconst (v := 0) hx hb dX14_nextTwo_6 (by decide) ?_
  refine lv_sipush (v := 255) hx hb dX14_nextTwo_7 (by decide) ?_
  obtain ⟨r2, h3, hv1, hw⟩ := sv_b_some hw
  refine sv_call (va_runV (As := [.int 0, .int 255]) (rest := []) ⟨hx, hb, hml, hown, hts⟩ (mt_X14_next l G B hv1) (cwV 2 hts (sv_gV wd_1803 wd_1805 wd_55 wd_145 wd_1806) rfl rfl rfl (by decide +kernel) ⟨Nat.le_of_ble_eq_true rfl, Nat.le_of_ble_eq_true rfl⟩) ⟨sv_blind, sv_recv hC.1 hR (ci := 14) (sv_go hv1).1 (by decide) rfl, fun U hU hW => sv_pre hC hR hS hBs hU hW⟩ rfl rfl hl.1 rfl (lv_room (Nat.le_of_ble_eq_true rfl)) dX14_nextTwo_10 ⟨Nat.zero_le _, Nat.zero_le _⟩) hS (fun H locs hR hS => ?_)
  refine lv_sipush (v := 256) hx hb dX14_nextTwo_13 (by decide) ?_
  refine lv_imul hx hb dX14_nextTwo_16 ?_
  refine lv_istore (lv' := [(4, .int (r2 * 256)), (3, .int v1), (0, .ref x0), (1, .int x1), (2, .int x2)]) hx hb dX14_nextTwo_17 hl (by decide) rfl (fun ls hl => ?_)
  refine lv_iload hx hb dX14_nextTwo_19 (lv_at hl 0 rfl) ?_
  refine lv_aload_n hx hb dX14_nextTwo_21 rfl (lv_at hl 2 rfl) ?_
  refine lv_iconst (v := 0) hx hb dX14_nextTwo_22 (by decide) ?_
  refine lv_sipush (v := 255) hx hb dX14_nextTwo_23 (by decide) ?_
  obtain ⟨r4, h5, hv2, hw⟩ := sv_b_some hw
  refine sv_call (va_runV (As := [.int 0, .int 255]) (rest := [.int (r2 * 256)]) ⟨hx, hb, hml, hown, hts⟩ (mt_X14_next l G B hv2) (cwV 2 hts (sv_gV wd_1803 wd_1805 wd_55 wd_145 wd_1806) rfl rfl rfl (by decide +kernel) ⟨Nat.le_of_ble_eq_true rfl, Nat.le_of_ble_eq_true rfl⟩) ⟨sv_blind, sv_recv hC.1 hR (ci := 14) (sv_go hv2).1 (by decide) rfl, fun U hU hW => sv_pre hC hR hS hBs hU hW⟩ rfl rfl hl.1 rfl (lv_room (Nat.le_of_ble_eq_true rfl)) dX14_nextTwo_26 ⟨Nat.zero_le _, Nat.zero_le _⟩) hS (fun H locs hR hS => ?_)
  refine lv_iadd hx hb dX14_nextTwo_29 ?_
  refine lv_istore (lv' := [(4, .int ((r2 * 256) + r4)), (3, .int v1), (0, .ref x0), (1, .int x1), (2, .int x2)]) hx hb dX14_nextTwo_30 hl (by decide) rfl (fun ls hl => ?_)
  refine lv_iload hx hb dX14_nextTwo_32 (lv_at hl 0 rfl) ?_
  refine lv_sipush (v := 32767) hx hb dX14_nextTwo_34 (by decide) ?_
  refine lv_icmp_le (tgt := 48) hx hb dX14_nextTwo_37 (by decide) (fun cc => ?_) (fun cc => ?_)
  · have hw := sv_ift cc hw
    refine lv_iload hx hb dX14_nextTwo_48 (lv_at hl 0 rfl) ?_
    exact lk_X14_nextTwo_50 K hw hR hS (lv_sub hl [2, 3, 4, 1] rfl)
  · have hw := sv_iff cc hw
    refine lv_iload hx hb dX14_nextTwo_40 (lv_at hl 0 rfl) ?_
    refine lv_ldc (v := 65536) hx hb hown (hts _ wd_1823) dX14_nextTwo_42 ?_
    refine lv_isub hx hb dX14_nextTwo_44 ?_
    refine lv_goto (tgt := 50) hx hb dX14_nextTwo_45 (by decide) ?_
    exact lk_X14_nextTwo_50 K hw hR hS (lv_sub hl [2, 3, 4, 1] rfl)
set_option maxHeartbeats 4000000 in
set_option maxRecDepth 100000 in
theorem mt_X14_nextTwo (l : Launch) (G : sv_G) (B : Nat) {x0 : Nat} {x1 : Int32} {x2 : Int32} {h : sv_H} {r : Int32} {hE : sv_H} (hw : fn_X14_nextTwo x0 x1 x2 h = some (r, hE)) : Met l yX14_nextTwo (.code yX14_nextTwo cX14_nextTwo 5 (some .int) :: sv_tb) rm_X14_nextTwo (sv_Pc G B [.ref x0, .int x1, .int x2] h) (sv_Q G B (some (.int r)) hE) 0 0 (fun q => B ≤ q) := by
  refine Met.ofW (cc := cX14_nextTwo) (maxL := 5) (ret := (some .int)) (by decide +kernel) rfl ?_
  intro p e s m args below meth c s₁ Bd hml hv
  obtain ⟨rfl, hR, hC, hB⟩ := hv
  have hl := lv_entry ([.ref x0, .int x1, .int x2]) (n := 5) (Nat.le_of_ble_eq_true rfl)
  rw [lg_entry_eq]
  generalize (lg_sl ([.ref x0, .int x1, .int x2]) ++ List.replicate (5 - (lg_sl ([.ref x0, .int x1, .int x2])).length) Slot.unset).toArray = ls at hl ⊢
  have hl : lv_has ls 5 [(0, .ref x0), (1, .int x1), (2, .int x2)] := hl
  exact lk_X14_nextTwo_0 ⟨Bd.exec, Bd.bytes, hml, findClass_of_methodNamed Bd.named, fun w h => atoms_spec (ws := .code yX14_nextTwo cX14_nextTwo 5 (some .int) :: sv_tb) Bd.pre w (List.mem_cons_of_mem _ h), hC, Bd.notSynchronized, Bd.returns, hB, (name_of_methodNamed Bd.named Bd.method).1⟩ hw hR va_S.rf hl

def rm_X14_pair : Room := { frames := 0, cells := 0, slots := 0, locals := 0 }
set_option maxHeartbeats 4000000 in
set_option maxRecDepth 100000 in
theorem lk_X14_pair_37 {p : Program} {l : Launch} {e : Env} {s : State} {m : MethodId} {args : Array Value} {below : List Frame} {meth : Method} {c : Code} {G : sv_G} {B : Nat} (K : sv_W p s m args meth c cX14_pair RX14 3 (some .int) G B "pair") {r : Int32} {hE : sv_H} {s0 : Int32} {h : sv_H} (hw : fn_X14_pair_37 s0 h = some (r, hE)) {H : Heap} {locs : List Loc} {ls : Array Slot} (hR : sv_R G vwCl sv_ft B h H) (hS : va_S (fun q => B ≤ q) s.heap H locs) (hl : lv_has ls 3 []) : W p l e rm_X14_pair s m args below meth c H locs 0 0 (sv_Z below s args G B (some (.int r)) hE) (F0 m 37 ls [.int s0]) := by
  obtain ⟨hx, hb, hml, hown, hts, hC, hlk, hr, hBs, hni⟩ := id K
  unfold fn_X14_pair_37 at hw
  obtain ⟨rfl, rfl⟩ := sv_ret hw
  exact W.iret hx hb hr (fun t ht hW => ⟨⟨rfl, by rw [ht]; exact hR⟩, hS.F ht⟩) hS.2.2 dX14_pair_37
set_option maxHeartbeats 4000000 in
set_option maxRecDepth 100000 in
theorem lk_X14_pair_0 {p : Program} {l : Launch} {e : Env} {s : State} {m : MethodId} {args : Array Value} {below : List Frame} {meth : Method} {c : Code} {G : sv_G} {B : Nat} (K : sv_W p s m args meth c cX14_pair RX14 3 (some .int) G B "pair") {r : Int32} {hE : sv_H} {x0 : Nat} {x1 : Int32} {h : sv_H} (hw : fn_X14_pair x0 x1 h = some (r, hE)) {H : Heap} {locs : List Loc} {ls : Array Slot} (hR : sv_R G vwCl sv_ft B h H) (hS : va_S (fun q => B ≤ q) s.heap H locs) (hl : lv_has ls 3 [(0, .ref x0), (1, .int x1)]) : W p l e rm_X14_pair s m args below meth c H locs 0 0 (sv_Z below s args G B (some (.int r)) hE) (F0 m 0 ls []) := by
  obtain ⟨hx, hb, hml, hown, hts, hC, hlk, hr, hBs, hni⟩ := id K
  unfold fn_X14_pair at hw
  refine lv_aload_n hx hb dX14_pair_0 rfl (lv_at hl 0 rfl) ?_
  refine lv_iload_n hx hb dX14_pair_1 rfl (lv_at hl 1 rfl) ?_
  obtain ⟨v1, hv, hw⟩ := sv_bd hw
  refine sv_rlB hx hb hC.1 rfl hR hv dX14_pair_2 ?_
  refine lv_sipush (v := 255) hx hb dX14_pair_3 (by decide) ?_
  refine lv_iand hx hb dX14_pair_6 ?_
  refine lv_sipush (v := 256) hx hb dX14_pair_7 (by decide) ?_
  refine lv_imul hx hb dX14_pair_10 ?_
  refine lv_aload_n hx hb dX14_pair_11 rfl (lv_at hl 0 rfl) ?_
  refine lv_iload_n hx hb dX14_pair_12 rfl (lv_at hl 1 rfl) ?_
  refine lv_iconst (v := 1) hx hb dX14_pair_13 (by decide) ?_
  refine lv_iadd hx hb dX14_pair_14 ?_
  obtain ⟨v2, hv, hw⟩ := sv_bd hw
  refine sv_rlB hx hb hC.1 rfl hR hv dX14_pair_15 ?_
  refine lv_sipush (v := 255) hx hb dX14_pair_16 (by decide) ?_
  refine lv_iand hx hb dX14_pair_19 ?_
  refine lv_iadd hx hb dX14_pair_20 ?_
  refine lv_istore_n (lv' := [(2, .int (((v1 &&& 255) * 256) + (v2 &&& 255))), (0, .ref x0), (1, .int x1)]) hx hb dX14_pair_21 rfl hl (by decide) rfl (fun ls hl => ?_)
  refine lv_iload_n hx hb dX14_pair_22 rfl (lv_at hl 0 rfl) ?_
  refine lv_sipush (v := 32767) hx hb dX14_pair_23 (by decide) ?_
  refine lv_icmp_le (tgt := 36) hx hb dX14_pair_26 (by decide) (fun cc => ?_) (fun cc => ?_)
  · have hw := sv_ift cc hw
    refine lv_iload_n hx hb dX14_pair_36 rfl (lv_at hl 0 rfl) ?_
    exact lk_X14_pair_37 K hw hR hS (lv_sub hl [] rfl)
  · have hw := sv_iff cc hw
    refine lv_iload_n hx hb dX14_pair_29 rfl (lv_at hl 0 rfl) ?_
    refine lv_ldc (v := 65536) hx hb hown (hts _ wd_1823) dX14_pair_30 ?_
    refine lv_isub hx hb dX14_pair_32 ?_
    refine lv_goto (tgt := 37) hx hb dX14_pair_33 (by decide) ?_
    exact lk_X14_pair_37 K hw hR hS (lv_sub hl [] rfl)
set_option maxHeartbeats 4000000 in
set_option maxRecDepth 100000 in
theorem mt_X14_pair (l : Launch) (G : sv_G) (B : Nat) {x0 : Nat} {x1 : Int32} {h : sv_H} {r : Int32} {hE : sv_H} (hw : fn_X14_pair x0 x1 h = some (r, hE)) : Met l yX14_pair (.code yX14_pair cX14_pair 3 (some .int) :: sv_tb) rm_X14_pair (sv_Pc G B [.ref x0, .int x1] h) (sv_Q G B (some (.int r)) hE) 0 0 (fun q => B ≤ q) := by
  refine Met.ofW (cc := cX14_pair) (maxL := 3) (ret := (some .int)) (by decide +kernel) rfl ?_
  intro p e s m args below meth c s₁ Bd hml hv
  obtain ⟨rfl, hR, hC, hB⟩ := hv
  have hl := lv_entry ([.ref x0, .int x1]) (n := 3) (Nat.le_of_ble_eq_true rfl)
  rw [lg_entry_eq]
  generalize (lg_sl ([.ref x0, .int x1]) ++ List.replicate (3 - (lg_sl ([.ref x0, .int x1])).length) Slot.unset).toArray = ls at hl ⊢
  have hl : lv_has ls 3 [(0, .ref x0), (1, .int x1)] := hl
  exact lk_X14_pair_0 ⟨Bd.exec, Bd.bytes, hml, findClass_of_methodNamed Bd.named, fun w h => atoms_spec (ws := .code yX14_pair cX14_pair 3 (some .int) :: sv_tb) Bd.pre w (List.mem_cons_of_mem _ h), hC, Bd.notSynchronized, Bd.returns, hB, (name_of_methodNamed Bd.named Bd.method).1⟩ hw hR va_S.rf hl

def rm_X14_readVertex : Room := { frames := 3, cells := 0, slots := 0, locals := 69 }
theorem fl_X14_readVertex_25 {s : State} {meth : Method} {args : Array Value} {G : sv_G} {B : Nat} (hts : ∀ w ∈ sv_tb, w.before args s = true) (hC : sv_Cx G B s s.heap) (hni : meth.name = "readVertex") : sv_FL s meth args vwCl RX14 25 14 4 .int true :=
  ⟨_, RX14, TX14, 10, sv_tb, tyX14, rfl, by decide, hts, uw_X14, Or.inl (hts _ wd_1416), fun _ h => h, tyX14_ok 4 (by decide), tyX14_ok, nmX14, fun _ => Or.inl rfl⟩
theorem fl_X14_readVertex_9 {s : State} {meth : Method} {args : Array Value} {G : sv_G} {B : Nat} (hts : ∀ w ∈ sv_tb, w.before args s = true) (hC : sv_Cx G B s s.heap) (hni : meth.name = "readVertex") : sv_FL s meth args vwCl RX14 9 14 0 (.array .byte) false :=
  ⟨_, RX14, TX14, 10, sv_tb, tyX14, rfl, by decide, hts, uw_X14, Or.inl (hts _ wd_1408), fun _ h => h, tyX14_ok 0 (by decide), tyX14_ok, nmX14, fun h => by cases h⟩
theorem fl_X14_readVertex_34 {s : State} {meth : Method} {args : Array Value} {G : sv_G} {B : Nat} (hts : ∀ w ∈ sv_tb, w.before args s = true) (hC : sv_Cx G B s s.heap) (hni : meth.name = "readVertex") : sv_FL s meth args vwCl RX14 34 14 7 .int true :=
  ⟨_, RX14, TX14, 10, sv_tb, tyX14, rfl, by decide, hts, uw_X14, Or.inl (hts _ wd_1420), fun _ h => h, tyX14_ok 7 (by decide), tyX14_ok, nmX14, fun _ => Or.inl rfl⟩
set_option maxHeartbeats 4000000 in
set_option maxRecDepth 100000 in
theorem lk_X14_readVertex_93 {p : Program} {l : Launch} {e : Env} {s : State} {m : MethodId} {args : Array Value} {below : List Frame} {meth : Method} {c : Code} {G : sv_G} {B : Nat} (K : sv_W p s m args meth c cX14_readVertex RX14 6 none G B "readVertex") {r : Unit} {hE : sv_H} {h : sv_H} (hw : fn_X14_readVertex_93 h = some (r, hE)) {H : Heap} {locs : List Loc} {ls : Array Slot} (hR : sv_R G vwCl sv_ft B h H) (hS : va_S (fun q => B ≤ q) s.heap H locs) (hl : lv_has ls 6 []) : W p l e rm_X14_readVertex s m args below meth c H locs 0 0 (sv_Z below s args G B none hE) (F0 m 93 ls []) := by
  obtain ⟨hx, hb, hml, hown, hts, hC, hlk, hr, hBs, hni⟩ := id K
  unfold fn_X14_readVertex_93 at hw
  obtain ⟨rfl, rfl⟩ := sv_ret hw
  exact W.vret hx hb hr (fun t ht hW => ⟨⟨rfl, by rw [ht]; exact hR⟩, hS.F ht⟩) hS.2.2 dX14_readVertex_93
set_option maxHeartbeats 4000000 in
set_option maxRecDepth 100000 in
theorem lk_X14_readVertex_87 {p : Program} {l : Launch} {e : Env} {s : State} {m : MethodId} {args : Array Value} {below : List Frame} {meth : Method} {c : Code} {G : sv_G} {B : Nat} (K : sv_W p s m args meth c cX14_readVertex RX14 6 none G B "readVertex") {r : Unit} {hE : sv_H} {k31 : Nat → Int32 → Int32 → Int32 → Int32 → Int32 → sv_H → Option (Unit × sv_H)} (hk31 : ∀ {x0 : Nat} {x1 : Int32} {x2 : Int32} {x3 : Int32} {x4 : Int32} {x5 : Int32} {h : sv_H}, k31 x0 x1 x2 x3 x4 x5 h = some (r, hE) → ∀ {H : Heap} {locs : List Loc} {ls : Array Slot}, sv_R G vwCl sv_ft B h H → va_S (fun q => B ≤ q) s.heap H locs → lv_has ls 6 [(0, .ref x0), (1, .int x1), (2, .int x2), (3, .int x3), (4, .int x4), (5, .int x5)] → W p l e rm_X14_readVertex s m args below meth c H locs 0 0 (sv_Z below s args G B none hE) (F0 m 31 ls [])) {x0 : Nat} {x1 : Int32} {x2 : Int32} {x3 : Int32} {x4 : Int32} {x5 : Int32} {h : sv_H} (hw : fn_X14_readVertex_87 k31 x0 x1 x2 x3 x4 x5 h = some (r, hE)) {H : Heap} {locs : List Loc} {ls : Array Slot} (hR : sv_R G vwCl sv_ft B h H) (hS : va_S (fun q => B ≤ q) s.heap H locs) (hl : lv_has ls 6 [(0, .ref x0), (1, .int x1), (2, .int x2), (3, .int x3), (4, .int x4), (5, .int x5)]) : W p l e rm_X14_readVertex s m args below meth c H locs 0 0 (sv_Z below s args G B none hE) (F0 m 87 ls []) := by
  obtain ⟨hx, hb, hml, hown, hts, hC, hlk, hr, hBs, hni⟩ := id K
  unfold fn_X14_readVertex_87 at hw
  refine lv_iinc (v := x5 + 1) (lv' := [(5, .int (x5 + 1)), (0, .ref x0), (1, .int x1), (2, .int x2), (3, .int x3), (4, .int x4)]) hx hb dX14_readVertex_87 hl (k := 5) rfl rfl (by decide) rfl (fun ls hl => ?_)
  refine lv_goto (tgt := 31) hx hb dX14_readVertex_90 (by decide) ?_
  exact hk31 hw hR hS (lv_sub hl [1, 2, 3, 4, 5, 0] rfl)
set_option maxHeartbeats 4000000 in
set_option maxRecDepth 100000 in
theorem lk_X14_readVertex_31b {p : Program} {l : Launch} {e : Env} {s : State} {m : MethodId} {args : Array Value} {below : List Frame} {meth : Method} {c : Code} {G : sv_G} {B : Nat} (K : sv_W p s m args meth c cX14_readVertex RX14 6 none G B "readVertex") {r : Unit} {hE : sv_H} {k31 : Nat → Int32 → Int32 → Int32 → Int32 → Int32 → sv_H → Option (Unit × sv_H)} (hk31 : ∀ {x0 : Nat} {x1 : Int32} {x2 : Int32} {x3 : Int32} {x4 : Int32} {x5 : Int32} {h : sv_H}, k31 x0 x1 x2 x3 x4 x5 h = some (r, hE) → ∀ {H : Heap} {locs : List Loc} {ls : Array Slot}, sv_R G vwCl sv_ft B h H → va_S (fun q => B ≤ q) s.heap H locs → lv_has ls 6 [(0, .ref x0), (1, .int x1), (2, .int x2), (3, .int x3), (4, .int x4), (5, .int x5)] → W p l e rm_X14_readVertex s m args below meth c H locs 0 0 (sv_Z below s args G B none hE) (F0 m 31 ls [])) {x0 : Nat} {x1 : Int32} {x2 : Int32} {x3 : Int32} {x4 : Int32} {x5 : Int32} {h : sv_H} (hw : fn_X14_readVertex_31b k31 x0 x1 x2 x3 x4 x5 h = some (r, hE)) {H : Heap} {locs : List Loc} {ls : Array Slot} (hR : sv_R G vwCl sv_ft B h H) (hS : va_S (fun q => B ≤ q) s.heap H locs) (hl : lv_has ls 6 [(0, .ref x0), (1, .int x1), (2, .int x2), (3, .int x3), (4, .int x4), (5, .int x5)]) : W p l e rm_X14_readVertex s m args below meth c H locs 0 0 (sv_Z below s args G B none hE) (F0 m 31 ls []) := by
  obtain ⟨hx, hb, hml, hown, hts, hC, hlk, hr, hBs, hni⟩ := id K
  unfold fn_X14_readVertex_31b at hw
  refine lv_iload hx hb dX14_readVertex_31 (lv_at hl 5 rfl) ?_
  refine lv_iload_n hx hb dX14_readVertex_33 rfl (lv_at hl 1 rfl) ?_
  refine lv_icmp_ge (tgt := 93) hx hb dX14_readVertex_34 (by decide) (fun cc => ?_) (fun cc => ?_)
  · have hw := sv_ift cc hw
    exact lk_X14_readVertex_93 K hw hR hS (lv_sub hl [] rfl)
  · have hw := sv_iff cc hw
    refine lv_aload_n hx hb dX14_readVertex_37 rfl (lv_at hl 0 rfl) ?_
    obtain ⟨v1, hv, hw⟩ := sv_bd hw
    refine sv_rgI hx hb hown hC.1 hR (fl_X14_readVertex_25 hts hC hni) rfl (by decide) rfl rfl hv dX14_readVertex_38 ?_
    refine lv_if_ne (tgt := 93) hx hb dX14_readVertex_41 (by decide) (fun cc => ?_) (fun cc => ?_)
    · have hw := sv_iff cc hw
      exact lk_X14_readVertex_93 K hw hR hS (lv_sub hl [] rfl)
    · have hw := sv_ift cc hw
      refine lv_aload_n hx hb dX14_readVertex_44 rfl (lv_at hl 0 rfl) ?_
      obtain ⟨v2, hv, hw⟩ := sv_bd hw
      refine sv_rgP hx hb hown hC.1 hR (fl_X14_readVertex_9 hts hC hni) rfl (by decide) rfl rfl hv dX14_readVertex_45 ?_
      refine lv_bipush (v := 7) hx hb dX14_readVertex_48 (by decide) ?_
      refine lv_iconst (v := 4) hx hb dX14_readVertex_50 (by decide) ?_
      refine lv_iload hx hb dX14_readVertex_51 (lv_at hl 5 rfl) ?_
      refine lv_imul hx hb dX14_readVertex_53 ?_
      refine lv_iadd hx hb dX14_readVertex_54 ?_
      obtain ⟨r3, h4, hv1, hw⟩ := sv_b_some hw
      refine sv_call (va_runS (As := [.ref v2, .int (7 + (4 * x5))]) (rest := []) ⟨hx, hb, hml, hown, hts⟩ (mt_X14_pair l G B hv1) (va_cwS 2 hts (sv_gS wd_1824 wd_1825 wd_145 wd_1826) rfl rfl rfl (by decide +kernel) ⟨Nat.le_of_ble_eq_true rfl, Nat.le_of_ble_eq_true rfl⟩) ⟨sv_blind, fun U hU hW => sv_pre hC hR hS hBs hU hW⟩ rfl rfl hl.1 rfl (lv_room (Nat.le_of_ble_eq_true rfl)) dX14_readVertex_55 ⟨Nat.zero_le _, Nat.zero_le _⟩) hS (fun H locs hR hS => ?_)
      refine lv_iload_n hx hb dX14_readVertex_58 rfl (lv_at hl 2 rfl) ?_
      refine lv_icmp_ne (tgt := 87) hx hb dX14_readVertex_59 (by decide) (fun cc => ?_) (fun cc => ?_)
      · have hw := sv_iff cc hw
        exact lk_X14_readVertex_87 K hk31 hw hR hS (lv_sub hl [0, 1, 2, 3, 4, 5] rfl)
      · have hw := sv_ift cc hw
        refine lv_aload_n hx hb dX14_readVertex_62 rfl (lv_at hl 0 rfl) ?_
        obtain ⟨v5, hv, hw⟩ := sv_bd hw
        refine sv_rgP hx hb hown hC.1 hR (fl_X14_readVertex_9 hts hC hni) rfl (by decide) rfl rfl hv dX14_readVertex_63 ?_
        refine lv_bipush (v := 9) hx hb dX14_readVertex_66 (by decide) ?_
        refine lv_iconst (v := 4) hx hb dX14_readVertex_68 (by decide) ?_
        refine lv_iload hx hb dX14_readVertex_69 (lv_at hl 5 rfl) ?_
        refine lv_imul hx hb dX14_readVertex_71 ?_
        refine lv_iadd hx hb dX14_readVertex_72 ?_
        obtain ⟨r6, h7, hv2, hw⟩ := sv_b_some hw
        refine sv_call (va_runS (As := [.ref v5, .int (9 + (4 * x5))]) (rest := []) ⟨hx, hb, hml, hown, hts⟩ (mt_X14_pair l G B hv2) (va_cwS 2 hts (sv_gS wd_1824 wd_1825 wd_145 wd_1826) rfl rfl rfl (by decide +kernel) ⟨Nat.le_of_ble_eq_true rfl, Nat.le_of_ble_eq_true rfl⟩) ⟨sv_blind, fun U hU hW => sv_pre hC hR hS hBs hU hW⟩ rfl rfl hl.1 rfl (lv_room (Nat.le_of_ble_eq_true rfl)) dX14_readVertex_73 ⟨Nat.zero_le _, Nat.zero_le _⟩) hS (fun H locs hR hS => ?_)
        refine lv_iload hx hb dX14_readVertex_76 (lv_at hl 4 rfl) ?_
        refine lv_icmp_ne (tgt := 87) hx hb dX14_readVertex_78 (by decide) (fun cc => ?_) (fun cc => ?_)
        · have hw := sv_iff cc hw
          exact lk_X14_readVertex_87 K hk31 hw hR hS (lv_sub hl [0, 1, 2, 3, 4, 5] rfl)
        · have hw := sv_ift cc hw
          refine lv_aload_n hx hb dX14_readVertex_81 rfl (lv_at hl 0 rfl) ?_
          refine lv_iconst (v := 3) hx hb dX14_readVertex_82 (by decide) ?_
          refine lv_iload_n hx hb dX14_readVertex_83 rfl (lv_at hl 3 rfl) ?_
          obtain ⟨_, h8, hv3, hw⟩ := sv_b_some hw
          refine sv_call (va_runV (As := [.int 3, .int x3]) (rest := []) ⟨hx, hb, hml, hown, hts⟩ (mt_X14_wrong l G B hv3) (cwV 2 hts (sv_gV wd_1807 wd_1809 wd_56 wd_145 wd_1810) rfl rfl rfl (by decide +kernel) ⟨Nat.le_of_ble_eq_true rfl, Nat.le_of_ble_eq_true rfl⟩) ⟨sv_blind, sv_recv hC.1 hR (ci := 14) (sv_go hv3).1 (by decide) rfl, fun U hU hW => sv_pre hC hR hS hBs hU hW⟩ rfl rfl hl.1 rfl (lv_room (Nat.le_of_ble_eq_true rfl)) dX14_readVertex_84 ⟨Nat.zero_le _, Nat.zero_le _⟩) hS (fun H locs hR hS => ?_)
          exact lk_X14_readVertex_87 K hk31 hw hR hS (lv_sub hl [0, 1, 2, 3, 4, 5] rfl)
theorem lk_X14_readVertex_31 {p : Program} {l : Launch} {e : Env} {s : State} {m : MethodId} {args : Array Value} {below : List Frame} {meth : Method} {c : Code} {G : sv_G} {B : Nat} (K : sv_W p s m args meth c cX14_readVertex RX14 6 none G B "readVertex") {r : Unit} {hE : sv_H} : ∀ (n : Nat) {x0 : Nat} {x1 : Int32} {x2 : Int32} {x3 : Int32} {x4 : Int32} {x5 : Int32} {h : sv_H}, fn_X14_readVertex_31 n x0 x1 x2 x3 x4 x5 h = some (r, hE) → ∀ {H : Heap} {locs : List Loc} {ls : Array Slot}, sv_R G vwCl sv_ft B h H → va_S (fun q => B ≤ q) s.heap H locs → lv_has ls 6 [(0, .ref x0), (1, .int x1), (2, .int x2), (3, .int x3), (4, .int x4), (5, .int x5)] → W p l e rm_X14_readVertex s m args below meth c H locs 0 0 (sv_Z below s args G B none hE) (F0 m 31 ls []) := by
  intro n
  induction n with
  | zero => intro x0 x1 x2 x3 x4 x5 h hw; cases (show (none : Option (Unit × sv_H)) = some (r, hE) from hw)
  | succ n ih => intro x0 x1 x2 x3 x4 x5 h hw H locs ls hR hS hl; exact lk_X14_readVertex_31b K (fun hw => ih hw) hw hR hS hl
set_option maxHeartbeats 4000000 in
set_option maxRecDepth 100000 in
theorem lk_X14_readVertex_0 {p : Program} {l : Launch} {e : Env} {s : State} {m : MethodId} {args : Array Value} {below : List Frame} {meth : Method} {c : Code} {G : sv_G} {B : Nat} (K : sv_W p s m args meth c cX14_readVertex RX14 6 none G B "readVertex") {r : Unit} {hE : sv_H} {x0 : Nat} {x1 : Int32} {h : sv_H} (hw : fn_X14_readVertex x0 x1 h = some (r, hE)) {H : Heap} {locs : List Loc} {ls : Array Slot} (hR : sv_R G vwCl sv_ft B h H) (hS : va_S (fun q => B ≤ q) s.heap H locs) (hl : lv_has ls 6 [(0, .ref x0), (1, .int x1)]) : W p l e rm_X14_readVertex s m args below meth c H locs 0 0 (sv_Z below s args G B none hE) (F0 m 0 ls []) := by
  obtain ⟨hx, hb, hml, hown, hts, hC, hlk, hr, hBs, hni⟩ := id K
  unfold fn_X14_readVertex at hw
  have hw := (sv_go hw).2
  refine lv_aload_n hx hb dX14_readVertex_0 rfl (lv_at hl 0 rfl) ?_
  refine lv_sipush (v := (-32768)) hx hb dX14_readVertex_1 (by decide) ?_
  refine lv_sipush (v := 32767) hx hb dX14_readVertex_4 (by decide) ?_
  obtain ⟨r1, h2, hv1, hw⟩ := sv_b_some hw
  refine sv_call (va_runV (As := [.int ((-32768)), .int 32767]) (rest := []) ⟨hx, hb, hml, hown, hts⟩ (mt_X14_nextTwo l G B hv1) (cwV 2 hts (sv_gV wd_1819 wd_1821 wd_59 wd_145 wd_1822) rfl rfl rfl (by decide +kernel) ⟨Nat.le_of_ble_eq_true rfl, Nat.le_of_ble_eq_true rfl⟩) ⟨sv_blind, sv_recv hC.1 hR (ci := 14) (sv_go hv1).1 (by decide) rfl, fun U hU hW => sv_pre hC hR hS hBs hU hW⟩ rfl rfl hl.1 rfl (lv_room (Nat.le_of_ble_eq_true rfl)) dX14_readVertex_7 ⟨Nat.zero_le _, Nat.zero_le _⟩) hS (fun H locs hR hS => ?_)
  refine lv_istore_n (lv' := [(2, .int r1), (0, .ref x0), (1, .int x1)]) hx hb dX14_readVertex_10 rfl hl (by decide) rfl (fun ls hl => ?_)
  refine lv_aload_n hx hb dX14_readVertex_11 rfl (lv_at hl 1 rfl) ?_
  obtain ⟨v3, hv, hw⟩ := sv_bd hw
  refine sv_rgI hx hb hown hC.1 hR (fl_X14_readVertex_34 hts hC hni) rfl (by decide) rfl rfl hv dX14_readVertex_12 ?_
  refine lv_istore_n (lv' := [(3, .int v3), (2, .int r1), (0, .ref x0), (1, .int x1)]) hx hb dX14_readVertex_15 rfl hl (by decide) rfl (fun ls hl => ?_)
  refine lv_aload_n hx hb dX14_readVertex_16 rfl (lv_at hl 2 rfl) ?_
  refine lv_sipush (v := (-32768)) hx hb dX14_readVertex_17 (by decide) ?_
  refine lv_sipush (v := 32767) hx hb dX14_readVertex_20 (by decide) ?_
  obtain ⟨r4, h5, hv2, hw⟩ := sv_b_some hw
  refine sv_call (va_runV (As := [.int ((-32768)), .int 32767]) (rest := []) ⟨hx, hb, hml, hown, hts⟩ (mt_X14_nextTwo l G B hv2) (cwV 2 hts (sv_gV wd_1819 wd_1821 wd_59 wd_145 wd_1822) rfl rfl rfl (by decide +kernel) ⟨Nat.le_of_ble_eq_true rfl, Nat.le_of_ble_eq_true rfl⟩) ⟨sv_blind, sv_recv hC.1 hR (ci := 14) (sv_go hv2).1 (by decide) rfl, fun U hU hW => sv_pre hC hR hS hBs hU hW⟩ rfl rfl hl.1 rfl (lv_room (Nat.le_of_ble_eq_true rfl)) dX14_readVertex_23 ⟨Nat.zero_le _, Nat.zero_le _⟩) hS (fun H locs hR hS => ?_)
  refine lv_istore (lv' := [(4, .int r4), (3, .int v3), (2, .int r1), (0, .ref x0), (1, .int x1)]) hx hb dX14_readVertex_26 hl (by decide) rfl (fun ls hl => ?_)
  refine lv_iconst (v := 0) hx hb dX14_readVertex_28 (by decide) ?_
  refine lv_istore (lv' := [(5, .int 0), (4, .int r4), (3, .int v3), (2, .int r1), (0, .ref x0), (1, .int x1)]) hx hb dX14_readVertex_29 hl (by decide) rfl (fun ls hl => ?_)
  exact lk_X14_readVertex_31 K sv_fuel hw hR hS (lv_sub hl [4, 5, 3, 2, 1, 0] rfl)
set_option maxHeartbeats 4000000 in
set_option maxRecDepth 100000 in
theorem mt_X14_readVertex (l : Launch) (G : sv_G) (B : Nat) {x0 : Nat} {x1 : Int32} {h : sv_H} {r : Unit} {hE : sv_H} (hw : fn_X14_readVertex x0 x1 h = some (r, hE)) : Met l yX14_readVertex (.code yX14_readVertex cX14_readVertex 6 none :: sv_tb) rm_X14_readVertex (sv_Pc G B [.ref x0, .int x1] h) (sv_Q G B none hE) 0 0 (fun q => B ≤ q) := by
  refine Met.ofW (cc := cX14_readVertex) (maxL := 6) (ret := none) (by decide +kernel) rfl ?_
  intro p e s m args below meth c s₁ Bd hml hv
  obtain ⟨rfl, hR, hC, hB⟩ := hv
  have hl := lv_entry ([.ref x0, .int x1]) (n := 6) (Nat.le_of_ble_eq_true rfl)
  rw [lg_entry_eq]
  generalize (lg_sl ([.ref x0, .int x1]) ++ List.replicate (6 - (lg_sl ([.ref x0, .int x1])).length) Slot.unset).toArray = ls at hl ⊢
  have hl : lv_has ls 6 [(0, .ref x0), (1, .int x1)] := hl
  exact lk_X14_readVertex_0 ⟨Bd.exec, Bd.bytes, hml, findClass_of_methodNamed Bd.named, fun w h => atoms_spec (ws := .code yX14_readVertex cX14_readVertex 6 none :: sv_tb) Bd.pre w (List.mem_cons_of_mem _ h), hC, Bd.notSynchronized, Bd.returns, hB, (name_of_methodNamed Bd.named Bd.method).1⟩ hw hR va_S.rf hl

def rm_X14_readTexture : Room := { frames := 2, cells := 0, slots := 0, locals := 45 }
theorem fl_X14_readTexture_25 {s : State} {meth : Method} {args : Array Value} {G : sv_G} {B : Nat} (hts : ∀ w ∈ sv_tb, w.before args s = true) (hC : sv_Cx G B s s.heap) (hni : meth.name = "readTexture") : sv_FL s meth args vwCl RX14 25 14 4 .int true :=
  ⟨_, RX14, TX14, 10, sv_tb, tyX14, rfl, by decide, hts, uw_X14, Or.inl (hts _ wd_1416), fun _ h => h, tyX14_ok 4 (by decide), tyX14_ok, nmX14, fun _ => Or.inl rfl⟩
set_option maxHeartbeats 4000000 in
set_option maxRecDepth 100000 in
theorem lk_X14_readTexture_47 {p : Program} {l : Launch} {e : Env} {s : State} {m : MethodId} {args : Array Value} {below : List Frame} {meth : Method} {c : Code} {G : sv_G} {B : Nat} (K : sv_W p s m args meth c cX14_readTexture RX14 5 none G B "readTexture") {r : Unit} {hE : sv_H} {h : sv_H} (hw : fn_X14_readTexture_47 h = some (r, hE)) {H : Heap} {locs : List Loc} {ls : Array Slot} (hR : sv_R G vwCl sv_ft B h H) (hS : va_S (fun q => B ≤ q) s.heap H locs) (hl : lv_has ls 5 []) : W p l e rm_X14_readTexture s m args below meth c H locs 0 0 (sv_Z below s args G B none hE) (F0 m 47 ls []) := by
  obtain ⟨hx, hb, hml, hown, hts, hC, hlk, hr, hBs, hni⟩ := id K
  unfold fn_X14_readTexture_47 at hw
  obtain ⟨rfl, rfl⟩ := sv_ret hw
  exact W.vret hx hb hr (fun t ht hW => ⟨⟨rfl, by rw [ht]; exact hR⟩, hS.F ht⟩) hS.2.2 dX14_readTexture_47
set_option maxHeartbeats 4000000 in
set_option maxRecDepth 100000 in
theorem lk_X14_readTexture_16b {p : Program} {l : Launch} {e : Env} {s : State} {m : MethodId} {args : Array Value} {below : List Frame} {meth : Method} {c : Code} {G : sv_G} {B : Nat} (K : sv_W p s m args meth c cX14_readTexture RX14 5 none G B "readTexture") {r : Unit} {hE : sv_H} {k16 : Nat → Int32 → Int32 → Int32 → sv_H → Option (Unit × sv_H)} (hk16 : ∀ {x0 : Nat} {x1 : Int32} {x2 : Int32} {x3 : Int32} {h : sv_H}, k16 x0 x1 x2 x3 h = some (r, hE) → ∀ {H : Heap} {locs : List Loc} {ls : Array Slot}, sv_R G vwCl sv_ft B h H → va_S (fun q => B ≤ q) s.heap H locs → lv_has ls 5 [(0, .ref x0), (1, .int x1), (2, .int x2), (3, .int x3)] → W p l e rm_X14_readTexture s m args below meth c H locs 0 0 (sv_Z below s args G B none hE) (F0 m 16 ls [])) {x0 : Nat} {x1 : Int32} {x2 : Int32} {x3 : Int32} {h : sv_H} (hw : fn_X14_readTexture_16b k16 x0 x1 x2 x3 h = some (r, hE)) {H : Heap} {locs : List Loc} {ls : Array Slot} (hR : sv_R G vwCl sv_ft B h H) (hS : va_S (fun q => B ≤ q) s.heap H locs) (hl : lv_has ls 5 [(0, .ref x0), (1, .int x1), (2, .int x2), (3, .int x3)]) : W p l e rm_X14_readTexture s m args below meth c H locs 0 0 (sv_Z below s args G B none hE) (F0 m 16 ls []) := by
  obtain ⟨hx, hb, hml, hown, hts, hC, hlk, hr, hBs, hni⟩ := id K
  unfold fn_X14_readTexture_16b at hw
  refine lv_iload_n hx hb dX14_readTexture_16 rfl (lv_at hl 3 rfl) ?_
  refine lv_iconst (v := 1) hx hb dX14_readTexture_17 (by decide) ?_
  refine lv_iload_n hx hb dX14_readTexture_18 rfl (lv_at hl 1 rfl) ?_
  refine lv_iload_n hx hb dX14_readTexture_19 rfl (lv_at hl 2 rfl) ?_
  refine lv_iadd hx hb dX14_readTexture_20 ?_
  refine lv_ishl hx hb dX14_readTexture_21 ?_
  refine lv_icmp_ge (tgt := 47) hx hb dX14_readTexture_22 (by decide) (fun cc => ?_) (fun cc => ?_)
  · have hw := sv_ift cc hw
    exact lk_X14_readTexture_47 K hw hR hS (lv_sub hl [] rfl)
  · have hw := sv_iff cc hw
    refine lv_aload_n hx hb dX14_readTexture_25 rfl (lv_at hl 0 rfl) ?_
    obtain ⟨v1, hv, hw⟩ := sv_bd hw
    refine sv_rgI hx hb hown hC.1 hR (fl_X14_readTexture_25 hts hC hni) rfl (by decide) rfl rfl hv dX14_readTexture_26 ?_
    refine lv_if_ne (tgt := 47) hx hb dX14_readTexture_29 (by decide) (fun cc => ?_) (fun cc => ?_)
    · have hw := sv_iff cc hw
      exact lk_X14_readTexture_47 K hw hR hS (lv_sub hl [] rfl)
    · have hw := sv_ift cc hw
      refine lv_aload_n hx hb dX14_readTexture_32 rfl (lv_at hl 0 rfl) ?_
      refine lv_iconst (v := 0) hx hb dX14_readTexture_33 (by decide) ?_
      refine lv_bipush (v := 15) hx hb dX14_readTexture_34 (by decide) ?_
      obtain ⟨r2, h3, hv1, hw⟩ := sv_b_some hw
      refine sv_call (va_runV (As := [.int 0, .int 15]) (rest := []) ⟨hx, hb, hml, hown, hts⟩ (mt_X14_next l G B hv1) (cwV 2 hts (sv_gV wd_1803 wd_1805 wd_55 wd_145 wd_1806) rfl rfl rfl (by decide +kernel) ⟨Nat.le_of_ble_eq_true rfl, Nat.le_of_ble_eq_true rfl⟩) ⟨sv_blind, sv_recv hC.1 hR (ci := 14) (sv_go hv1).1 (by decide) rfl, fun U hU hW => sv_pre hC hR hS hBs hU hW⟩ rfl rfl hl.1 rfl (lv_room (Nat.le_of_ble_eq_true rfl)) dX14_readTexture_36 ⟨Nat.zero_le _, Nat.zero_le _⟩) hS (fun H locs hR hS => ?_)
      refine lv_istore (lv' := [(4, .int r2), (0, .ref x0), (1, .int x1), (2, .int x2), (3, .int x3)]) hx hb dX14_readTexture_39 hl (by decide) rfl (fun ls hl => ?_)
      refine lv_iinc (v := x3 + 1) (lv' := [(3, .int (x3 + 1)), (4, .int r2), (0, .ref x0), (1, .int x1), (2, .int x2)]) hx hb dX14_readTexture_41 hl (k := 4) rfl rfl (by decide) rfl (fun ls hl => ?_)
      refine lv_goto (tgt := 16) hx hb dX14_readTexture_44 (by decide) ?_
      exact hk16 hw hR hS (lv_sub hl [2, 3, 4, 0] rfl)
theorem lk_X14_readTexture_16 {p : Program} {l : Launch} {e : Env} {s : State} {m : MethodId} {args : Array Value} {below : List Frame} {meth : Method} {c : Code} {G : sv_G} {B : Nat} (K : sv_W p s m args meth c cX14_readTexture RX14 5 none G B "readTexture") {r : Unit} {hE : sv_H} : ∀ (n : Nat) {x0 : Nat} {x1 : Int32} {x2 : Int32} {x3 : Int32} {h : sv_H}, fn_X14_readTexture_16 n x0 x1 x2 x3 h = some (r, hE) → ∀ {H : Heap} {locs : List Loc} {ls : Array Slot}, sv_R G vwCl sv_ft B h H → va_S (fun q => B ≤ q) s.heap H locs → lv_has ls 5 [(0, .ref x0), (1, .int x1), (2, .int x2), (3, .int x3)] → W p l e rm_X14_readTexture s m args below meth c H locs 0 0 (sv_Z below s args G B none hE) (F0 m 16 ls []) := by
  intro n
  induction n with
  | zero => intro x0 x1 x2 x3 h hw; cases (show (none : Option (Unit × sv_H)) = some (r, hE) from hw)
  | succ n ih => intro x0 x1 x2 x3 h hw H locs ls hR hS hl; exact lk_X14_readTexture_16b K (fun hw => ih hw) hw hR hS hl
set_option maxHeartbeats 4000000 in
set_option maxRecDepth 100000 in
theorem lk_X14_readTexture_0 {p : Program} {l : Launch} {e : Env} {s : State} {m : MethodId} {args : Array Value} {below : List Frame} {meth : Method} {c : Code} {G : sv_G} {B : Nat} (K : sv_W p s m args meth c cX14_readTexture RX14 5 none G B "readTexture") {r : Unit} {hE : sv_H} {x0 : Nat} {h : sv_H} (hw : fn_X14_readTexture x0 h = some (r, hE)) {H : Heap} {locs : List Loc} {ls : Array Slot} (hR : sv_R G vwCl sv_ft B h H) (hS : va_S (fun q => B ≤ q) s.heap H locs) (hl : lv_has ls 5 [(0, .ref x0)]) : W p l e rm_X14_readTexture s m args below meth c H locs 0 0 (sv_Z below s args G B none hE) (F0 m 0 ls []) := by
  obtain ⟨hx, hb, hml, hown, hts, hC, hlk, hr, hBs, hni⟩ := id K
  unfold fn_X14_readTexture at hw
  have hw := (sv_go hw).2
  refine lv_aload_n hx hb dX14_readTexture_0 rfl (lv_at hl 0 rfl) ?_
  refine lv_iconst (v := 0) hx hb dX14_readTexture_1 (by decide) ?_
  refine lv_iconst (v := 4) hx hb dX14_readTexture_2 (by decide) ?_
  obtain ⟨r1, h2, hv1, hw⟩ := sv_b_some hw
  refine sv_call (va_runV (As := [.int 0, .int 4]) (rest := []) ⟨hx, hb, hml, hown, hts⟩ (mt_X14_next l G B hv1) (cwV 2 hts (sv_gV wd_1803 wd_1805 wd_55 wd_145 wd_1806) rfl rfl rfl (by decide +kernel) ⟨Nat.le_of_ble_eq_true rfl, Nat.le_of_ble_eq_true rfl⟩) ⟨sv_blind, sv_recv hC.1 hR (ci := 14) (sv_go hv1).1 (by decide) rfl, fun U hU hW => sv_pre hC hR hS hBs hU hW⟩ rfl rfl hl.1 rfl (lv_room (Nat.le_of_ble_eq_true rfl)) dX14_readTexture_3 ⟨Nat.zero_le _, Nat.zero_le _⟩) hS (fun H locs hR hS => ?_)
  refine lv_istore_n (lv' := [(1, .int r1), (0, .ref x0)]) hx hb dX14_readTexture_6 rfl hl (by decide) rfl (fun ls hl => ?_)
  refine lv_aload_n hx hb dX14_readTexture_7 rfl (lv_at hl 1 rfl) ?_
  refine lv_iconst (v := 0) hx hb dX14_readTexture_8 (by decide) ?_
  refine lv_iconst (v := 4) hx hb dX14_readTexture_9 (by decide) ?_
  obtain ⟨r3, h4, hv2, hw⟩ := sv_b_some hw
  refine sv_call (va_runV (As := [.int 0, .int 4]) (rest := []) ⟨hx, hb, hml, hown, hts⟩ (mt_X14_next l G B hv2) (cwV 2 hts (sv_gV wd_1803 wd_1805 wd_55 wd_145 wd_1806) rfl rfl rfl (by decide +kernel) ⟨Nat.le_of_ble_eq_true rfl, Nat.le_of_ble_eq_true rfl⟩) ⟨sv_blind, sv_recv hC.1 hR (ci := 14) (sv_go hv2).1 (by decide) rfl, fun U hU hW => sv_pre hC hR hS hBs hU hW⟩ rfl rfl hl.1 rfl (lv_room (Nat.le_of_ble_eq_true rfl)) dX14_readTexture_10 ⟨Nat.zero_le _, Nat.zero_le _⟩) hS (fun H locs hR hS => ?_)
  refine lv_istore_n (lv' := [(2, .int r3), (1, .int r1), (0, .ref x0)]) hx hb dX14_readTexture_13 rfl hl (by decide) rfl (fun ls hl => ?_)
  refine lv_iconst (v := 0) hx hb dX14_readTexture_14 (by decide) ?_
  refine lv_istore_n (lv' := [(3, .int 0), (2, .int r3), (1, .int r1), (0, .ref x0)]) hx hb dX14_readTexture_15 rfl hl (by decide) rfl (fun ls hl => ?_)
  exact lk_X14_readTexture_16 K sv_fuel hw hR hS (lv_sub hl [3, 2, 1, 0] rfl)
set_option maxHeartbeats 4000000 in
set_option maxRecDepth 100000 in
theorem mt_X14_readTexture (l : Launch) (G : sv_G) (B : Nat) {x0 : Nat} {h : sv_H} {r : Unit} {hE : sv_H} (hw : fn_X14_readTexture x0 h = some (r, hE)) : Met l yX14_readTexture (.code yX14_readTexture cX14_readTexture 5 none :: sv_tb) rm_X14_readTexture (sv_Pc G B [.ref x0] h) (sv_Q G B none hE) 0 0 (fun q => B ≤ q) := by
  refine Met.ofW (cc := cX14_readTexture) (maxL := 5) (ret := none) (by decide +kernel) rfl ?_
  intro p e s m args below meth c s₁ Bd hml hv
  obtain ⟨rfl, hR, hC, hB⟩ := hv
  have hl := lv_entry ([.ref x0]) (n := 5) (Nat.le_of_ble_eq_true rfl)
  rw [lg_entry_eq]
  generalize (lg_sl ([.ref x0]) ++ List.replicate (5 - (lg_sl ([.ref x0])).length) Slot.unset).toArray = ls at hl ⊢
  have hl : lv_has ls 5 [(0, .ref x0)] := hl
  exact lk_X14_readTexture_0 ⟨Bd.exec, Bd.bytes, hml, findClass_of_methodNamed Bd.named, fun w h => atoms_spec (ws := .code yX14_readTexture cX14_readTexture 5 none :: sv_tb) Bd.pre w (List.mem_cons_of_mem _ h), hC, Bd.notSynchronized, Bd.returns, hB, (name_of_methodNamed Bd.named Bd.method).1⟩ hw hR va_S.rf hl

def rm_X14_nextOr : Room := { frames := 2, cells := 0, slots := 0, locals := 45 }
theorem fl_X14_nextOr_25 {s : State} {meth : Method} {args : Array Value} {G : sv_G} {B : Nat} (hts : ∀ w ∈ sv_tb, w.before args s = true) (hC : sv_Cx G B s s.heap) (hni : meth.name = "nextOr") : sv_FL s meth args vwCl RX14 25 14 4 .int true :=
  ⟨_, RX14, TX14, 10, sv_tb, tyX14, rfl, by decide, hts, uw_X14, Or.inl (hts _ wd_1416), fun _ h => h, tyX14_ok 4 (by decide), tyX14_ok, nmX14, fun _ => Or.inl rfl⟩
theorem fl_X14_nextOr_34 {s : State} {meth : Method} {args : Array Value} {G : sv_G} {B : Nat} (hts : ∀ w ∈ sv_tb, w.before args s = true) (hC : sv_Cx G B s s.heap) (hni : meth.name = "nextOr") : sv_FL s meth args vwCl RX14 34 14 7 .int true :=
  ⟨_, RX14, TX14, 10, sv_tb, tyX14, rfl, by decide, hts, uw_X14, Or.inl (hts _ wd_1420), fun _ h => h, tyX14_ok 7 (by decide), tyX14_ok, nmX14, fun _ => Or.inl rfl⟩
set_option maxHeartbeats 4000000 in
set_option maxRecDepth 100000 in
theorem lk_X14_nextOr_39 {p : Program} {l : Launch} {e : Env} {s : State} {m : MethodId} {args : Array Value} {below : List Frame} {meth : Method} {c : Code} {G : sv_G} {B : Nat} (K : sv_W p s m args meth c cX14_nextOr RX14 3 (some .int) G B "nextOr") {r : Int32} {hE : sv_H} {x2 : Int32} {h : sv_H} (hw : fn_X14_nextOr_39 x2 h = some (r, hE)) {H : Heap} {locs : List Loc} {ls : Array Slot} (hR : sv_R G vwCl sv_ft B h H) (hS : va_S (fun q => B ≤ q) s.heap H locs) (hl : lv_has ls 3 [(2, .int x2)]) : W p l e rm_X14_nextOr s m args below meth c H locs 0 0 (sv_Z below s args G B (some (.int r)) hE) (F0 m 39 ls []) := by
  obtain ⟨hx, hb, hml, hown, hts, hC, hlk, hr, hBs, hni⟩ := id K
  unfold fn_X14_nextOr_39 at hw
  refine lv_iload_n hx hb dX14_nextOr_39 rfl (lv_at hl 0 rfl) ?_
  obtain ⟨rfl, rfl⟩ := sv_ret hw
  exact W.iret hx hb hr (fun t ht hW => ⟨⟨rfl, by rw [ht]; exact hR⟩, hS.F ht⟩) hS.2.2 dX14_nextOr_40
set_option maxHeartbeats 4000000 in
set_option maxRecDepth 100000 in
theorem lk_X14_nextOr_0 {p : Program} {l : Launch} {e : Env} {s : State} {m : MethodId} {args : Array Value} {below : List Frame} {meth : Method} {c : Code} {G : sv_G} {B : Nat} (K : sv_W p s m args meth c cX14_nextOr RX14 3 (some .int) G B "nextOr") {r : Int32} {hE : sv_H} {x0 : Nat} {x1 : Int32} {h : sv_H} (hw : fn_X14_nextOr x0 x1 h = some (r, hE)) {H : Heap} {locs : List Loc} {ls : Array Slot} (hR : sv_R G vwCl sv_ft B h H) (hS : va_S (fun q => B ≤ q) s.heap H locs) (hl : lv_has ls 3 [(0, .ref x0), (1, .int x1)]) : W p l e rm_X14_nextOr s m args below meth c H locs 0 0 (sv_Z below s args G B (some (.int r)) hE) (F0 m 0 ls []) := by
  obtain ⟨hx, hb, hml, hown, hts, hC, hlk, hr, hBs, hni⟩ := id K
  unfold fn_X14_nextOr at hw
  have hw := (sv_go hw).2
  refine lv_aload_n hx hb dX14_nextOr_0 rfl (lv_at hl 0 rfl) ?_
  refine lv_iconst (v := 0) hx hb dX14_nextOr_1 (by decide) ?_
  refine lv_sipush (v := 255) hx hb dX14_nextOr_2 (by decide) ?_
  obtain ⟨r1, h2, hv1, hw⟩ := sv_b_some hw
  refine sv_call (va_runV (As := [.int 0, .int 255]) (rest := []) ⟨hx, hb, hml, hown, hts⟩ (mt_X14_next l G B hv1) (cwV 2 hts (sv_gV wd_1803 wd_1805 wd_55 wd_145 wd_1806) rfl rfl rfl (by decide +kernel) ⟨Nat.le_of_ble_eq_true rfl, Nat.le_of_ble_eq_true rfl⟩) ⟨sv_blind, sv_recv hC.1 hR (ci := 14) (sv_go hv1).1 (by decide) rfl, fun U hU hW => sv_pre hC hR hS hBs hU hW⟩ rfl rfl hl.1 rfl (lv_room (Nat.le_of_ble_eq_true rfl)) dX14_nextOr_5 ⟨Nat.zero_le _, Nat.zero_le _⟩) hS (fun H locs hR hS => ?_)
  refine lv_istore_n (lv' := [(2, .int r1), (0, .ref x0), (1, .int x1)]) hx hb dX14_nextOr_8 rfl hl (by decide) rfl (fun ls hl => ?_)
  refine lv_aload_n hx hb dX14_nextOr_9 rfl (lv_at hl 1 rfl) ?_
  obtain ⟨v3, hv, hw⟩ := sv_bd hw
  refine sv_rgI hx hb hown hC.1 hR (fl_X14_nextOr_25 hts hC hni) rfl (by decide) rfl rfl hv dX14_nextOr_10 ?_
  refine lv_if_ne (tgt := 39) hx hb dX14_nextOr_13 (by decide) (fun cc => ?_) (fun cc => ?_)
  · have hw := sv_iff cc hw
    exact lk_X14_nextOr_39 K hw hR hS (lv_sub hl [0] rfl)
  · have hw := sv_ift cc hw
    refine lv_iload_n hx hb dX14_nextOr_16 rfl (lv_at hl 0 rfl) ?_
    refine lv_iload_n hx hb dX14_nextOr_17 rfl (lv_at hl 2 rfl) ?_
    refine lv_icmp_lt (tgt := 39) hx hb dX14_nextOr_18 (by decide) (fun cc => ?_) (fun cc => ?_)
    · have hw := sv_ift cc hw
      exact lk_X14_nextOr_39 K hw hR hS (lv_sub hl [0] rfl)
    · have hw := sv_iff cc hw
      refine lv_iload_n hx hb dX14_nextOr_21 rfl (lv_at hl 0 rfl) ?_
      refine lv_sipush (v := 255) hx hb dX14_nextOr_22 (by decide) ?_
      refine lv_icmp_eq (tgt := 39) hx hb dX14_nextOr_25 (by decide) (fun cc => ?_) (fun cc => ?_)
      · have hw := sv_ift cc hw
        exact lk_X14_nextOr_39 K hw hR hS (lv_sub hl [0] rfl)
      · have hw := sv_iff cc hw
        refine lv_aload_n hx hb dX14_nextOr_28 rfl (lv_at hl 1 rfl) ?_
        refine lv_iconst (v := 3) hx hb dX14_nextOr_29 (by decide) ?_
        refine lv_aload_n hx hb dX14_nextOr_30 rfl (lv_at hl 1 rfl) ?_
        obtain ⟨v4, hv, hw⟩ := sv_bd hw
        refine sv_rgI hx hb hown hC.1 hR (fl_X14_nextOr_34 hts hC hni) rfl (by decide) rfl rfl hv dX14_nextOr_31 ?_
        refine lv_iconst (v := 1) hx hb dX14_nextOr_34 (by decide) ?_
        refine lv_isub hx hb dX14_nextOr_35 ?_
        obtain ⟨_, h5, hv2, hw⟩ := sv_b_some hw
        refine sv_call (va_runV (As := [.int 3, .int (v4 - 1)]) (rest := []) ⟨hx, hb, hml, hown, hts⟩ (mt_X14_wrong l G B hv2) (cwV 2 hts (sv_gV wd_1807 wd_1809 wd_56 wd_145 wd_1810) rfl rfl rfl (by decide +kernel) ⟨Nat.le_of_ble_eq_true rfl, Nat.le_of_ble_eq_true rfl⟩) ⟨sv_blind, sv_recv hC.1 hR (ci := 14) (sv_go hv2).1 (by decide) rfl, fun U hU hW => sv_pre hC hR hS hBs hU hW⟩ rfl rfl hl.1 rfl (lv_room (Nat.le_of_ble_eq_true rfl)) dX14_nextOr_36 ⟨Nat.zero_le _, Nat.zero_le _⟩) hS (fun H locs hR hS => ?_)
        exact lk_X14_nextOr_39 K hw hR hS (lv_sub hl [0] rfl)
set_option maxHeartbeats 4000000 in
set_option maxRecDepth 100000 in
theorem mt_X14_nextOr (l : Launch) (G : sv_G) (B : Nat) {x0 : Nat} {x1 : Int32} {h : sv_H} {r : Int32} {hE : sv_H} (hw : fn_X14_nextOr x0 x1 h = some (r, hE)) : Met l yX14_nextOr (.code yX14_nextOr cX14_nextOr 3 (some .int) :: sv_tb) rm_X14_nextOr (sv_Pc G B [.ref x0, .int x1] h) (sv_Q G B (some (.int r)) hE) 0 0 (fun q => B ≤ q) := by
  refine Met.ofW (cc := cX14_nextOr) (maxL := 3) (ret := (some .int)) (by decide +kernel) rfl ?_
  intro p e s m args below meth c s₁ Bd hml hv
  obtain ⟨rfl, hR, hC, hB⟩ := hv
  have hl := lv_entry ([.ref x0, .int x1]) (n := 3) (Nat.le_of_ble_eq_true rfl)
  rw [lg_entry_eq]
  generalize (lg_sl ([.ref x0, .int x1]) ++ List.replicate (3 - (lg_sl ([.ref x0, .int x1])).length) Slot.unset).toArray = ls at hl ⊢
  have hl : lv_has ls 3 [(0, .ref x0), (1, .int x1)] := hl
  exact lk_X14_nextOr_0 ⟨Bd.exec, Bd.bytes, hml, findClass_of_methodNamed Bd.named, fun w h => atoms_spec (ws := .code yX14_nextOr cX14_nextOr 3 (some .int) :: sv_tb) Bd.pre w (List.mem_cons_of_mem _ h), hC, Bd.notSynchronized, Bd.returns, hB, (name_of_methodNamed Bd.named Bd.method).1⟩ hw hR va_S.rf hl

def rm_X14_readSector : Room := { frames := 3, cells := 0, slots := 0, locals := 69 }
theorem fl_X14_readSector_34 {s : State} {meth : Method} {args : Array Value} {G : sv_G} {B : Nat} (hts : ∀ w ∈ sv_tb, w.before args s = true) (hC : sv_Cx G B s s.heap) (hni : meth.name = "readSector") : sv_FL s meth args vwCl RX14 34 14 7 .int true :=
  ⟨_, RX14, TX14, 10, sv_tb, tyX14, rfl, by decide, hts, uw_X14, Or.inl (hts _ wd_1420), fun _ h => h, tyX14_ok 7 (by decide), tyX14_ok, nmX14, fun _ => Or.inl rfl⟩
theorem fl_X14_readSector_25 {s : State} {meth : Method} {args : Array Value} {G : sv_G} {B : Nat} (hts : ∀ w ∈ sv_tb, w.before args s = true) (hC : sv_Cx G B s s.heap) (hni : meth.name = "readSector") : sv_FL s meth args vwCl RX14 25 14 4 .int true :=
  ⟨_, RX14, TX14, 10, sv_tb, tyX14, rfl, by decide, hts, uw_X14, Or.inl (hts _ wd_1416), fun _ h => h, tyX14_ok 4 (by decide), tyX14_ok, nmX14, fun _ => Or.inl rfl⟩
set_option maxHeartbeats 4000000 in
set_option maxRecDepth 100000 in
theorem lk_X14_readSector_47 {p : Program} {l : Launch} {e : Env} {s : State} {m : MethodId} {args : Array Value} {below : List Frame} {meth : Method} {c : Code} {G : sv_G} {B : Nat} (K : sv_W p s m args meth c cX14_readSector RX14 10 none G B "readSector") {r : Unit} {hE : sv_H} {x0 : Nat} {x1 : Int32} {h : sv_H} (hw : fn_X14_readSector_47 x0 x1 h = some (r, hE)) {H : Heap} {locs : List Loc} {ls : Array Slot} (hR : sv_R G vwCl sv_ft B h H) (hS : va_S (fun q => B ≤ q) s.heap H locs) (hl : lv_has ls 10 [(0, .ref x0), (1, .int x1)]) : W p l e rm_X14_readSector s m args below meth c H locs 0 0 (sv_Z below s args G B none hE) (F0 m 47 ls []) := by
  obtain ⟨hx, hb, hml, hown, hts, hC, hlk, hr, hBs, hni⟩ := id K
  unfold fn_X14_readSector_47 at hw
  refine lv_aload_n hx hb dX14_readSector_47 rfl (lv_at hl 0 rfl) ?_
  refine lv_iconst (v := 0) hx hb dX14_readSector_48 (by decide) ?_
  refine lv_iload_n hx hb dX14_readSector_49 rfl (lv_at hl 1 rfl) ?_
  refine lv_iconst (v := 1) hx hb dX14_readSector_50 (by decide) ?_
  refine lv_isub hx hb dX14_readSector_51 ?_
  obtain ⟨r1, h2, hv1, hw⟩ := sv_b_some hw
  refine sv_call (va_runV (As := [.int 0, .int (x1 - 1)]) (rest := []) ⟨hx, hb, hml, hown, hts⟩ (mt_X14_next l G B hv1) (cwV 2 hts (sv_gV wd_1803 wd_1805 wd_55 wd_145 wd_1806) rfl rfl rfl (by decide +kernel) ⟨Nat.le_of_ble_eq_true rfl, Nat.le_of_ble_eq_true rfl⟩) ⟨sv_blind, sv_recv hC.1 hR (ci := 14) (sv_go hv1).1 (by decide) rfl, fun U hU hW => sv_pre hC hR hS hBs hU hW⟩ rfl rfl hl.1 rfl (lv_room (Nat.le_of_ble_eq_true rfl)) dX14_readSector_52 ⟨Nat.zero_le _, Nat.zero_le _⟩) hS (fun H locs hR hS => ?_)
  refine lv_istore (lv' := [(5, .int r1), (0, .ref x0), (1, .int x1)]) hx hb dX14_readSector_55 hl (by decide) rfl (fun ls hl => ?_)
  refine lv_aload_n hx hb dX14_readSector_57 rfl (lv_at hl 1 rfl) ?_
  refine lv_iload_n hx hb dX14_readSector_58 rfl (lv_at hl 2 rfl) ?_
  obtain ⟨r3, h4, hv2, hw⟩ := sv_b_some hw
  refine sv_call (va_runV (As := [.int x1]) (rest := []) ⟨hx, hb, hml, hown, hts⟩ (mt_X14_nextOr l G B hv2) (cwV 1 hts (sv_gV wd_1835 wd_1837 wd_62 wd_145 wd_1838) rfl rfl rfl (by decide +kernel) ⟨Nat.le_of_ble_eq_true rfl, Nat.le_of_ble_eq_true rfl⟩) ⟨sv_blind, sv_recv hC.1 hR (ci := 14) (sv_go hv2).1 (by decide) rfl, fun U hU hW => sv_pre hC hR hS hBs hU hW⟩ rfl rfl hl.1 rfl (lv_room (Nat.le_of_ble_eq_true rfl)) dX14_readSector_59 ⟨Nat.zero_le _, Nat.zero_le _⟩) hS (fun H locs hR hS => ?_)
  refine lv_istore (lv' := [(6, .int r3), (5, .int r1), (0, .ref x0), (1, .int x1)]) hx hb dX14_readSector_62 hl (by decide) rfl (fun ls hl => ?_)
  refine lv_aload_n hx hb dX14_readSector_64 rfl (lv_at hl 2 rfl) ?_
  refine lv_iconst (v := 0) hx hb dX14_readSector_65 (by decide) ?_
  refine lv_bipush (v := 15) hx hb dX14_readSector_66 (by decide) ?_
  obtain ⟨r5, h6, hv3, hw⟩ := sv_b_some hw
  refine sv_call (va_runV (As := [.int 0, .int 15]) (rest := []) ⟨hx, hb, hml, hown, hts⟩ (mt_X14_next l G B hv3) (cwV 2 hts (sv_gV wd_1803 wd_1805 wd_55 wd_145 wd_1806) rfl rfl rfl (by decide +kernel) ⟨Nat.le_of_ble_eq_true rfl, Nat.le_of_ble_eq_true rfl⟩) ⟨sv_blind, sv_recv hC.1 hR (ci := 14) (sv_go hv3).1 (by decide) rfl, fun U hU hW => sv_pre hC hR hS hBs hU hW⟩ rfl rfl hl.1 rfl (lv_room (Nat.le_of_ble_eq_true rfl)) dX14_readSector_68 ⟨Nat.zero_le _, Nat.zero_le _⟩) hS (fun H locs hR hS => ?_)
  refine lv_istore (lv' := [(7, .int r5), (6, .int r3), (5, .int r1), (0, .ref x0), (1, .int x1)]) hx hb dX14_readSector_71 hl (by decide) rfl (fun ls hl => ?_)
  refine lv_aload_n hx hb dX14_readSector_73 rfl (lv_at hl 3 rfl) ?_
  refine lv_iconst (v := 0) hx hb dX14_readSector_74 (by decide) ?_
  refine lv_iconst (v := 3) hx hb dX14_readSector_75 (by decide) ?_
  obtain ⟨r7, h8, hv4, hw⟩ := sv_b_some hw
  refine sv_call (va_runV (As := [.int 0, .int 3]) (rest := []) ⟨hx, hb, hml, hown, hts⟩ (mt_X14_next l G B hv4) (cwV 2 hts (sv_gV wd_1803 wd_1805 wd_55 wd_145 wd_1806) rfl rfl rfl (by decide +kernel) ⟨Nat.le_of_ble_eq_true rfl, Nat.le_of_ble_eq_true rfl⟩) ⟨sv_blind, sv_recv hC.1 hR (ci := 14) (sv_go hv4).1 (by decide) rfl, fun U hU hW => sv_pre hC hR hS hBs hU hW⟩ rfl rfl hl.1 rfl (lv_room (Nat.le_of_ble_eq_true rfl)) dX14_readSector_76 ⟨Nat.zero_le _, Nat.zero_le _⟩) hS (fun H locs hR hS => ?_)
  refine lv_istore (lv' := [(8, .int r7), (7, .int r5), (6, .int r3), (5, .int r1), (0, .ref x0), (1, .int x1)]) hx hb dX14_readSector_79 hl (by decide) rfl (fun ls hl => ?_)
  refine lv_aload_n hx hb dX14_readSector_81 rfl (lv_at hl 4 rfl) ?_
  refine lv_iconst (v := 0) hx hb dX14_readSector_82 (by decide) ?_
  refine lv_sipush (v := 255) hx hb dX14_readSector_83 (by decide) ?_
  obtain ⟨r9, h10, hv5, hw⟩ := sv_b_some hw
  refine sv_call (va_runV (As := [.int 0, .int 255]) (rest := []) ⟨hx, hb, hml, hown, hts⟩ (mt_X14_next l G B hv5) (cwV 2 hts (sv_gV wd_1803 wd_1805 wd_55 wd_145 wd_1806) rfl rfl rfl (by decide +kernel) ⟨Nat.le_of_ble_eq_true rfl, Nat.le_of_ble_eq_true rfl⟩) ⟨sv_blind, sv_recv hC.1 hR (ci := 14) (sv_go hv5).1 (by decide) rfl, fun U hU hW => sv_pre hC hR hS hBs hU hW⟩ rfl rfl hl.1 rfl (lv_room (Nat.le_of_ble_eq_true rfl)) dX14_readSector_86 ⟨Nat.zero_le _, Nat.zero_le _⟩) hS (fun H locs hR hS => ?_)
  refine lv_istore (lv' := [(9, .int r9), (8, .int r7), (7, .int r5), (6, .int r3), (5, .int r1), (0, .ref x0), (1, .int x1)]) hx hb dX14_readSector_89 hl (by decide) rfl (fun ls hl => ?_)
  obtain ⟨rfl, rfl⟩ := sv_ret hw
  exact W.vret hx hb hr (fun t ht hW => ⟨⟨rfl, by rw [ht]; exact hR⟩, hS.F ht⟩) hS.2.2 dX14_readSector_91
set_option maxHeartbeats 4000000 in
set_option maxRecDepth 100000 in
theorem lk_X14_readSector_0 {p : Program} {l : Launch} {e : Env} {s : State} {m : MethodId} {args : Array Value} {below : List Frame} {meth : Method} {c : Code} {G : sv_G} {B : Nat} (K : sv_W p s m args meth c cX14_readSector RX14 10 none G B "readSector") {r : Unit} {hE : sv_H} {x0 : Nat} {x1 : Int32} {h : sv_H} (hw : fn_X14_readSector x0 x1 h = some (r, hE)) {H : Heap} {locs : List Loc} {ls : Array Slot} (hR : sv_R G vwCl sv_ft B h H) (hS : va_S (fun q => B ≤ q) s.heap H locs) (hl : lv_has ls 10 [(0, .ref x0), (1, .int x1)]) : W p l e rm_X14_readSector s m args below meth c H locs 0 0 (sv_Z below s args G B none hE) (F0 m 0 ls []) := by
  obtain ⟨hx, hb, hml, hown, hts, hC, hlk, hr, hBs, hni⟩ := id K
  unfold fn_X14_readSector at hw
  have hw := (sv_go hw).2
  refine lv_aload_n hx hb dX14_readSector_0 rfl (lv_at hl 0 rfl) ?_
  refine lv_sipush (v := (-1024)) hx hb dX14_readSector_1 (by decide) ?_
  refine lv_sipush (v := 1024) hx hb dX14_readSector_4 (by decide) ?_
  obtain ⟨r1, h2, hv1, hw⟩ := sv_b_some hw
  refine sv_call (va_runV (As := [.int ((-1024)), .int 1024]) (rest := []) ⟨hx, hb, hml, hown, hts⟩ (mt_X14_nextTwo l G B hv1) (cwV 2 hts (sv_gV wd_1819 wd_1821 wd_59 wd_145 wd_1822) rfl rfl rfl (by decide +kernel) ⟨Nat.le_of_ble_eq_true rfl, Nat.le_of_ble_eq_true rfl⟩) ⟨sv_blind, sv_recv hC.1 hR (ci := 14) (sv_go hv1).1 (by decide) rfl, fun U hU hW => sv_pre hC hR hS hBs hU hW⟩ rfl rfl hl.1 rfl (lv_room (Nat.le_of_ble_eq_true rfl)) dX14_readSector_7 ⟨Nat.zero_le _, Nat.zero_le _⟩) hS (fun H locs hR hS => ?_)
  refine lv_istore_n (lv' := [(2, .int r1), (0, .ref x0), (1, .int x1)]) hx hb dX14_readSector_10 rfl hl (by decide) rfl (fun ls hl => ?_)
  refine lv_aload_n hx hb dX14_readSector_11 rfl (lv_at hl 1 rfl) ?_
  obtain ⟨v3, hv, hw⟩ := sv_bd hw
  refine sv_rgI hx hb hown hC.1 hR (fl_X14_readSector_34 hts hC hni) rfl (by decide) rfl rfl hv dX14_readSector_12 ?_
  refine lv_istore_n (lv' := [(3, .int v3), (2, .int r1), (0, .ref x0), (1, .int x1)]) hx hb dX14_readSector_15 rfl hl (by decide) rfl (fun ls hl => ?_)
  refine lv_aload_n hx hb dX14_readSector_16 rfl (lv_at hl 2 rfl) ?_
  refine lv_sipush (v := (-1024)) hx hb dX14_readSector_17 (by decide) ?_
  refine lv_sipush (v := 1024) hx hb dX14_readSector_20 (by decide) ?_
  obtain ⟨r4, h5, hv2, hw⟩ := sv_b_some hw
  refine sv_call (va_runV (As := [.int ((-1024)), .int 1024]) (rest := []) ⟨hx, hb, hml, hown, hts⟩ (mt_X14_nextTwo l G B hv2) (cwV 2 hts (sv_gV wd_1819 wd_1821 wd_59 wd_145 wd_1822) rfl rfl rfl (by decide +kernel) ⟨Nat.le_of_ble_eq_true rfl, Nat.le_of_ble_eq_true rfl⟩) ⟨sv_blind, sv_recv hC.1 hR (ci := 14) (sv_go hv2).1 (by decide) rfl, fun U hU hW => sv_pre hC hR hS hBs hU hW⟩ rfl rfl hl.1 rfl (lv_room (Nat.le_of_ble_eq_true rfl)) dX14_readSector_23 ⟨Nat.zero_le _, Nat.zero_le _⟩) hS (fun H locs hR hS => ?_)
  refine lv_istore (lv' := [(4, .int r4), (3, .int v3), (2, .int r1), (0, .ref x0), (1, .int x1)]) hx hb dX14_readSector_26 hl (by decide) rfl (fun ls hl => ?_)
  refine lv_aload_n hx hb dX14_readSector_28 rfl (lv_at hl 3 rfl) ?_
  obtain ⟨v6, hv, hw⟩ := sv_bd hw
  refine sv_rgI hx hb hown hC.1 hR (fl_X14_readSector_25 hts hC hni) rfl (by decide) rfl rfl hv dX14_readSector_29 ?_
  refine lv_if_ne (tgt := 47) hx hb dX14_readSector_32 (by decide) (fun cc => ?_) (fun cc => ?_)
  · have hw := sv_iff cc hw
    exact lk_X14_readSector_47 K hw hR hS (lv_sub hl [3, 4] rfl)
  · have hw := sv_ift cc hw
    refine lv_iload hx hb dX14_readSector_35 (lv_at hl 0 rfl) ?_
    refine lv_iload_n hx hb dX14_readSector_37 rfl (lv_at hl 2 rfl) ?_
    refine lv_icmp_gt (tgt := 47) hx hb dX14_readSector_38 (by decide) (fun cc => ?_) (fun cc => ?_)
    · have hw := sv_ift cc hw
      exact lk_X14_readSector_47 K hw hR hS (lv_sub hl [3, 4] rfl)
    · have hw := sv_iff cc hw
      refine lv_aload_n hx hb dX14_readSector_41 rfl (lv_at hl 3 rfl) ?_
      refine lv_iconst (v := 3) hx hb dX14_readSector_42 (by decide) ?_
      refine lv_iload_n hx hb dX14_readSector_43 rfl (lv_at hl 1 rfl) ?_
      obtain ⟨_, h7, hv3, hw⟩ := sv_b_some hw
      refine sv_call (va_runV (As := [.int 3, .int v3]) (rest := []) ⟨hx, hb, hml, hown, hts⟩ (mt_X14_wrong l G B hv3) (cwV 2 hts (sv_gV wd_1807 wd_1809 wd_56 wd_145 wd_1810) rfl rfl rfl (by decide +kernel) ⟨Nat.le_of_ble_eq_true rfl, Nat.le_of_ble_eq_true rfl⟩) ⟨sv_blind, sv_recv hC.1 hR (ci := 14) (sv_go hv3).1 (by decide) rfl, fun U hU hW => sv_pre hC hR hS hBs hU hW⟩ rfl rfl hl.1 rfl (lv_room (Nat.le_of_ble_eq_true rfl)) dX14_readSector_44 ⟨Nat.zero_le _, Nat.zero_le _⟩) hS (fun H locs hR hS => ?_)
      exact lk_X14_readSector_47 K hw hR hS (lv_sub hl [3, 4] rfl)
set_option maxHeartbeats 4000000 in
set_option maxRecDepth 100000 in
theorem mt_X14_readSector (l : Launch) (G : sv_G) (B : Nat) {x0 : Nat} {x1 : Int32} {h : sv_H} {r : Unit} {hE : sv_H} (hw : fn_X14_readSector x0 x1 h = some (r, hE)) : Met l yX14_readSector (.code yX14_readSector cX14_readSector 10 none :: sv_tb) rm_X14_readSector (sv_Pc G B [.ref x0, .int x1] h) (sv_Q G B none hE) 0 0 (fun q => B ≤ q) := by
  refine Met.ofW (cc := cX14_readSector) (maxL := 10) (ret := none) (by decide +kernel) rfl ?_
  intro p e s m args below meth c s₁ Bd hml hv
  obtain ⟨rfl, hR, hC, hB⟩ := hv
  have hl := lv_entry ([.ref x0, .int x1]) (n := 10) (Nat.le_of_ble_eq_true rfl)
  rw [lg_entry_eq]
  generalize (lg_sl ([.ref x0, .int x1]) ++ List.replicate (10 - (lg_sl ([.ref x0, .int x1])).length) Slot.unset).toArray = ls at hl ⊢
  have hl : lv_has ls 10 [(0, .ref x0), (1, .int x1)] := hl
  exact lk_X14_readSector_0 ⟨Bd.exec, Bd.bytes, hml, findClass_of_methodNamed Bd.named, fun w h => atoms_spec (ws := .code yX14_readSector cX14_readSector 10 none :: sv_tb) Bd.pre w (List.mem_cons_of_mem _ h), hC, Bd.notSynchronized, Bd.returns, hB, (name_of_methodNamed Bd.named Bd.method).1⟩ hw hR va_S.rf hl

def rm_X14_readWall : Room := { frames := 3, cells := 0, slots := 0, locals := 67 }
theorem fl_X14_readWall_25 {s : State} {meth : Method} {args : Array Value} {G : sv_G} {B : Nat} (hts : ∀ w ∈ sv_tb, w.before args s = true) (hC : sv_Cx G B s s.heap) (hni : meth.name = "readWall") : sv_FL s meth args vwCl RX14 25 14 4 .int true :=
  ⟨_, RX14, TX14, 10, sv_tb, tyX14, rfl, by decide, hts, uw_X14, Or.inl (hts _ wd_1416), fun _ h => h, tyX14_ok 4 (by decide), tyX14_ok, nmX14, fun _ => Or.inl rfl⟩
theorem fl_X14_readWall_34 {s : State} {meth : Method} {args : Array Value} {G : sv_G} {B : Nat} (hts : ∀ w ∈ sv_tb, w.before args s = true) (hC : sv_Cx G B s s.heap) (hni : meth.name = "readWall") : sv_FL s meth args vwCl RX14 34 14 7 .int true :=
  ⟨_, RX14, TX14, 10, sv_tb, tyX14, rfl, by decide, hts, uw_X14, Or.inl (hts _ wd_1420), fun _ h => h, tyX14_ok 7 (by decide), tyX14_ok, nmX14, fun _ => Or.inl rfl⟩
set_option maxHeartbeats 4000000 in
set_option maxRecDepth 100000 in
theorem lk_X14_readWall_119 {p : Program} {l : Launch} {e : Env} {s : State} {m : MethodId} {args : Array Value} {below : List Frame} {meth : Method} {c : Code} {G : sv_G} {B : Nat} (K : sv_W p s m args meth c cX14_readWall RX14 12 none G B "readWall") {r : Unit} {hE : sv_H} {k65 : Nat → Int32 → Int32 → Int32 → sv_H → Option (Unit × sv_H)} (hk65 : ∀ {x0 : Nat} {x2 : Int32} {x7 : Int32} {x8 : Int32} {h : sv_H}, k65 x0 x2 x7 x8 h = some (r, hE) → ∀ {H : Heap} {locs : List Loc} {ls : Array Slot}, sv_R G vwCl sv_ft B h H → va_S (fun q => B ≤ q) s.heap H locs → lv_has ls 12 [(0, .ref x0), (2, .int x2), (7, .int x7), (8, .int x8)] → W p l e rm_X14_readWall s m args below meth c H locs 0 0 (sv_Z below s args G B none hE) (F0 m 65 ls [])) {x0 : Nat} {x2 : Int32} {x7 : Int32} {x8 : Int32} {h : sv_H} (hw : fn_X14_readWall_119 k65 x0 x2 x7 x8 h = some (r, hE)) {H : Heap} {locs : List Loc} {ls : Array Slot} (hR : sv_R G vwCl sv_ft B h H) (hS : va_S (fun q => B ≤ q) s.heap H locs) (hl : lv_has ls 12 [(0, .ref x0), (2, .int x2), (7, .int x7), (8, .int x8)]) : W p l e rm_X14_readWall s m args below meth c H locs 0 0 (sv_Z below s args G B none hE) (F0 m 119 ls []) := by
  obtain ⟨hx, hb, hml, hown, hts, hC, hlk, hr, hBs, hni⟩ := id K
  unfold fn_X14_readWall_119 at hw
  refine lv_iinc (v := x8 + 1) (lv' := [(8, .int (x8 + 1)), (0, .ref x0), (2, .int x2), (7, .int x7)]) hx hb dX14_readWall_119 hl (k := 3) rfl rfl (by decide) rfl (fun ls hl => ?_)
  refine lv_goto (tgt := 65) hx hb dX14_readWall_122 (by decide) ?_
  exact hk65 hw hR hS (lv_sub hl [1, 2, 3, 0] rfl)
set_option maxHeartbeats 4000000 in
set_option maxRecDepth 100000 in
theorem lk_X14_readWall_65b {p : Program} {l : Launch} {e : Env} {s : State} {m : MethodId} {args : Array Value} {below : List Frame} {meth : Method} {c : Code} {G : sv_G} {B : Nat} (K : sv_W p s m args meth c cX14_readWall RX14 12 none G B "readWall") {r : Unit} {hE : sv_H} {k65 : Nat → Int32 → Int32 → Int32 → sv_H → Option (Unit × sv_H)} (hk65 : ∀ {x0 : Nat} {x2 : Int32} {x7 : Int32} {x8 : Int32} {h : sv_H}, k65 x0 x2 x7 x8 h = some (r, hE) → ∀ {H : Heap} {locs : List Loc} {ls : Array Slot}, sv_R G vwCl sv_ft B h H → va_S (fun q => B ≤ q) s.heap H locs → lv_has ls 12 [(0, .ref x0), (2, .int x2), (7, .int x7), (8, .int x8)] → W p l e rm_X14_readWall s m args below meth c H locs 0 0 (sv_Z below s args G B none hE) (F0 m 65 ls [])) {x0 : Nat} {x2 : Int32} {x7 : Int32} {x8 : Int32} {h : sv_H} (hw : fn_X14_readWall_65b k65 x0 x2 x7 x8 h = some (r, hE)) {H : Heap} {locs : List Loc} {ls : Array Slot} (hR : sv_R G vwCl sv_ft B h H) (hS : va_S (fun q => B ≤ q) s.heap H locs) (hl : lv_has ls 12 [(0, .ref x0), (2, .int x2), (7, .int x7), (8, .int x8)]) : W p l e rm_X14_readWall s m args below meth c H locs 0 0 (sv_Z below s args G B none hE) (F0 m 65 ls []) := by
  obtain ⟨hx, hb, hml, hown, hts, hC, hlk, hr, hBs, hni⟩ := id K
  unfold fn_X14_readWall_65b at hw
  refine lv_iload hx hb dX14_readWall_65 (lv_at hl 3 rfl) ?_
  refine lv_bipush (v := 6) hx hb dX14_readWall_67 (by decide) ?_
  refine lv_icmp_ge (tgt := 125) hx hb dX14_readWall_69 (by decide) (fun cc => ?_) (fun cc => ?_)
  · have hw := sv_ift cc hw
    refine lv_aload_n hx hb dX14_readWall_125 rfl (lv_at hl 0 rfl) ?_
    refine lv_iconst (v := 0) hx hb dX14_readWall_126 (by decide) ?_
    refine lv_sipush (v := 255) hx hb dX14_readWall_127 (by decide) ?_
    obtain ⟨r1, h2, hv1, hw⟩ := sv_b_some hw
    refine sv_call (va_runV (As := [.int 0, .int 255]) (rest := []) ⟨hx, hb, hml, hown, hts⟩ (mt_X14_next l G B hv1) (cwV 2 hts (sv_gV wd_1803 wd_1805 wd_55 wd_145 wd_1806) rfl rfl rfl (by decide +kernel) ⟨Nat.le_of_ble_eq_true rfl, Nat.le_of_ble_eq_true rfl⟩) ⟨sv_blind, sv_recv hC.1 hR (ci := 14) (sv_go hv1).1 (by decide) rfl, fun U hU hW => sv_pre hC hR hS hBs hU hW⟩ rfl rfl hl.1 rfl (lv_room (Nat.le_of_ble_eq_true rfl)) dX14_readWall_130 ⟨Nat.zero_le _, Nat.zero_le _⟩) hS (fun H locs hR hS => ?_)
    refine lv_istore (lv' := [(8, .int r1), (0, .ref x0), (2, .int x2), (7, .int x7)]) hx hb dX14_readWall_133 hl (by decide) rfl (fun ls hl => ?_)
    refine lv_aload_n hx hb dX14_readWall_135 rfl (lv_at hl 1 rfl) ?_
    refine lv_iconst (v := 0) hx hb dX14_readWall_136 (by decide) ?_
    refine lv_iconst (v := 3) hx hb dX14_readWall_137 (by decide) ?_
    obtain ⟨r3, h4, hv2, hw⟩ := sv_b_some hw
    refine sv_call (va_runV (As := [.int 0, .int 3]) (rest := []) ⟨hx, hb, hml, hown, hts⟩ (mt_X14_next l G B hv2) (cwV 2 hts (sv_gV wd_1803 wd_1805 wd_55 wd_145 wd_1806) rfl rfl rfl (by decide +kernel) ⟨Nat.le_of_ble_eq_true rfl, Nat.le_of_ble_eq_true rfl⟩) ⟨sv_blind, sv_recv hC.1 hR (ci := 14) (sv_go hv2).1 (by decide) rfl, fun U hU hW => sv_pre hC hR hS hBs hU hW⟩ rfl rfl hl.1 rfl (lv_room (Nat.le_of_ble_eq_true rfl)) dX14_readWall_138 ⟨Nat.zero_le _, Nat.zero_le _⟩) hS (fun H locs hR hS => ?_)
    refine lv_istore (lv' := [(9, .int r3), (8, .int r1), (0, .ref x0), (2, .int x2), (7, .int x7)]) hx hb dX14_readWall_141 hl (by decide) rfl (fun ls hl => ?_)
    refine lv_aload_n hx hb dX14_readWall_143 rfl (lv_at hl 2 rfl) ?_
    refine lv_iconst (v := 0) hx hb dX14_readWall_144 (by decide) ?_
    refine lv_iconst (v := 5) hx hb dX14_readWall_145 (by decide) ?_
    obtain ⟨r5, h6, hv3, hw⟩ := sv_b_some hw
    refine sv_call (va_runV (As := [.int 0, .int 5]) (rest := []) ⟨hx, hb, hml, hown, hts⟩ (mt_X14_next l G B hv3) (cwV 2 hts (sv_gV wd_1803 wd_1805 wd_55 wd_145 wd_1806) rfl rfl rfl (by decide +kernel) ⟨Nat.le_of_ble_eq_true rfl, Nat.le_of_ble_eq_true rfl⟩) ⟨sv_blind, sv_recv hC.1 hR (ci := 14) (sv_go hv3).1 (by decide) rfl, fun U hU hW => sv_pre hC hR hS hBs hU hW⟩ rfl rfl hl.1 rfl (lv_room (Nat.le_of_ble_eq_true rfl)) dX14_readWall_146 ⟨Nat.zero_le _, Nat.zero_le _⟩) hS (fun H locs hR hS => ?_)
    refine lv_istore (lv' := [(10, .int r5), (9, .int r3), (8, .int r1), (0, .ref x0), (2, .int x2), (7, .int x7)]) hx hb dX14_readWall_149 hl (by decide) rfl (fun ls hl => ?_)
    refine lv_aload_n hx hb dX14_readWall_151 rfl (lv_at hl 3 rfl) ?_
    refine lv_iconst (v := 0) hx hb dX14_readWall_152 (by decide) ?_
    refine lv_sipush (v := 255) hx hb dX14_readWall_153 (by decide) ?_
    obtain ⟨r7, h8, hv4, hw⟩ := sv_b_some hw
    refine sv_call (va_runV (As := [.int 0, .int 255]) (rest := []) ⟨hx, hb, hml, hown, hts⟩ (mt_X14_next l G B hv4) (cwV 2 hts (sv_gV wd_1803 wd_1805 wd_55 wd_145 wd_1806) rfl rfl rfl (by decide +kernel) ⟨Nat.le_of_ble_eq_true rfl, Nat.le_of_ble_eq_true rfl⟩) ⟨sv_blind, sv_recv hC.1 hR (ci := 14) (sv_go hv4).1 (by decide) rfl, fun U hU hW => sv_pre hC hR hS hBs hU hW⟩ rfl rfl hl.1 rfl (lv_room (Nat.le_of_ble_eq_true rfl)) dX14_readWall_156 ⟨Nat.zero_le _, Nat.zero_le _⟩) hS (fun H locs hR hS => ?_)
    refine lv_istore (lv' := [(11, .int r7), (10, .int r5), (9, .int r3), (8, .int r1), (0, .ref x0), (2, .int x2), (7, .int x7)]) hx hb dX14_readWall_159 hl (by decide) rfl (fun ls hl => ?_)
    obtain ⟨rfl, rfl⟩ := sv_ret hw
    exact W.vret hx hb hr (fun t ht hW => ⟨⟨rfl, by rw [ht]; exact hR⟩, hS.F ht⟩) hS.2.2 dX14_readWall_161
  · have hw := sv_iff cc hw
    refine lv_aload_n hx hb dX14_readWall_72 rfl (lv_at hl 0 rfl) ?_
    refine lv_iload_n hx hb dX14_readWall_73 rfl (lv_at hl 1 rfl) ?_
    obtain ⟨r9, h10, hv5, hw⟩ := sv_b_some hw
    refine sv_call (va_runV (As := [.int x2]) (rest := []) ⟨hx, hb, hml, hown, hts⟩ (mt_X14_nextOr l G B hv5) (cwV 1 hts (sv_gV wd_1835 wd_1837 wd_62 wd_145 wd_1838) rfl rfl rfl (by decide +kernel) ⟨Nat.le_of_ble_eq_true rfl, Nat.le_of_ble_eq_true rfl⟩) ⟨sv_blind, sv_recv hC.1 hR (ci := 14) (sv_go hv5).1 (by decide) rfl, fun U hU hW => sv_pre hC hR hS hBs hU hW⟩ rfl rfl hl.1 rfl (lv_room (Nat.le_of_ble_eq_true rfl)) dX14_readWall_74 ⟨Nat.zero_le _, Nat.zero_le _⟩) hS (fun H locs hR hS => ?_)
    refine lv_istore (lv' := [(9, .int r9), (0, .ref x0), (2, .int x2), (7, .int x7), (8, .int x8)]) hx hb dX14_readWall_77 hl (by decide) rfl (fun ls hl => ?_)
    refine lv_aload_n hx hb dX14_readWall_79 rfl (lv_at hl 1 rfl) ?_
    obtain ⟨v11, hv, hw⟩ := sv_bd hw
    refine sv_rgI hx hb hown hC.1 hR (fl_X14_readWall_25 hts hC hni) rfl (by decide) rfl rfl hv dX14_readWall_80 ?_
    refine lv_if_ne (tgt := 119) hx hb dX14_readWall_83 (by decide) (fun cc => ?_) (fun cc => ?_)
    · have hw := sv_iff cc hw
      exact lk_X14_readWall_119 K hk65 hw hR hS (lv_sub hl [1, 2, 3, 4] rfl)
    · have hw := sv_ift cc hw
      refine lv_iload hx hb dX14_readWall_86 (lv_at hl 4 rfl) ?_
      refine lv_iconst (v := 2) hx hb dX14_readWall_88 (by decide) ?_
      refine lv_icmp_le (tgt := 119) hx hb dX14_readWall_89 (by decide) (fun cc => ?_) (fun cc => ?_)
      · have hw := sv_ift cc hw
        exact lk_X14_readWall_119 K hk65 hw hR hS (lv_sub hl [1, 2, 3, 4] rfl)
      · have hw := sv_iff cc hw
        refine lv_iload hx hb dX14_readWall_92 (lv_at hl 3 rfl) ?_
        refine lv_sipush (v := 255) hx hb dX14_readWall_94 (by decide) ?_
        refine lv_icmp_ne (tgt := 119) hx hb dX14_readWall_97 (by decide) (fun cc => ?_) (fun cc => ?_)
        · have hw := sv_iff cc hw
          exact lk_X14_readWall_119 K hk65 hw hR hS (lv_sub hl [1, 2, 3, 4] rfl)
        · have hw := sv_ift cc hw
          refine lv_iload hx hb dX14_readWall_100 (lv_at hl 0 rfl) ?_
          refine lv_sipush (v := 255) hx hb dX14_readWall_102 (by decide) ?_
          refine lv_icmp_eq (tgt := 119) hx hb dX14_readWall_105 (by decide) (fun cc => ?_) (fun cc => ?_)
          · have hw := sv_ift cc hw
            exact lk_X14_readWall_119 K hk65 hw hR hS (lv_sub hl [1, 2, 3, 4] rfl)
          · have hw := sv_iff cc hw
            refine lv_aload_n hx hb dX14_readWall_108 rfl (lv_at hl 1 rfl) ?_
            refine lv_iconst (v := 3) hx hb dX14_readWall_109 (by decide) ?_
            refine lv_aload_n hx hb dX14_readWall_110 rfl (lv_at hl 1 rfl) ?_
            obtain ⟨v12, hv, hw⟩ := sv_bd hw
            refine sv_rgI hx hb hown hC.1 hR (fl_X14_readWall_34 hts hC hni) rfl (by decide) rfl rfl hv dX14_readWall_111 ?_
            refine lv_iconst (v := 1) hx hb dX14_readWall_114 (by decide) ?_
            refine lv_isub hx hb dX14_readWall_115 ?_
            obtain ⟨_, h13, hv6, hw⟩ := sv_b_some hw
            refine sv_call (va_runV (As := [.int 3, .int (v12 - 1)]) (rest := []) ⟨hx, hb, hml, hown, hts⟩ (mt_X14_wrong l G B hv6) (cwV 2 hts (sv_gV wd_1807 wd_1809 wd_56 wd_145 wd_1810) rfl rfl rfl (by decide +kernel) ⟨Nat.le_of_ble_eq_true rfl, Nat.le_of_ble_eq_true rfl⟩) ⟨sv_blind, sv_recv hC.1 hR (ci := 14) (sv_go hv6).1 (by decide) rfl, fun U hU hW => sv_pre hC hR hS hBs hU hW⟩ rfl rfl hl.1 rfl (lv_room (Nat.le_of_ble_eq_true rfl)) dX14_readWall_116 ⟨Nat.zero_le _, Nat.zero_le _⟩) hS (fun H locs hR hS => ?_)
            exact lk_X14_readWall_119 K hk65 hw hR hS (lv_sub hl [1, 2, 3, 4] rfl)
theorem lk_X14_readWall_65 {p : Program} {l : Launch} {e : Env} {s : State} {m : MethodId} {args : Array Value} {below : List Frame} {meth : Method} {c : Code} {G : sv_G} {B : Nat} (K : sv_W p s m args meth c cX14_readWall RX14 12 none G B "readWall") {r : Unit} {hE : sv_H} : ∀ (n : Nat) {x0 : Nat} {x2 : Int32} {x7 : Int32} {x8 : Int32} {h : sv_H}, fn_X14_readWall_65 n x0 x2 x7 x8 h = some (r, hE) → ∀ {H : Heap} {locs : List Loc} {ls : Array Slot}, sv_R G vwCl sv_ft B h H → va_S (fun q => B ≤ q) s.heap H locs → lv_has ls 12 [(0, .ref x0), (2, .int x2), (7, .int x7), (8, .int x8)] → W p l e rm_X14_readWall s m args below meth c H locs 0 0 (sv_Z below s args G B none hE) (F0 m 65 ls []) := by
  intro n
  induction n with
  | zero => intro x0 x2 x7 x8 h hw; cases (show (none : Option (Unit × sv_H)) = some (r, hE) from hw)
  | succ n ih => intro x0 x2 x7 x8 h hw H locs ls hR hS hl; exact lk_X14_readWall_65b K (fun hw => ih hw) hw hR hS hl
set_option maxHeartbeats 4000000 in
set_option maxRecDepth 100000 in
theorem lk_X14_readWall_45 {p : Program} {l : Launch} {e : Env} {s : State} {m : MethodId} {args : Array Value} {below : List Frame} {meth : Method} {c : Code} {G : sv_G} {B : Nat} (K : sv_W p s m args meth c cX14_readWall RX14 12 none G B "readWall") {r : Unit} {hE : sv_H} {x0 : Nat} {x2 : Int32} {x3 : Int32} {h : sv_H} (hw : fn_X14_readWall_45 x0 x2 x3 h = some (r, hE)) {H : Heap} {locs : List Loc} {ls : Array Slot} (hR : sv_R G vwCl sv_ft B h H) (hS : va_S (fun q => B ≤ q) s.heap H locs) (hl : lv_has ls 12 [(0, .ref x0), (2, .int x2), (3, .int x3)]) : W p l e rm_X14_readWall s m args below meth c H locs 0 0 (sv_Z below s args G B none hE) (F0 m 45 ls []) := by
  obtain ⟨hx, hb, hml, hown, hts, hC, hlk, hr, hBs, hni⟩ := id K
  unfold fn_X14_readWall_45 at hw
  refine lv_aload_n hx hb dX14_readWall_45 rfl (lv_at hl 0 rfl) ?_
  refine lv_iconst (v := 0) hx hb dX14_readWall_46 (by decide) ?_
  refine lv_iload_n hx hb dX14_readWall_47 rfl (lv_at hl 2 rfl) ?_
  refine lv_iconst (v := 1) hx hb dX14_readWall_48 (by decide) ?_
  refine lv_isub hx hb dX14_readWall_49 ?_
  obtain ⟨r1, h2, hv1, hw⟩ := sv_b_some hw
  refine sv_call (va_runV (As := [.int 0, .int (x3 - 1)]) (rest := []) ⟨hx, hb, hml, hown, hts⟩ (mt_X14_next l G B hv1) (cwV 2 hts (sv_gV wd_1803 wd_1805 wd_55 wd_145 wd_1806) rfl rfl rfl (by decide +kernel) ⟨Nat.le_of_ble_eq_true rfl, Nat.le_of_ble_eq_true rfl⟩) ⟨sv_blind, sv_recv hC.1 hR (ci := 14) (sv_go hv1).1 (by decide) rfl, fun U hU hW => sv_pre hC hR hS hBs hU hW⟩ rfl rfl hl.1 rfl (lv_room (Nat.le_of_ble_eq_true rfl)) dX14_readWall_50 ⟨Nat.zero_le _, Nat.zero_le _⟩) hS (fun H locs hR hS => ?_)
  refine lv_istore (lv' := [(6, .int r1), (0, .ref x0), (2, .int x2), (3, .int x3)]) hx hb dX14_readWall_53 hl (by decide) rfl (fun ls hl => ?_)
  refine lv_aload_n hx hb dX14_readWall_55 rfl (lv_at hl 1 rfl) ?_
  refine lv_iload_n hx hb dX14_readWall_56 rfl (lv_at hl 3 rfl) ?_
  obtain ⟨r3, h4, hv2, hw⟩ := sv_b_some hw
  refine sv_call (va_runV (As := [.int x3]) (rest := []) ⟨hx, hb, hml, hown, hts⟩ (mt_X14_nextOr l G B hv2) (cwV 1 hts (sv_gV wd_1835 wd_1837 wd_62 wd_145 wd_1838) rfl rfl rfl (by decide +kernel) ⟨Nat.le_of_ble_eq_true rfl, Nat.le_of_ble_eq_true rfl⟩) ⟨sv_blind, sv_recv hC.1 hR (ci := 14) (sv_go hv2).1 (by decide) rfl, fun U hU hW => sv_pre hC hR hS hBs hU hW⟩ rfl rfl hl.1 rfl (lv_room (Nat.le_of_ble_eq_true rfl)) dX14_readWall_57 ⟨Nat.zero_le _, Nat.zero_le _⟩) hS (fun H locs hR hS => ?_)
  refine lv_istore (lv' := [(7, .int r3), (6, .int r1), (0, .ref x0), (2, .int x2), (3, .int x3)]) hx hb dX14_readWall_60 hl (by decide) rfl (fun ls hl => ?_)
  refine lv_iconst (v := 0) hx hb dX14_readWall_62 (by decide) ?_
  refine lv_istore (lv' := [(8, .int 0), (7, .int r3), (6, .int r1), (0, .ref x0), (2, .int x2), (3, .int x3)]) hx hb dX14_readWall_63 hl (by decide) rfl (fun ls hl => ?_)
  exact lk_X14_readWall_65 K sv_fuel hw hR hS (lv_sub hl [3, 4, 1, 0] rfl)
set_option maxHeartbeats 4000000 in
set_option maxRecDepth 100000 in
theorem lk_X14_readWall_0 {p : Program} {l : Launch} {e : Env} {s : State} {m : MethodId} {args : Array Value} {below : List Frame} {meth : Method} {c : Code} {G : sv_G} {B : Nat} (K : sv_W p s m args meth c cX14_readWall RX14 12 none G B "readWall") {r : Unit} {hE : sv_H} {x0 : Nat} {x1 : Int32} {x2 : Int32} {x3 : Int32} {h : sv_H} (hw : fn_X14_readWall x0 x1 x2 x3 h = some (r, hE)) {H : Heap} {locs : List Loc} {ls : Array Slot} (hR : sv_R G vwCl sv_ft B h H) (hS : va_S (fun q => B ≤ q) s.heap H locs) (hl : lv_has ls 12 [(0, .ref x0), (1, .int x1), (2, .int x2), (3, .int x3)]) : W p l e rm_X14_readWall s m args below meth c H locs 0 0 (sv_Z below s args G B none hE) (F0 m 0 ls []) := by
  obtain ⟨hx, hb, hml, hown, hts, hC, hlk, hr, hBs, hni⟩ := id K
  unfold fn_X14_readWall at hw
  have hw := (sv_go hw).2
  refine lv_aload_n hx hb dX14_readWall_0 rfl (lv_at hl 0 rfl) ?_
  refine lv_iconst (v := 0) hx hb dX14_readWall_1 (by decide) ?_
  refine lv_iload_n hx hb dX14_readWall_2 rfl (lv_at hl 1 rfl) ?_
  refine lv_iconst (v := 1) hx hb dX14_readWall_3 (by decide) ?_
  refine lv_isub hx hb dX14_readWall_4 ?_
  obtain ⟨r1, h2, hv1, hw⟩ := sv_b_some hw
  refine sv_call (va_runV (As := [.int 0, .int (x1 - 1)]) (rest := []) ⟨hx, hb, hml, hown, hts⟩ (mt_X14_next l G B hv1) (cwV 2 hts (sv_gV wd_1803 wd_1805 wd_55 wd_145 wd_1806) rfl rfl rfl (by decide +kernel) ⟨Nat.le_of_ble_eq_true rfl, Nat.le_of_ble_eq_true rfl⟩) ⟨sv_blind, sv_recv hC.1 hR (ci := 14) (sv_go hv1).1 (by decide) rfl, fun U hU hW => sv_pre hC hR hS hBs hU hW⟩ rfl rfl hl.1 rfl (lv_room (Nat.le_of_ble_eq_true rfl)) dX14_readWall_5 ⟨Nat.zero_le _, Nat.zero_le _⟩) hS (fun H locs hR hS => ?_)
  refine lv_istore (lv' := [(4, .int r1), (0, .ref x0), (1, .int x1), (2, .int x2), (3, .int x3)]) hx hb dX14_readWall_8 hl (by decide) rfl (fun ls hl => ?_)
  refine lv_aload_n hx hb dX14_readWall_10 rfl (lv_at hl 1 rfl) ?_
  refine lv_iconst (v := 0) hx hb dX14_readWall_11 (by decide) ?_
  refine lv_iload_n hx hb dX14_readWall_12 rfl (lv_at hl 2 rfl) ?_
  refine lv_iconst (v := 1) hx hb dX14_readWall_13 (by decide) ?_
  refine lv_isub hx hb dX14_readWall_14 ?_
  obtain ⟨r3, h4, hv2, hw⟩ := sv_b_some hw
  refine sv_call (va_runV (As := [.int 0, .int (x1 - 1)]) (rest := []) ⟨hx, hb, hml, hown, hts⟩ (mt_X14_next l G B hv2) (cwV 2 hts (sv_gV wd_1803 wd_1805 wd_55 wd_145 wd_1806) rfl rfl rfl (by decide +kernel) ⟨Nat.le_of_ble_eq_true rfl, Nat.le_of_ble_eq_true rfl⟩) ⟨sv_blind, sv_recv hC.1 hR (ci := 14) (sv_go hv2).1 (by decide) rfl, fun U hU hW => sv_pre hC hR hS hBs hU hW⟩ rfl rfl hl.1 rfl (lv_room (Nat.le_of_ble_eq_true rfl)) dX14_readWall_15 ⟨Nat.zero_le _, Nat.zero_le _⟩) hS (fun H locs hR hS => ?_)
  refine lv_istore (lv' := [(5, .int r3), (4, .int r1), (0, .ref x0), (1, .int x1), (2, .int x2), (3, .int x3)]) hx hb dX14_readWall_18 hl (by decide) rfl (fun ls hl => ?_)
  refine lv_aload_n hx hb dX14_readWall_20 rfl (lv_at hl 2 rfl) ?_
  obtain ⟨v5, hv, hw⟩ := sv_bd hw
  refine sv_rgI hx hb hown hC.1 hR (fl_X14_readWall_25 hts hC hni) rfl (by decide) rfl rfl hv dX14_readWall_21 ?_
  refine lv_if_ne (tgt := 45) hx hb dX14_readWall_24 (by decide) (fun cc => ?_) (fun cc => ?_)
  · have hw := sv_iff cc hw
    exact lk_X14_readWall_45 K hw hR hS (lv_sub hl [2, 4, 5] rfl)
  · have hw := sv_ift cc hw
    refine lv_iload hx hb dX14_readWall_27 (lv_at hl 1 rfl) ?_
    refine lv_iload hx hb dX14_readWall_29 (lv_at hl 0 rfl) ?_
    refine lv_icmp_ne (tgt := 45) hx hb dX14_readWall_31 (by decide) (fun cc => ?_) (fun cc => ?_)
    · have hw := sv_iff cc hw
      exact lk_X14_readWall_45 K hw hR hS (lv_sub hl [2, 4, 5] rfl)
    · have hw := sv_ift cc hw
      refine lv_aload_n hx hb dX14_readWall_34 rfl (lv_at hl 2 rfl) ?_
      refine lv_iconst (v := 3) hx hb dX14_readWall_35 (by decide) ?_
      refine lv_aload_n hx hb dX14_readWall_36 rfl (lv_at hl 2 rfl) ?_
      obtain ⟨v6, hv, hw⟩ := sv_bd hw
      refine sv_rgI hx hb hown hC.1 hR (fl_X14_readWall_34 hts hC hni) rfl (by decide) rfl rfl hv dX14_readWall_37 ?_
      refine lv_iconst (v := 1) hx hb dX14_readWall_40 (by decide) ?_
      refine lv_isub hx hb dX14_readWall_41 ?_
      obtain ⟨_, h7, hv3, hw⟩ := sv_b_some hw
      refine sv_call (va_runV (As := [.int 3, .int (v6 - 1)]) (rest := []) ⟨hx, hb, hml, hown, hts⟩ (mt_X14_wrong l G B hv3) (cwV 2 hts (sv_gV wd_1807 wd_1809 wd_56 wd_145 wd_1810) rfl rfl rfl (by decide +kernel) ⟨Nat.le_of_ble_eq_true rfl, Nat.le_of_ble_eq_true rfl⟩) ⟨sv_blind, sv_recv hC.1 hR (ci := 14) (sv_go hv3).1 (by decide) rfl, fun U hU hW => sv_pre hC hR hS hBs hU hW⟩ rfl rfl hl.1 rfl (lv_room (Nat.le_of_ble_eq_true rfl)) dX14_readWall_42 ⟨Nat.zero_le _, Nat.zero_le _⟩) hS (fun H locs hR hS => ?_)
      exact lk_X14_readWall_45 K hw hR hS (lv_sub hl [2, 4, 5] rfl)
set_option maxHeartbeats 4000000 in
set_option maxRecDepth 100000 in
theorem mt_X14_readWall (l : Launch) (G : sv_G) (B : Nat) {x0 : Nat} {x1 : Int32} {x2 : Int32} {x3 : Int32} {h : sv_H} {r : Unit} {hE : sv_H} (hw : fn_X14_readWall x0 x1 x2 x3 h = some (r, hE)) : Met l yX14_readWall (.code yX14_readWall cX14_readWall 12 none :: sv_tb) rm_X14_readWall (sv_Pc G B [.ref x0, .int x1, .int x2, .int x3] h) (sv_Q G B none hE) 0 0 (fun q => B ≤ q) := by
  refine Met.ofW (cc := cX14_readWall) (maxL := 12) (ret := none) (by decide +kernel) rfl ?_
  intro p e s m args below meth c s₁ Bd hml hv
  obtain ⟨rfl, hR, hC, hB⟩ := hv
  have hl := lv_entry ([.ref x0, .int x1, .int x2, .int x3]) (n := 12) (Nat.le_of_ble_eq_true rfl)
  rw [lg_entry_eq]
  generalize (lg_sl ([.ref x0, .int x1, .int x2, .int x3]) ++ List.replicate (12 - (lg_sl ([.ref x0, .int x1, .int x2, .int x3])).length) Slot.unset).toArray = ls at hl ⊢
  have hl : lv_has ls 12 [(0, .ref x0), (1, .int x1), (2, .int x2), (3, .int x3)] := hl
  exact lk_X14_readWall_0 ⟨Bd.exec, Bd.bytes, hml, findClass_of_methodNamed Bd.named, fun w h => atoms_spec (ws := .code yX14_readWall cX14_readWall 12 none :: sv_tb) Bd.pre w (List.mem_cons_of_mem _ h), hC, Bd.notSynchronized, Bd.returns, hB, (name_of_methodNamed Bd.named Bd.method).1⟩ hw hR va_S.rf hl

